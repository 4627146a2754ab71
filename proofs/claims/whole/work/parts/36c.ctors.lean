/-! constructors (written by ctorgen.py) -/
theorem d_Benchinit_0 : decode prog_1_method_1_code 0 = .ok (.aload_n 0, 1) := by decide +kernel
theorem d_Benchinit_1 : decode prog_1_method_1_code 1 = .ok (.invokespecial 1, 3) := by decide +kernel
theorem d_Benchinit_4 : decode prog_1_method_1_code 4 = .ok (.aload_n 0, 1) := by decide +kernel
theorem d_Benchinit_5 : decode prog_1_method_1_code 5 = .ok (.iconst 4, 1) := by decide +kernel
theorem d_Benchinit_6 : decode prog_1_method_1_code 6 = .ok (.anewarray 9, 3) := by decide +kernel
theorem d_Benchinit_9 : decode prog_1_method_1_code 9 = .ok (.putfield 11, 3) := by decide +kernel
theorem d_Benchinit_12 : decode prog_1_method_1_code 12 = .ok (.aload_n 0, 1) := by decide +kernel
theorem d_Benchinit_13 : decode prog_1_method_1_code 13 = .ok (.new 9, 3) := by decide +kernel
theorem d_Benchinit_16 : decode prog_1_method_1_code 16 = .ok (.dup, 1) := by decide +kernel
theorem d_Benchinit_17 : decode prog_1_method_1_code 17 = .ok (.invokespecial 15, 3) := by decide +kernel
theorem d_Benchinit_20 : decode prog_1_method_1_code 20 = .ok (.putfield 16, 3) := by decide +kernel
theorem d_Benchinit_23 : decode prog_1_method_1_code 23 = .ok (.aload_n 0, 1) := by decide +kernel
theorem d_Benchinit_24 : decode prog_1_method_1_code 24 = .ok (.new 20, 3) := by decide +kernel
theorem d_Benchinit_27 : decode prog_1_method_1_code 27 = .ok (.dup, 1) := by decide +kernel
theorem d_Benchinit_28 : decode prog_1_method_1_code 28 = .ok (.invokespecial 22, 3) := by decide +kernel
theorem d_Benchinit_31 : decode prog_1_method_1_code 31 = .ok (.putfield 23, 3) := by decide +kernel
theorem d_Benchinit_34 : decode prog_1_method_1_code 34 = .ok (.aload_n 0, 1) := by decide +kernel
theorem d_Benchinit_35 : decode prog_1_method_1_code 35 = .ok (.new 27, 3) := by decide +kernel
theorem d_Benchinit_38 : decode prog_1_method_1_code 38 = .ok (.dup, 1) := by decide +kernel
theorem d_Benchinit_39 : decode prog_1_method_1_code 39 = .ok (.invokespecial 29, 3) := by decide +kernel
theorem d_Benchinit_42 : decode prog_1_method_1_code 42 = .ok (.putfield 30, 3) := by decide +kernel
theorem d_Benchinit_45 : decode prog_1_method_1_code 45 = .ok (.aload_n 0, 1) := by decide +kernel
theorem d_Benchinit_46 : decode prog_1_method_1_code 46 = .ok (.new 34, 3) := by decide +kernel
theorem d_Benchinit_49 : decode prog_1_method_1_code 49 = .ok (.dup, 1) := by decide +kernel
theorem d_Benchinit_50 : decode prog_1_method_1_code 50 = .ok (.invokespecial 36, 3) := by decide +kernel
theorem d_Benchinit_53 : decode prog_1_method_1_code 53 = .ok (.putfield 37, 3) := by decide +kernel
theorem d_Benchinit_56 : decode prog_1_method_1_code 56 = .ok (.aload_n 0, 1) := by decide +kernel
theorem d_Benchinit_57 : decode prog_1_method_1_code 57 = .ok (.new 41, 3) := by decide +kernel
theorem d_Benchinit_60 : decode prog_1_method_1_code 60 = .ok (.dup, 1) := by decide +kernel
theorem d_Benchinit_61 : decode prog_1_method_1_code 61 = .ok (.invokespecial 43, 3) := by decide +kernel
theorem d_Benchinit_64 : decode prog_1_method_1_code 64 = .ok (.putfield 44, 3) := by decide +kernel
theorem d_Benchinit_67 : decode prog_1_method_1_code 67 = .ok (.aload_n 0, 1) := by decide +kernel
theorem d_Benchinit_68 : decode prog_1_method_1_code 68 = .ok (.new 48, 3) := by decide +kernel
theorem d_Benchinit_71 : decode prog_1_method_1_code 71 = .ok (.dup, 1) := by decide +kernel
theorem d_Benchinit_72 : decode prog_1_method_1_code 72 = .ok (.invokespecial 50, 3) := by decide +kernel
theorem d_Benchinit_75 : decode prog_1_method_1_code 75 = .ok (.putfield 51, 3) := by decide +kernel
theorem d_Benchinit_78 : decode prog_1_method_1_code 78 = .ok (.aload_n 0, 1) := by decide +kernel
theorem d_Benchinit_79 : decode prog_1_method_1_code 79 = .ok (.new 55, 3) := by decide +kernel
theorem d_Benchinit_82 : decode prog_1_method_1_code 82 = .ok (.dup, 1) := by decide +kernel
theorem d_Benchinit_83 : decode prog_1_method_1_code 83 = .ok (.invokespecial 57, 3) := by decide +kernel
theorem d_Benchinit_86 : decode prog_1_method_1_code 86 = .ok (.putfield 58, 3) := by decide +kernel
theorem d_Benchinit_89 : decode prog_1_method_1_code 89 = .ok (.aload_n 0, 1) := by decide +kernel
theorem d_Benchinit_90 : decode prog_1_method_1_code 90 = .ok (.new 62, 3) := by decide +kernel
theorem d_Benchinit_93 : decode prog_1_method_1_code 93 = .ok (.dup, 1) := by decide +kernel
theorem d_Benchinit_94 : decode prog_1_method_1_code 94 = .ok (.invokespecial 64, 3) := by decide +kernel
theorem d_Benchinit_97 : decode prog_1_method_1_code 97 = .ok (.putfield 65, 3) := by decide +kernel
theorem d_Benchinit_100 : decode prog_1_method_1_code 100 = .ok (.aload_n 0, 1) := by decide +kernel
theorem d_Benchinit_101 : decode prog_1_method_1_code 101 = .ok (.bipush 8, 2) := by decide +kernel
theorem d_Benchinit_103 : decode prog_1_method_1_code 103 = .ok (.newarray .int, 2) := by decide +kernel
theorem d_Benchinit_105 : decode prog_1_method_1_code 105 = .ok (.putfield 69, 3) := by decide +kernel
theorem d_Benchinit_108 : decode prog_1_method_1_code 108 = .ok (.aload_n 0, 1) := by decide +kernel
theorem d_Benchinit_109 : decode prog_1_method_1_code 109 = .ok (.new 73, 3) := by decide +kernel
theorem d_Benchinit_112 : decode prog_1_method_1_code 112 = .ok (.dup, 1) := by decide +kernel
theorem d_Benchinit_113 : decode prog_1_method_1_code 113 = .ok (.invokespecial 75, 3) := by decide +kernel
theorem d_Benchinit_116 : decode prog_1_method_1_code 116 = .ok (.putfield 76, 3) := by decide +kernel
theorem d_Benchinit_119 : decode prog_1_method_1_code 119 = .ok (.iconst 0, 1) := by decide +kernel
theorem d_Benchinit_120 : decode prog_1_method_1_code 120 = .ok (.istore_n 1, 1) := by decide +kernel
theorem d_Benchinit_121 : decode prog_1_method_1_code 121 = .ok (.iload_n 1, 1) := by decide +kernel
theorem d_Benchinit_122 : decode prog_1_method_1_code 122 = .ok (.iconst 4, 1) := by decide +kernel
theorem d_Benchinit_123 : decode prog_1_method_1_code 123 = .ok (.if_icmp .ge 22, 3) := by decide +kernel
theorem d_Benchinit_126 : decode prog_1_method_1_code 126 = .ok (.aload_n 0, 1) := by decide +kernel
theorem d_Benchinit_127 : decode prog_1_method_1_code 127 = .ok (.getfield 11, 3) := by decide +kernel
theorem d_Benchinit_130 : decode prog_1_method_1_code 130 = .ok (.iload_n 1, 1) := by decide +kernel
theorem d_Benchinit_131 : decode prog_1_method_1_code 131 = .ok (.new 9, 3) := by decide +kernel
theorem d_Benchinit_134 : decode prog_1_method_1_code 134 = .ok (.dup, 1) := by decide +kernel
theorem d_Benchinit_135 : decode prog_1_method_1_code 135 = .ok (.invokespecial 15, 3) := by decide +kernel
theorem d_Benchinit_138 : decode prog_1_method_1_code 138 = .ok (.aastore, 1) := by decide +kernel
theorem d_Benchinit_139 : decode prog_1_method_1_code 139 = .ok (.iinc 1 1, 3) := by decide +kernel
theorem d_Benchinit_142 : decode prog_1_method_1_code 142 = .ok (.goto (-21), 3) := by decide +kernel
theorem d_Benchinit_145 : decode prog_1_method_1_code 145 = .ok (.return_, 1) := by decide +kernel
theorem o_Bench (G : HGeo) : (h_fl 84).mapIdx (fun k q => h_fv G h_μ0 84 k q) = [.ref (G.2.2 (85)), .ref (G.2.2 (16)), .ref (G.2.2 (86)), .ref (G.2.2 (88)), .ref (G.2.2 (90)), .ref (G.2.2 (92)), .ref (G.2.2 (97)), .ref (G.2.2 (103)), .ref (G.2.2 (117)), .ref (G.2.2 (121)), .ref (G.2.2 (122))] := by
  rw [show h_fl 84 = [(2, 85), (2, 16), (2, 86), (2, 88), (2, 90), (2, 92), (2, 97), (2, 103), (2, 117), (2, 121), (2, 122)] from by decide +kernel]
  simp only [List.mapIdx_cons, List.mapIdx_nil]
  rfl
def b_Bench : List Nat := [84, 85, 16, 17, 18, 19, 86, 87, 20, 21, 22, 23, 24, 25, 26, 27, 28, 29, 30, 31, 32, 33, 34, 35, 36, 37, 38, 39, 40, 41, 42, 43, 44, 45, 46, 47, 48, 49, 50, 51, 52, 53, 54, 55, 56, 57, 58, 59, 60, 61, 62, 63, 64, 65, 66, 67, 68, 69, 70, 71, 72, 73, 74, 75, 76, 77, 78, 79, 80, 81, 82, 83, 88, 89, 90, 91, 92, 93, 94, 95, 96, 97, 98, 99, 100, 101, 102, 103, 104, 105, 106, 107, 108, 109, 110, 111, 112, 113, 114, 115, 116, 117, 118, 119, 120, 121, 122, 123, 124, 0, 1, 2, 3, 4, 5, 6, 7, 8, 9, 10, 11, 12, 13, 14, 15]
theorem m_Bench : ∀ d, d ∈ b_Bench → d ≠ 84 → d ≠ 85 → ((((((((((((((False ∨ d ∈ [16, 16 + 1, 16 + 2, 16 + 3]) ∨ d ∈ b_History) ∨ d ∈ b_Text) ∨ d ∈ b_Script) ∨ d ∈ b_Elimination) ∨ d ∈ b_MapSums) ∨ d ∈ b_HomSearch) ∨ d ∈ b_Bijections) ∨ d = 121) ∨ d ∈ b_Walks) ∨ d ∈ [0, 0 + 1, 0 + 2, 0 + 3]) ∨ d ∈ [4, 4 + 1, 4 + 2, 4 + 3]) ∨ d ∈ [8, 8 + 1, 8 + 2, 8 + 3]) ∨ d ∈ [12, 12 + 1, 12 + 2, 12 + 3]) := by decide +kernel
theorem cs_Bench : NSpec ⟨"HomBench", "<init>", "()V"⟩ prog_1_method_1_code 2 3 124 2729 84 (.inr (1, [.null, .null, .null, .null, .null, .null, .null, .null, .null, .null, .null])) b_Bench := by
  refine NSpec.of (by decide +kernel) rfl (by decide) fun cx base bs hN hg => ?_
  obtain ⟨p, lc, e, Rm, s, m, args, below, meth, c1, G, A⟩ := cx
  obtain ⟨hG, hA, hin, hsz⟩ := id hN
  have hz : ∀ q, G.2.2 84 ≤ q → A q := fun q hq => by rw [hA]; exact hq
  have hzz : ∀ t q, G.2.2 84 + t ≤ q → A q := fun t q h => hz q (Nat.le_trans (Nat.le_add_right _ _) h)
  have aa : G.2.2 84 = base + 0 := sz_at hG (by decide) (by decide)
  have a85 : G.2.2 85 = G.2.2 84 + 1 := by rw [sz_at hG (c := 85) (P := 1) (by decide) (by decide), aa]
  have a16 : G.2.2 16 = G.2.2 84 + 2 := by rw [sz_at hG (c := 16) (P := 2) (by decide) (by decide), aa]
  have a86 : G.2.2 86 = G.2.2 84 + 6 := by rw [sz_at hG (c := 86) (P := 6) (by decide) (by decide), aa]
  have a88 : G.2.2 88 = G.2.2 84 + 72 := by rw [sz_at hG (c := 88) (P := 72) (by decide) (by decide), aa]
  have a90 : G.2.2 90 = G.2.2 84 + 74 := by rw [sz_at hG (c := 90) (P := 74) (by decide) (by decide), aa]
  have a92 : G.2.2 92 = G.2.2 84 + 76 := by rw [sz_at hG (c := 92) (P := 76) (by decide) (by decide), aa]
  have a97 : G.2.2 97 = G.2.2 84 + 81 := by rw [sz_at hG (c := 97) (P := 81) (by decide) (by decide), aa]
  have a103 : G.2.2 103 = G.2.2 84 + 87 := by rw [sz_at hG (c := 103) (P := 87) (by decide) (by decide), aa]
  have a117 : G.2.2 117 = G.2.2 84 + 101 := by rw [sz_at hG (c := 117) (P := 101) (by decide) (by decide), aa]
  have a121 : G.2.2 121 = G.2.2 84 + 105 := by rw [sz_at hG (c := 121) (P := 105) (by decide) (by decide), aa]
  have a122 : G.2.2 122 = G.2.2 84 + 106 := by rw [sz_at hG (c := 122) (P := 106) (by decide) (by decide), aa]
  have a0 : G.2.2 0 = G.2.2 84 + 109 := by rw [sz_at hG (c := 0) (P := 109) (by decide) (by decide), aa]
  have a4 : G.2.2 4 = G.2.2 84 + 113 := by rw [sz_at hG (c := 4) (P := 113) (by decide) (by decide), aa]
  have a8 : G.2.2 8 = G.2.2 84 + 117 := by rw [sz_at hG (c := 8) (P := 117) (by decide) (by decide), aa]
  have a12 : G.2.2 12 = G.2.2 84 + 121 := by rw [sz_at hG (c := 12) (P := 121) (by decide) (by decide), aa]
  show NX _ _ [(G.2.2 84, _)] (fun _ => False) (G.2.2 84 + 1) 0 0 0 [(0, .ref (G.2.2 84))] []
  have hS0 : ∀ e, False → G.2.2 84 + 2 ≤ G.2.2 e ∧ G.2.2 e < G.2.2 84 + 1 := fun e h => h.elim
  refine n_aload hg 0 d_Benchinit_0 rfl rfl ?_
  refine n_objInit hg k_44 k_1 k_2 d_Benchinit_1 (by decide) (by decide) ?_
  refine n_aload hg 0 d_Benchinit_4 rfl rfl ?_
  refine n_iconst hg (v := 4) d_Benchinit_5 (by decide) ?_
  refine n_newq hg (N := 4) (cA := G.2.1 4) rfl k_45 (by decide) (by decide) (by decide) ⟨by decide, by decide⟩ d_Benchinit_6 (so1 0) (fun e h => (hS0 e h).2) ?_
  rw [h_hq0 G 85]
  have hS1 : ∀ e, False → G.2.2 84 + 2 ≤ G.2.2 e ∧ G.2.2 e < G.2.2 84 + 1 + 1 := fun e h => h.elim
  refine n_putF hg (us' := [(G.2.2 84 + 1, .inl (G.2.1 4, 4, .inr (.inr (.inr (.inr (h_hq G 85 0))))))]) (ci := 1) (j := 0) (fs := [.null, .null, .null, .null, .null, .null, .null, .null, .null, .null, .null]) ⟨rfl, i_Bench⟩ t_Bench_ok n_Bench rfl so3 (by decide) rfl rfl hin (ty := .array (.object "HomBench$Graph")) (by decide +kernel) rfl rfl (Nat.le_of_ble_eq_true rfl) k_46 d_Benchinit_9 ⟨hz _ (Nat.le_refl _), fun e h => Nat.ne_of_gt (Nat.lt_of_succ_lt (hS1 e h).1)⟩ ?_
  refine n_aload hg 0 d_Benchinit_12 rfl rfl ?_
  refine n_make hg (d := 16) (ci := 0) (N := 4) (C := "HomBench$Graph") (T := F_Graph) (ty0 := t_Graph) (fs := [.int 0, .null, .null, .null]) (i1 := 9) (i2 := 15) (base := base) (bs := bs) (cs_Graph 16 (by decide)) ⟨hG, a16, fun q hq => hzz 2 q hq, (fun e h => (hS1 e h).2)⟩ (so2 0) ⟨rfl, i_Graph⟩ t_Graph_ok (by decide +kernel) ⟨(by intro w hw; simp only [List.mem_cons, List.not_mem_nil, or_false] at hw; rcases hw with rfl | rfl | rfl | rfl | rfl | rfl; exact k_40; exact k_41; exact k_42; exact k_45; exact k_43; exact k_41), rfl, by decide +kernel, by decide +kernel, by decide +kernel⟩ (Or.inl ⟨"HomBench", by decide +kernel⟩) ⟨by decide, by decide⟩ ⟨by decide, by decide⟩ (Nat.le_of_ble_eq_true rfl) d_Benchinit_13 d_Benchinit_16 d_Benchinit_17 ?_
  have hS2 := sz_orb (B := fun e => e ∈ [16, 16 + 1, 16 + 2, 16 + 3]) (z' := G.2.2 84 + 1 + 1 + 1 + 3) hS1 (sz_blk2 hG aa (t := 2) (t' := 6) (by decide +kernel)) (show G.2.2 84 + 2 ≤ G.2.2 84 + 2 from Nat.add_le_add_left (by decide) _) (show G.2.2 84 + 2 ≤ G.2.2 84 + 6 from Nat.add_le_add_left (by decide) _)
  refine n_putF hg (us' := [(G.2.2 84 + 1, .inl (G.2.1 4, 4, .inr (.inr (.inr (.inr (h_hq G 85 0))))))]) (ci := 1) (j := 1) (fs := [.ref (G.2.2 84 + 1), .null, .null, .null, .null, .null, .null, .null, .null, .null, .null]) ⟨rfl, i_Bench⟩ t_Bench_ok n_Bench rfl so3 (by decide) rfl rfl hin (ty := .object "HomBench$Graph") (by decide +kernel) rfl rfl (Nat.le_of_ble_eq_true rfl) k_47 d_Benchinit_20 ⟨hz _ (Nat.le_refl _), fun e h => Nat.ne_of_gt (Nat.lt_of_succ_lt (hS2 e h).1)⟩ ?_
  refine n_aload hg 0 d_Benchinit_23 rfl rfl ?_
  refine n_make hg (d := 86) (ci := 2) (N := 3) (C := "HomBench$History") (T := F_History) (ty0 := t_History) (fs := [.null, .int 0, .int 0]) (i1 := 20) (i2 := 22) (base := base) (bs := bs) cs_History ⟨hG, a86, fun q hq => hzz 6 q hq, (fun e h => (hS2 e h).2)⟩ (so2 4) ⟨rfl, i_History⟩ t_History_ok (by decide +kernel) ⟨(by intro w hw; simp only [List.mem_cons, List.not_mem_nil, or_false] at hw; rcases hw with rfl | rfl | rfl | rfl | rfl | rfl; exact k_48; exact k_49; exact k_50; exact k_51; exact k_52; exact k_49), rfl, by decide +kernel, by decide +kernel, by decide +kernel⟩ (Or.inl ⟨"HomBench", by decide +kernel⟩) ⟨by decide, by decide⟩ ⟨by decide, by decide⟩ (Nat.le_of_ble_eq_true rfl) d_Benchinit_24 d_Benchinit_27 d_Benchinit_28 ?_
  have hS3 := sz_orb (B := fun e => e ∈ b_History) (z' := G.2.2 84 + 1 + 1 + 1 + 3 + 1 + 65) hS2 (sz_blk2 hG aa (t := 6) (t' := 72) (by decide +kernel)) (show G.2.2 84 + 2 ≤ G.2.2 84 + 6 from Nat.add_le_add_left (by decide) _) (show G.2.2 84 + 6 ≤ G.2.2 84 + 72 from Nat.add_le_add_left (by decide) _)
  refine n_putF hg (us' := [(G.2.2 84 + 1, .inl (G.2.1 4, 4, .inr (.inr (.inr (.inr (h_hq G 85 0))))))]) (ci := 1) (j := 2) (fs := [.ref (G.2.2 84 + 1), .ref (G.2.2 84 + 1 + 1), .null, .null, .null, .null, .null, .null, .null, .null, .null]) ⟨rfl, i_Bench⟩ t_Bench_ok n_Bench rfl so3 (by decide) rfl rfl hin (ty := .object "HomBench$History") (by decide +kernel) rfl rfl (Nat.le_of_ble_eq_true rfl) k_53 d_Benchinit_31 ⟨hz _ (Nat.le_refl _), fun e h => Nat.ne_of_gt (Nat.lt_of_succ_lt (hS3 e h).1)⟩ ?_
  refine n_aload hg 0 d_Benchinit_34 rfl rfl ?_
  refine n_make hg (d := 88) (ci := 3) (N := 3) (C := "HomBench$Text") (T := F_Text) (ty0 := t_Text) (fs := [.null, .int 0, .int 0]) (i1 := 27) (i2 := 29) (base := base) (bs := bs) cs_Text ⟨hG, a88, fun q hq => hzz 72 q hq, (fun e h => (hS3 e h).2)⟩ (so2 70) ⟨rfl, i_Text⟩ t_Text_ok (by decide +kernel) ⟨(by intro w hw; simp only [List.mem_cons, List.not_mem_nil, or_false] at hw; rcases hw with rfl | rfl | rfl | rfl | rfl | rfl; exact k_54; exact k_55; exact k_56; exact k_57; exact k_58; exact k_55), rfl, by decide +kernel, by decide +kernel, by decide +kernel⟩ (Or.inl ⟨"HomBench", by decide +kernel⟩) ⟨by decide, by decide⟩ ⟨by decide, by decide⟩ (Nat.le_of_ble_eq_true rfl) d_Benchinit_35 d_Benchinit_38 d_Benchinit_39 ?_
  have hS4 := sz_orb (B := fun e => e ∈ b_Text) (z' := G.2.2 84 + 1 + 1 + 1 + 3 + 1 + 65 + 1 + 1) hS3 (sz_blk2 hG aa (t := 72) (t' := 74) (by decide +kernel)) (show G.2.2 84 + 2 ≤ G.2.2 84 + 72 from Nat.add_le_add_left (by decide) _) (show G.2.2 84 + 72 ≤ G.2.2 84 + 74 from Nat.add_le_add_left (by decide) _)
  refine n_putF hg (us' := [(G.2.2 84 + 1, .inl (G.2.1 4, 4, .inr (.inr (.inr (.inr (h_hq G 85 0))))))]) (ci := 1) (j := 3) (fs := [.ref (G.2.2 84 + 1), .ref (G.2.2 84 + 1 + 1), .ref (G.2.2 84 + 1 + 1 + 1 + 3), .null, .null, .null, .null, .null, .null, .null, .null]) ⟨rfl, i_Bench⟩ t_Bench_ok n_Bench rfl so3 (by decide) rfl rfl hin (ty := .object "HomBench$Text") (by decide +kernel) rfl rfl (Nat.le_of_ble_eq_true rfl) k_59 d_Benchinit_42 ⟨hz _ (Nat.le_refl _), fun e h => Nat.ne_of_gt (Nat.lt_of_succ_lt (hS4 e h).1)⟩ ?_
  refine n_aload hg 0 d_Benchinit_45 rfl rfl ?_
  refine n_make hg (d := 90) (ci := 4) (N := 2) (C := "HomBench$Script") (T := F_Script) (ty0 := t_Script) (fs := [.null, .int 0]) (i1 := 34) (i2 := 36) (base := base) (bs := bs) cs_Script ⟨hG, a90, fun q hq => hzz 74 q hq, (fun e h => (hS4 e h).2)⟩ (so2 72) ⟨rfl, i_Script⟩ t_Script_ok (by decide +kernel) ⟨(by intro w hw; simp only [List.mem_cons, List.not_mem_nil, or_false] at hw; rcases hw with rfl | rfl | rfl | rfl | rfl | rfl; exact k_60; exact k_61; exact k_62; exact k_63; exact k_64; exact k_61), rfl, by decide +kernel, by decide +kernel, by decide +kernel⟩ (Or.inl ⟨"HomBench", by decide +kernel⟩) ⟨by decide, by decide⟩ ⟨by decide, by decide⟩ (Nat.le_of_ble_eq_true rfl) d_Benchinit_46 d_Benchinit_49 d_Benchinit_50 ?_
  have hS5 := sz_orb (B := fun e => e ∈ b_Script) (z' := G.2.2 84 + 1 + 1 + 1 + 3 + 1 + 65 + 1 + 1 + 1 + 1) hS4 (sz_blk2 hG aa (t := 74) (t' := 76) (by decide +kernel)) (show G.2.2 84 + 2 ≤ G.2.2 84 + 74 from Nat.add_le_add_left (by decide) _) (show G.2.2 84 + 74 ≤ G.2.2 84 + 76 from Nat.add_le_add_left (by decide) _)
  refine n_putF hg (us' := [(G.2.2 84 + 1, .inl (G.2.1 4, 4, .inr (.inr (.inr (.inr (h_hq G 85 0))))))]) (ci := 1) (j := 4) (fs := [.ref (G.2.2 84 + 1), .ref (G.2.2 84 + 1 + 1), .ref (G.2.2 84 + 1 + 1 + 1 + 3), .ref (G.2.2 84 + 1 + 1 + 1 + 3 + 1 + 65), .null, .null, .null, .null, .null, .null, .null]) ⟨rfl, i_Bench⟩ t_Bench_ok n_Bench rfl so3 (by decide) rfl rfl hin (ty := .object "HomBench$Script") (by decide +kernel) rfl rfl (Nat.le_of_ble_eq_true rfl) k_65 d_Benchinit_53 ⟨hz _ (Nat.le_refl _), fun e h => Nat.ne_of_gt (Nat.lt_of_succ_lt (hS5 e h).1)⟩ ?_
  refine n_aload hg 0 d_Benchinit_56 rfl rfl ?_
  refine n_make hg (d := 92) (ci := 5) (N := 6) (C := "HomBench$Elimination") (T := F_Elimination) (ty0 := t_Elimination) (fs := [.null, .null, .int 0, .int 0, .null, .null]) (i1 := 41) (i2 := 43) (base := base) (bs := bs) cs_Elimination ⟨hG, a92, fun q hq => hzz 76 q hq, (fun e h => (hS5 e h).2)⟩ (so2 74) ⟨rfl, i_Elimination⟩ t_Elimination_ok (by decide +kernel) ⟨(by intro w hw; simp only [List.mem_cons, List.not_mem_nil, or_false] at hw; rcases hw with rfl | rfl | rfl | rfl | rfl | rfl; exact k_66; exact k_67; exact k_68; exact k_69; exact k_70; exact k_67), rfl, by decide +kernel, by decide +kernel, by decide +kernel⟩ (Or.inl ⟨"HomBench", by decide +kernel⟩) ⟨by decide, by decide⟩ ⟨by decide, by decide⟩ (Nat.le_of_ble_eq_true rfl) d_Benchinit_57 d_Benchinit_60 d_Benchinit_61 ?_
  have hS6 := sz_orb (B := fun e => e ∈ b_Elimination) (z' := G.2.2 84 + 1 + 1 + 1 + 3 + 1 + 65 + 1 + 1 + 1 + 1 + 1 + 4) hS5 (sz_blk2 hG aa (t := 76) (t' := 81) (by decide +kernel)) (show G.2.2 84 + 2 ≤ G.2.2 84 + 76 from Nat.add_le_add_left (by decide) _) (show G.2.2 84 + 76 ≤ G.2.2 84 + 81 from Nat.add_le_add_left (by decide) _)
  refine n_putF hg (us' := [(G.2.2 84 + 1, .inl (G.2.1 4, 4, .inr (.inr (.inr (.inr (h_hq G 85 0))))))]) (ci := 1) (j := 5) (fs := [.ref (G.2.2 84 + 1), .ref (G.2.2 84 + 1 + 1), .ref (G.2.2 84 + 1 + 1 + 1 + 3), .ref (G.2.2 84 + 1 + 1 + 1 + 3 + 1 + 65), .ref (G.2.2 84 + 1 + 1 + 1 + 3 + 1 + 65 + 1 + 1), .null, .null, .null, .null, .null, .null]) ⟨rfl, i_Bench⟩ t_Bench_ok n_Bench rfl so3 (by decide) rfl rfl hin (ty := .object "HomBench$Elimination") (by decide +kernel) rfl rfl (Nat.le_of_ble_eq_true rfl) k_71 d_Benchinit_64 ⟨hz _ (Nat.le_refl _), fun e h => Nat.ne_of_gt (Nat.lt_of_succ_lt (hS6 e h).1)⟩ ?_
  refine n_aload hg 0 d_Benchinit_67 rfl rfl ?_
  refine n_make hg (d := 97) (ci := 6) (N := 7) (C := "HomBench$MapSums") (T := F_MapSums) (ty0 := t_MapSums) (fs := [.int 0, .int 0, .null, .null, .null, .null, .null]) (i1 := 48) (i2 := 50) (base := base) (bs := bs) cs_MapSums ⟨hG, a97, fun q hq => hzz 81 q hq, (fun e h => (hS6 e h).2)⟩ (so2 79) ⟨rfl, i_MapSums⟩ t_MapSums_ok (by decide +kernel) ⟨(by intro w hw; simp only [List.mem_cons, List.not_mem_nil, or_false] at hw; rcases hw with rfl | rfl | rfl | rfl | rfl | rfl; exact k_72; exact k_73; exact k_74; exact k_75; exact k_76; exact k_73), rfl, by decide +kernel, by decide +kernel, by decide +kernel⟩ (Or.inl ⟨"HomBench", by decide +kernel⟩) ⟨by decide, by decide⟩ ⟨by decide, by decide⟩ (Nat.le_of_ble_eq_true rfl) d_Benchinit_68 d_Benchinit_71 d_Benchinit_72 ?_
  have hS7 := sz_orb (B := fun e => e ∈ b_MapSums) (z' := G.2.2 84 + 1 + 1 + 1 + 3 + 1 + 65 + 1 + 1 + 1 + 1 + 1 + 4 + 1 + 5) hS6 (sz_blk2 hG aa (t := 81) (t' := 87) (by decide +kernel)) (show G.2.2 84 + 2 ≤ G.2.2 84 + 81 from Nat.add_le_add_left (by decide) _) (show G.2.2 84 + 81 ≤ G.2.2 84 + 87 from Nat.add_le_add_left (by decide) _)
  refine n_putF hg (us' := [(G.2.2 84 + 1, .inl (G.2.1 4, 4, .inr (.inr (.inr (.inr (h_hq G 85 0))))))]) (ci := 1) (j := 6) (fs := [.ref (G.2.2 84 + 1), .ref (G.2.2 84 + 1 + 1), .ref (G.2.2 84 + 1 + 1 + 1 + 3), .ref (G.2.2 84 + 1 + 1 + 1 + 3 + 1 + 65), .ref (G.2.2 84 + 1 + 1 + 1 + 3 + 1 + 65 + 1 + 1), .ref (G.2.2 84 + 1 + 1 + 1 + 3 + 1 + 65 + 1 + 1 + 1 + 1), .null, .null, .null, .null, .null]) ⟨rfl, i_Bench⟩ t_Bench_ok n_Bench rfl so3 (by decide) rfl rfl hin (ty := .object "HomBench$MapSums") (by decide +kernel) rfl rfl (Nat.le_of_ble_eq_true rfl) k_77 d_Benchinit_75 ⟨hz _ (Nat.le_refl _), fun e h => Nat.ne_of_gt (Nat.lt_of_succ_lt (hS7 e h).1)⟩ ?_
  refine n_aload hg 0 d_Benchinit_78 rfl rfl ?_
  refine n_make hg (d := 103) (ci := 7) (N := 5) (C := "HomBench$HomSearch") (T := F_HomSearch) (ty0 := t_HomSearch) (fs := [.int 0, .null, .null, .null, .null]) (i1 := 55) (i2 := 57) (base := base) (bs := bs) cs_HomSearch ⟨hG, a103, fun q hq => hzz 87 q hq, (fun e h => (hS7 e h).2)⟩ (so2 85) ⟨rfl, i_HomSearch⟩ t_HomSearch_ok (by decide +kernel) ⟨(by intro w hw; simp only [List.mem_cons, List.not_mem_nil, or_false] at hw; rcases hw with rfl | rfl | rfl | rfl | rfl | rfl; exact k_78; exact k_79; exact k_80; exact k_81; exact k_82; exact k_79), rfl, by decide +kernel, by decide +kernel, by decide +kernel⟩ (Or.inl ⟨"HomBench", by decide +kernel⟩) ⟨by decide, by decide⟩ ⟨by decide, by decide⟩ (Nat.le_of_ble_eq_true rfl) d_Benchinit_79 d_Benchinit_82 d_Benchinit_83 ?_
  have hS8 := sz_orb (B := fun e => e ∈ b_HomSearch) (z' := G.2.2 84 + 1 + 1 + 1 + 3 + 1 + 65 + 1 + 1 + 1 + 1 + 1 + 4 + 1 + 5 + 1 + 13) hS7 (sz_blk2 hG aa (t := 87) (t' := 101) (by decide +kernel)) (show G.2.2 84 + 2 ≤ G.2.2 84 + 87 from Nat.add_le_add_left (by decide) _) (show G.2.2 84 + 87 ≤ G.2.2 84 + 101 from Nat.add_le_add_left (by decide) _)
  refine n_putF hg (us' := [(G.2.2 84 + 1, .inl (G.2.1 4, 4, .inr (.inr (.inr (.inr (h_hq G 85 0))))))]) (ci := 1) (j := 7) (fs := [.ref (G.2.2 84 + 1), .ref (G.2.2 84 + 1 + 1), .ref (G.2.2 84 + 1 + 1 + 1 + 3), .ref (G.2.2 84 + 1 + 1 + 1 + 3 + 1 + 65), .ref (G.2.2 84 + 1 + 1 + 1 + 3 + 1 + 65 + 1 + 1), .ref (G.2.2 84 + 1 + 1 + 1 + 3 + 1 + 65 + 1 + 1 + 1 + 1), .ref (G.2.2 84 + 1 + 1 + 1 + 3 + 1 + 65 + 1 + 1 + 1 + 1 + 1 + 4), .null, .null, .null, .null]) ⟨rfl, i_Bench⟩ t_Bench_ok n_Bench rfl so3 (by decide) rfl rfl hin (ty := .object "HomBench$HomSearch") (by decide +kernel) rfl rfl (Nat.le_of_ble_eq_true rfl) k_83 d_Benchinit_86 ⟨hz _ (Nat.le_refl _), fun e h => Nat.ne_of_gt (Nat.lt_of_succ_lt (hS8 e h).1)⟩ ?_
  refine n_aload hg 0 d_Benchinit_89 rfl rfl ?_
  refine n_make hg (d := 117) (ci := 8) (N := 3) (C := "HomBench$Bijections") (T := F_Bijections) (ty0 := t_Bijections) (fs := [.null, .null, .null]) (i1 := 62) (i2 := 64) (base := base) (bs := bs) cs_Bijections ⟨hG, a117, fun q hq => hzz 101 q hq, (fun e h => (hS8 e h).2)⟩ (so2 99) ⟨rfl, i_Bijections⟩ t_Bijections_ok (by decide +kernel) ⟨(by intro w hw; simp only [List.mem_cons, List.not_mem_nil, or_false] at hw; rcases hw with rfl | rfl | rfl | rfl | rfl | rfl; exact k_84; exact k_85; exact k_86; exact k_87; exact k_88; exact k_85), rfl, by decide +kernel, by decide +kernel, by decide +kernel⟩ (Or.inl ⟨"HomBench", by decide +kernel⟩) ⟨by decide, by decide⟩ ⟨by decide, by decide⟩ (Nat.le_of_ble_eq_true rfl) d_Benchinit_90 d_Benchinit_93 d_Benchinit_94 ?_
  have hS9 := sz_orb (B := fun e => e ∈ b_Bijections) (z' := G.2.2 84 + 1 + 1 + 1 + 3 + 1 + 65 + 1 + 1 + 1 + 1 + 1 + 4 + 1 + 5 + 1 + 13 + 1 + 3) hS8 (sz_blk2 hG aa (t := 101) (t' := 105) (by decide +kernel)) (show G.2.2 84 + 2 ≤ G.2.2 84 + 101 from Nat.add_le_add_left (by decide) _) (show G.2.2 84 + 101 ≤ G.2.2 84 + 105 from Nat.add_le_add_left (by decide) _)
  refine n_putF hg (us' := [(G.2.2 84 + 1, .inl (G.2.1 4, 4, .inr (.inr (.inr (.inr (h_hq G 85 0))))))]) (ci := 1) (j := 8) (fs := [.ref (G.2.2 84 + 1), .ref (G.2.2 84 + 1 + 1), .ref (G.2.2 84 + 1 + 1 + 1 + 3), .ref (G.2.2 84 + 1 + 1 + 1 + 3 + 1 + 65), .ref (G.2.2 84 + 1 + 1 + 1 + 3 + 1 + 65 + 1 + 1), .ref (G.2.2 84 + 1 + 1 + 1 + 3 + 1 + 65 + 1 + 1 + 1 + 1), .ref (G.2.2 84 + 1 + 1 + 1 + 3 + 1 + 65 + 1 + 1 + 1 + 1 + 1 + 4), .ref (G.2.2 84 + 1 + 1 + 1 + 3 + 1 + 65 + 1 + 1 + 1 + 1 + 1 + 4 + 1 + 5), .null, .null, .null]) ⟨rfl, i_Bench⟩ t_Bench_ok n_Bench rfl so3 (by decide) rfl rfl hin (ty := .object "HomBench$Bijections") (by decide +kernel) rfl rfl (Nat.le_of_ble_eq_true rfl) k_89 d_Benchinit_97 ⟨hz _ (Nat.le_refl _), fun e h => Nat.ne_of_gt (Nat.lt_of_succ_lt (hS9 e h).1)⟩ ?_
  refine n_aload hg 0 d_Benchinit_100 rfl rfl ?_
  refine n_bipush hg (v := 8) d_Benchinit_101 (by decide) ?_
  refine n_newa hg (N := 8) (d := 121) (ty := .int) (t0 := 0) (a0 := (8, .inl (fun _ => 0))) (cA := G.2.1 0) ⟨a121, rfl, (by rw [h_cell_1 G h_μ0 (c := 121) (by decide)]; rfl)⟩ rfl k_3 (fun _ h => h) (fun _ => rfl) (by decide) (by decide) (by decide) ⟨by decide, by decide⟩ d_Benchinit_103 (so2 103) (fun e h => (hS9 e h).2) ?_
  have hS10 := sz_or1 hS9 a121 (show G.2.2 84 + 2 ≤ G.2.2 84 + 105 from Nat.add_le_add_left (by decide) _)
  refine n_putF hg (us' := [(G.2.2 84 + 1, .inl (G.2.1 4, 4, .inr (.inr (.inr (.inr (h_hq G 85 0))))))]) (ci := 1) (j := 9) (fs := [.ref (G.2.2 84 + 1), .ref (G.2.2 84 + 1 + 1), .ref (G.2.2 84 + 1 + 1 + 1 + 3), .ref (G.2.2 84 + 1 + 1 + 1 + 3 + 1 + 65), .ref (G.2.2 84 + 1 + 1 + 1 + 3 + 1 + 65 + 1 + 1), .ref (G.2.2 84 + 1 + 1 + 1 + 3 + 1 + 65 + 1 + 1 + 1 + 1), .ref (G.2.2 84 + 1 + 1 + 1 + 3 + 1 + 65 + 1 + 1 + 1 + 1 + 1 + 4), .ref (G.2.2 84 + 1 + 1 + 1 + 3 + 1 + 65 + 1 + 1 + 1 + 1 + 1 + 4 + 1 + 5), .ref (G.2.2 84 + 1 + 1 + 1 + 3 + 1 + 65 + 1 + 1 + 1 + 1 + 1 + 4 + 1 + 5 + 1 + 13), .null, .null]) ⟨rfl, i_Bench⟩ t_Bench_ok n_Bench rfl so3 (by decide) rfl rfl hin (ty := .array .int) (by decide +kernel) rfl rfl (Nat.le_of_ble_eq_true rfl) k_90 d_Benchinit_105 ⟨hz _ (Nat.le_refl _), fun e h => Nat.ne_of_gt (Nat.lt_of_succ_lt (hS10 e h).1)⟩ ?_
  refine n_aload hg 0 d_Benchinit_108 rfl rfl ?_
  refine n_make hg (d := 122) (ci := 9) (N := 2) (C := "HomBench$Walks") (T := F_Walks) (ty0 := t_Walks) (fs := [.null, .null]) (i1 := 73) (i2 := 75) (base := base) (bs := bs) cs_Walks ⟨hG, a122, fun q hq => hzz 106 q hq, (fun e h => (hS10 e h).2)⟩ (so2 104) ⟨rfl, i_Walks⟩ t_Walks_ok (by decide +kernel) ⟨(by intro w hw; simp only [List.mem_cons, List.not_mem_nil, or_false] at hw; rcases hw with rfl | rfl | rfl | rfl | rfl | rfl; exact k_91; exact k_92; exact k_93; exact k_94; exact k_95; exact k_92), rfl, by decide +kernel, by decide +kernel, by decide +kernel⟩ (Or.inl ⟨"HomBench", by decide +kernel⟩) ⟨by decide, by decide⟩ ⟨by decide, by decide⟩ (Nat.le_of_ble_eq_true rfl) d_Benchinit_109 d_Benchinit_112 d_Benchinit_113 ?_
  have hS11 := sz_orb (B := fun e => e ∈ b_Walks) (z' := G.2.2 84 + 1 + 1 + 1 + 3 + 1 + 65 + 1 + 1 + 1 + 1 + 1 + 4 + 1 + 5 + 1 + 13 + 1 + 3 + 1 + 1 + 2) hS10 (sz_blk2 hG aa (t := 106) (t' := 109) (by decide +kernel)) (show G.2.2 84 + 2 ≤ G.2.2 84 + 106 from Nat.add_le_add_left (by decide) _) (show G.2.2 84 + 106 ≤ G.2.2 84 + 109 from Nat.add_le_add_left (by decide) _)
  refine n_putF hg (us' := [(G.2.2 84 + 1, .inl (G.2.1 4, 4, .inr (.inr (.inr (.inr (h_hq G 85 0))))))]) (ci := 1) (j := 10) (fs := [.ref (G.2.2 84 + 1), .ref (G.2.2 84 + 1 + 1), .ref (G.2.2 84 + 1 + 1 + 1 + 3), .ref (G.2.2 84 + 1 + 1 + 1 + 3 + 1 + 65), .ref (G.2.2 84 + 1 + 1 + 1 + 3 + 1 + 65 + 1 + 1), .ref (G.2.2 84 + 1 + 1 + 1 + 3 + 1 + 65 + 1 + 1 + 1 + 1), .ref (G.2.2 84 + 1 + 1 + 1 + 3 + 1 + 65 + 1 + 1 + 1 + 1 + 1 + 4), .ref (G.2.2 84 + 1 + 1 + 1 + 3 + 1 + 65 + 1 + 1 + 1 + 1 + 1 + 4 + 1 + 5), .ref (G.2.2 84 + 1 + 1 + 1 + 3 + 1 + 65 + 1 + 1 + 1 + 1 + 1 + 4 + 1 + 5 + 1 + 13), .ref (G.2.2 84 + 105), .null]) ⟨rfl, i_Bench⟩ t_Bench_ok n_Bench rfl so3 (by decide) rfl rfl hin (ty := .object "HomBench$Walks") (by decide +kernel) rfl rfl (Nat.le_of_ble_eq_true rfl) k_96 d_Benchinit_116 ⟨hz _ (Nat.le_refl _), fun e h => Nat.ne_of_gt (Nat.lt_of_succ_lt (hS11 e h).1)⟩ ?_
  refine n_iconst hg (v := 0) d_Benchinit_119 (by decide) ?_
  refine n_istore hg (l' := [(1, .int 0), (0, .ref (G.2.2 84))]) d_Benchinit_120 rfl (by decide) rfl ?_
  refine n_iload hg 0 d_Benchinit_121 rfl rfl ?_
  refine n_iconst hg (v := 4) d_Benchinit_122 (by decide) ?_
  refine n_icmp_on hg (tgt := 145) d_Benchinit_123 rfl (by decide) ?_
  refine n_aload hg 1 d_Benchinit_126 rfl rfl ?_
  refine n_get hg (ci := 1) (j := 0) (fs := [.ref (G.2.2 84 + 1), .ref (G.2.2 84 + 1 + 1), .ref (G.2.2 84 + 1 + 1 + 1 + 3), .ref (G.2.2 84 + 1 + 1 + 1 + 3 + 1 + 65), .ref (G.2.2 84 + 1 + 1 + 1 + 3 + 1 + 65 + 1 + 1), .ref (G.2.2 84 + 1 + 1 + 1 + 3 + 1 + 65 + 1 + 1 + 1 + 1), .ref (G.2.2 84 + 1 + 1 + 1 + 3 + 1 + 65 + 1 + 1 + 1 + 1 + 1 + 4), .ref (G.2.2 84 + 1 + 1 + 1 + 3 + 1 + 65 + 1 + 1 + 1 + 1 + 1 + 4 + 1 + 5), .ref (G.2.2 84 + 1 + 1 + 1 + 3 + 1 + 65 + 1 + 1 + 1 + 1 + 1 + 4 + 1 + 5 + 1 + 13), .ref (G.2.2 84 + 105), .ref (G.2.2 84 + 1 + 1 + 1 + 3 + 1 + 65 + 1 + 1 + 1 + 1 + 1 + 4 + 1 + 5 + 1 + 13 + 1 + 3 + 1)]) (v := .ref (G.2.2 84 + 1)) ⟨rfl, i_Bench⟩ rfl (by decide) rfl k_46 d_Benchinit_127 ?_
  refine n_iload hg 0 d_Benchinit_130 rfl rfl ?_
  refine n_make hg (d := 0) (ci := 0) (N := 4) (C := "HomBench$Graph") (T := F_Graph) (ty0 := t_Graph) (fs := [.int 0, .null, .null, .null]) (i1 := 9) (i2 := 15) (base := base) (bs := bs) (cs_Graph 0 (by decide)) ⟨hG, a0, fun q hq => hzz 109 q hq, (fun e h => (hS11 e h).2)⟩ (so2 107) ⟨rfl, i_Graph⟩ t_Graph_ok (by decide +kernel) ⟨(by intro w hw; simp only [List.mem_cons, List.not_mem_nil, or_false] at hw; rcases hw with rfl | rfl | rfl | rfl | rfl | rfl; exact k_40; exact k_41; exact k_42; exact k_45; exact k_43; exact k_41), rfl, by decide +kernel, by decide +kernel, by decide +kernel⟩ (Or.inl ⟨"HomBench", by decide +kernel⟩) ⟨by decide, by decide⟩ ⟨by decide, by decide⟩ (Nat.le_of_ble_eq_true rfl) d_Benchinit_131 d_Benchinit_134 d_Benchinit_135 ?_
  have hS12 := sz_orb (B := fun e => e ∈ [0, 0 + 1, 0 + 2, 0 + 3]) (z' := G.2.2 84 + 1 + 1 + 1 + 3 + 1 + 65 + 1 + 1 + 1 + 1 + 1 + 4 + 1 + 5 + 1 + 13 + 1 + 3 + 1 + 1 + 2 + 1 + 3) hS11 (sz_blk2 hG aa (t := 109) (t' := 113) (by decide +kernel)) (show G.2.2 84 + 2 ≤ G.2.2 84 + 109 from Nat.add_le_add_left (by decide) _) (show G.2.2 84 + 109 ≤ G.2.2 84 + 113 from Nat.add_le_add_left (by decide) _)
  refine n_aast2 hg (G := G) rfl (N := 4) (g := 0) (c := 85) (i' := 0) (v := G.2.2 84 + 1 + 1 + 1 + 3 + 1 + 65 + 1 + 1 + 1 + 1 + 1 + 4 + 1 + 5 + 1 + 13 + 1 + 3 + 1 + 1 + 2) rfl (Nat.ne_of_lt (Nat.lt_succ_self _)) ⟨hzz 1 _ (Nat.le_refl _), by simp, by decide, fun e h => Nat.ne_of_gt (hS12 e h).1⟩ (by decide) (by decide) (by decide) d_Benchinit_138 (a0.symm) ?_
  refine n_iinc hg 0 (x := 0) (v := 1) (l' := [(1, .int 1), (0, .ref (G.2.2 84))]) d_Benchinit_139 rfl (by decide) (by decide) rfl ?_
  refine n_goto hg (tgt := 121) d_Benchinit_142 rfl ?_
  refine n_iload hg 0 d_Benchinit_121 rfl rfl ?_
  refine n_iconst hg (v := 4) d_Benchinit_122 (by decide) ?_
  refine n_icmp_on hg (tgt := 145) d_Benchinit_123 rfl (by decide) ?_
  refine n_aload hg 1 d_Benchinit_126 rfl rfl ?_
  refine n_get hg (ci := 1) (j := 0) (fs := [.ref (G.2.2 84 + 1), .ref (G.2.2 84 + 1 + 1), .ref (G.2.2 84 + 1 + 1 + 1 + 3), .ref (G.2.2 84 + 1 + 1 + 1 + 3 + 1 + 65), .ref (G.2.2 84 + 1 + 1 + 1 + 3 + 1 + 65 + 1 + 1), .ref (G.2.2 84 + 1 + 1 + 1 + 3 + 1 + 65 + 1 + 1 + 1 + 1), .ref (G.2.2 84 + 1 + 1 + 1 + 3 + 1 + 65 + 1 + 1 + 1 + 1 + 1 + 4), .ref (G.2.2 84 + 1 + 1 + 1 + 3 + 1 + 65 + 1 + 1 + 1 + 1 + 1 + 4 + 1 + 5), .ref (G.2.2 84 + 1 + 1 + 1 + 3 + 1 + 65 + 1 + 1 + 1 + 1 + 1 + 4 + 1 + 5 + 1 + 13), .ref (G.2.2 84 + 105), .ref (G.2.2 84 + 1 + 1 + 1 + 3 + 1 + 65 + 1 + 1 + 1 + 1 + 1 + 4 + 1 + 5 + 1 + 13 + 1 + 3 + 1)]) (v := .ref (G.2.2 84 + 1)) ⟨rfl, i_Bench⟩ rfl (by decide) rfl k_46 d_Benchinit_127 ?_
  refine n_iload hg 0 d_Benchinit_130 rfl rfl ?_
  refine n_make hg (d := 4) (ci := 0) (N := 4) (C := "HomBench$Graph") (T := F_Graph) (ty0 := t_Graph) (fs := [.int 0, .null, .null, .null]) (i1 := 9) (i2 := 15) (base := base) (bs := bs) (cs_Graph 4 (by decide)) ⟨hG, a4, fun q hq => hzz 113 q hq, (fun e h => (hS12 e h).2)⟩ (so2 111) ⟨rfl, i_Graph⟩ t_Graph_ok (by decide +kernel) ⟨(by intro w hw; simp only [List.mem_cons, List.not_mem_nil, or_false] at hw; rcases hw with rfl | rfl | rfl | rfl | rfl | rfl; exact k_40; exact k_41; exact k_42; exact k_45; exact k_43; exact k_41), rfl, by decide +kernel, by decide +kernel, by decide +kernel⟩ (Or.inl ⟨"HomBench", by decide +kernel⟩) ⟨by decide, by decide⟩ ⟨by decide, by decide⟩ (Nat.le_of_ble_eq_true rfl) d_Benchinit_131 d_Benchinit_134 d_Benchinit_135 ?_
  have hS13 := sz_orb (B := fun e => e ∈ [4, 4 + 1, 4 + 2, 4 + 3]) (z' := G.2.2 84 + 1 + 1 + 1 + 3 + 1 + 65 + 1 + 1 + 1 + 1 + 1 + 4 + 1 + 5 + 1 + 13 + 1 + 3 + 1 + 1 + 2 + 1 + 3 + 1 + 3) hS12 (sz_blk2 hG aa (t := 113) (t' := 117) (by decide +kernel)) (show G.2.2 84 + 2 ≤ G.2.2 84 + 113 from Nat.add_le_add_left (by decide) _) (show G.2.2 84 + 113 ≤ G.2.2 84 + 117 from Nat.add_le_add_left (by decide) _)
  refine n_aast2 hg (G := G) rfl (N := 4) (g := 4) (c := 85) (i' := 1) (v := G.2.2 84 + 1 + 1 + 1 + 3 + 1 + 65 + 1 + 1 + 1 + 1 + 1 + 4 + 1 + 5 + 1 + 13 + 1 + 3 + 1 + 1 + 2 + 1 + 3) rfl (Nat.ne_of_lt (Nat.lt_succ_self _)) ⟨hzz 1 _ (Nat.le_refl _), by simp, by decide, fun e h => Nat.ne_of_gt (hS13 e h).1⟩ (by decide) (by decide) (by decide) d_Benchinit_138 (a4.symm) ?_
  refine n_iinc hg 0 (x := 1) (v := 2) (l' := [(1, .int 2), (0, .ref (G.2.2 84))]) d_Benchinit_139 rfl (by decide) (by decide) rfl ?_
  refine n_goto hg (tgt := 121) d_Benchinit_142 rfl ?_
  refine n_iload hg 0 d_Benchinit_121 rfl rfl ?_
  refine n_iconst hg (v := 4) d_Benchinit_122 (by decide) ?_
  refine n_icmp_on hg (tgt := 145) d_Benchinit_123 rfl (by decide) ?_
  refine n_aload hg 1 d_Benchinit_126 rfl rfl ?_
  refine n_get hg (ci := 1) (j := 0) (fs := [.ref (G.2.2 84 + 1), .ref (G.2.2 84 + 1 + 1), .ref (G.2.2 84 + 1 + 1 + 1 + 3), .ref (G.2.2 84 + 1 + 1 + 1 + 3 + 1 + 65), .ref (G.2.2 84 + 1 + 1 + 1 + 3 + 1 + 65 + 1 + 1), .ref (G.2.2 84 + 1 + 1 + 1 + 3 + 1 + 65 + 1 + 1 + 1 + 1), .ref (G.2.2 84 + 1 + 1 + 1 + 3 + 1 + 65 + 1 + 1 + 1 + 1 + 1 + 4), .ref (G.2.2 84 + 1 + 1 + 1 + 3 + 1 + 65 + 1 + 1 + 1 + 1 + 1 + 4 + 1 + 5), .ref (G.2.2 84 + 1 + 1 + 1 + 3 + 1 + 65 + 1 + 1 + 1 + 1 + 1 + 4 + 1 + 5 + 1 + 13), .ref (G.2.2 84 + 105), .ref (G.2.2 84 + 1 + 1 + 1 + 3 + 1 + 65 + 1 + 1 + 1 + 1 + 1 + 4 + 1 + 5 + 1 + 13 + 1 + 3 + 1)]) (v := .ref (G.2.2 84 + 1)) ⟨rfl, i_Bench⟩ rfl (by decide) rfl k_46 d_Benchinit_127 ?_
  refine n_iload hg 0 d_Benchinit_130 rfl rfl ?_
  refine n_make hg (d := 8) (ci := 0) (N := 4) (C := "HomBench$Graph") (T := F_Graph) (ty0 := t_Graph) (fs := [.int 0, .null, .null, .null]) (i1 := 9) (i2 := 15) (base := base) (bs := bs) (cs_Graph 8 (by decide)) ⟨hG, a8, fun q hq => hzz 117 q hq, (fun e h => (hS13 e h).2)⟩ (so2 115) ⟨rfl, i_Graph⟩ t_Graph_ok (by decide +kernel) ⟨(by intro w hw; simp only [List.mem_cons, List.not_mem_nil, or_false] at hw; rcases hw with rfl | rfl | rfl | rfl | rfl | rfl; exact k_40; exact k_41; exact k_42; exact k_45; exact k_43; exact k_41), rfl, by decide +kernel, by decide +kernel, by decide +kernel⟩ (Or.inl ⟨"HomBench", by decide +kernel⟩) ⟨by decide, by decide⟩ ⟨by decide, by decide⟩ (Nat.le_of_ble_eq_true rfl) d_Benchinit_131 d_Benchinit_134 d_Benchinit_135 ?_
  have hS14 := sz_orb (B := fun e => e ∈ [8, 8 + 1, 8 + 2, 8 + 3]) (z' := G.2.2 84 + 1 + 1 + 1 + 3 + 1 + 65 + 1 + 1 + 1 + 1 + 1 + 4 + 1 + 5 + 1 + 13 + 1 + 3 + 1 + 1 + 2 + 1 + 3 + 1 + 3 + 1 + 3) hS13 (sz_blk2 hG aa (t := 117) (t' := 121) (by decide +kernel)) (show G.2.2 84 + 2 ≤ G.2.2 84 + 117 from Nat.add_le_add_left (by decide) _) (show G.2.2 84 + 117 ≤ G.2.2 84 + 121 from Nat.add_le_add_left (by decide) _)
  refine n_aast2 hg (G := G) rfl (N := 4) (g := 8) (c := 85) (i' := 2) (v := G.2.2 84 + 1 + 1 + 1 + 3 + 1 + 65 + 1 + 1 + 1 + 1 + 1 + 4 + 1 + 5 + 1 + 13 + 1 + 3 + 1 + 1 + 2 + 1 + 3 + 1 + 3) rfl (Nat.ne_of_lt (Nat.lt_succ_self _)) ⟨hzz 1 _ (Nat.le_refl _), by simp, by decide, fun e h => Nat.ne_of_gt (hS14 e h).1⟩ (by decide) (by decide) (by decide) d_Benchinit_138 (a8.symm) ?_
  refine n_iinc hg 0 (x := 2) (v := 3) (l' := [(1, .int 3), (0, .ref (G.2.2 84))]) d_Benchinit_139 rfl (by decide) (by decide) rfl ?_
  refine n_goto hg (tgt := 121) d_Benchinit_142 rfl ?_
  refine n_iload hg 0 d_Benchinit_121 rfl rfl ?_
  refine n_iconst hg (v := 4) d_Benchinit_122 (by decide) ?_
  refine n_icmp_on hg (tgt := 145) d_Benchinit_123 rfl (by decide) ?_
  refine n_aload hg 1 d_Benchinit_126 rfl rfl ?_
  refine n_get hg (ci := 1) (j := 0) (fs := [.ref (G.2.2 84 + 1), .ref (G.2.2 84 + 1 + 1), .ref (G.2.2 84 + 1 + 1 + 1 + 3), .ref (G.2.2 84 + 1 + 1 + 1 + 3 + 1 + 65), .ref (G.2.2 84 + 1 + 1 + 1 + 3 + 1 + 65 + 1 + 1), .ref (G.2.2 84 + 1 + 1 + 1 + 3 + 1 + 65 + 1 + 1 + 1 + 1), .ref (G.2.2 84 + 1 + 1 + 1 + 3 + 1 + 65 + 1 + 1 + 1 + 1 + 1 + 4), .ref (G.2.2 84 + 1 + 1 + 1 + 3 + 1 + 65 + 1 + 1 + 1 + 1 + 1 + 4 + 1 + 5), .ref (G.2.2 84 + 1 + 1 + 1 + 3 + 1 + 65 + 1 + 1 + 1 + 1 + 1 + 4 + 1 + 5 + 1 + 13), .ref (G.2.2 84 + 105), .ref (G.2.2 84 + 1 + 1 + 1 + 3 + 1 + 65 + 1 + 1 + 1 + 1 + 1 + 4 + 1 + 5 + 1 + 13 + 1 + 3 + 1)]) (v := .ref (G.2.2 84 + 1)) ⟨rfl, i_Bench⟩ rfl (by decide) rfl k_46 d_Benchinit_127 ?_
  refine n_iload hg 0 d_Benchinit_130 rfl rfl ?_
  refine n_make hg (d := 12) (ci := 0) (N := 4) (C := "HomBench$Graph") (T := F_Graph) (ty0 := t_Graph) (fs := [.int 0, .null, .null, .null]) (i1 := 9) (i2 := 15) (base := base) (bs := bs) (cs_Graph 12 (by decide)) ⟨hG, a12, fun q hq => hzz 121 q hq, (fun e h => (hS14 e h).2)⟩ (so2 119) ⟨rfl, i_Graph⟩ t_Graph_ok (by decide +kernel) ⟨(by intro w hw; simp only [List.mem_cons, List.not_mem_nil, or_false] at hw; rcases hw with rfl | rfl | rfl | rfl | rfl | rfl; exact k_40; exact k_41; exact k_42; exact k_45; exact k_43; exact k_41), rfl, by decide +kernel, by decide +kernel, by decide +kernel⟩ (Or.inl ⟨"HomBench", by decide +kernel⟩) ⟨by decide, by decide⟩ ⟨by decide, by decide⟩ (Nat.le_of_ble_eq_true rfl) d_Benchinit_131 d_Benchinit_134 d_Benchinit_135 ?_
  have hS15 := sz_orb (B := fun e => e ∈ [12, 12 + 1, 12 + 2, 12 + 3]) (z' := G.2.2 84 + 1 + 1 + 1 + 3 + 1 + 65 + 1 + 1 + 1 + 1 + 1 + 4 + 1 + 5 + 1 + 13 + 1 + 3 + 1 + 1 + 2 + 1 + 3 + 1 + 3 + 1 + 3 + 1 + 3) hS14 (sz_blk2 hG aa (t := 121) (t' := 125) (by decide +kernel)) (show G.2.2 84 + 2 ≤ G.2.2 84 + 121 from Nat.add_le_add_left (by decide) _) (show G.2.2 84 + 121 ≤ G.2.2 84 + 125 from Nat.add_le_add_left (by decide) _)
  refine n_aast2 hg (G := G) rfl (N := 4) (g := 12) (c := 85) (i' := 3) (v := G.2.2 84 + 1 + 1 + 1 + 3 + 1 + 65 + 1 + 1 + 1 + 1 + 1 + 4 + 1 + 5 + 1 + 13 + 1 + 3 + 1 + 1 + 2 + 1 + 3 + 1 + 3 + 1 + 3) rfl (Nat.ne_of_lt (Nat.lt_succ_self _)) ⟨hzz 1 _ (Nat.le_refl _), by simp, by decide, fun e h => Nat.ne_of_gt (hS15 e h).1⟩ (by decide) (by decide) (by decide) d_Benchinit_138 (a12.symm) ?_
  refine n_iinc hg 0 (x := 3) (v := 4) (l' := [(1, .int 4), (0, .ref (G.2.2 84))]) d_Benchinit_139 rfl (by decide) (by decide) rfl ?_
  refine n_goto hg (tgt := 121) d_Benchinit_142 rfl ?_
  refine n_iload hg 0 d_Benchinit_121 rfl rfl ?_
  refine n_iconst hg (v := 4) d_Benchinit_122 (by decide) ?_
  refine n_icmp_off hg (tgt := 145) d_Benchinit_123 rfl (by decide) ?_
  refine n_vret hg hN d_Benchinit_145 rfl rfl rfl ?_
  intro d hd
  by_cases h0 : d = 84
  · subst h0
    right
    exact ⟨_, List.mem_cons_self, rfl, fun H h => by
        rw [h_cell_o G h_μ0 (ci := 1) (by decide)]
        have e1 : (h_fl 84).mapIdx (fun k q => h_fv G h_μ0 84 k q) = [.ref (G.2.2 (85)), .ref (G.2.2 (16)), .ref (G.2.2 (86)), .ref (G.2.2 (88)), .ref (G.2.2 (90)), .ref (G.2.2 (92)), .ref (G.2.2 (97)), .ref (G.2.2 (103)), .ref (G.2.2 (117)), .ref (G.2.2 (121)), .ref (G.2.2 (122))] := o_Bench G
        rw [e1, a85, a16, a86, a88, a90, a92, a97, a103, a117, a121, a122]
        exact h⟩
  by_cases h1 : d = 85
  · subst h1
    right
    exact ⟨_, List.mem_cons_of_mem _ List.mem_cons_self, a85.symm, fun H h => by
        rw [h_cell_5 G h_μ0 (c := 85) (by decide)]
        show H[G.2.2 85]? = some (vp_cell _ (4, _))
        rw [a85]
        exact Eq.trans h (congrArg some (vp_cell_ext (N := 4) fun j hj => h_hqN G 85 4 j hj))⟩
  left
  exact m_Bench d hd h0 h1

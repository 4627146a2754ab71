/-! constructors (written by ctorgen.py) -/
theorem d_Modelinit_0 : decode prog_12_method_1_code 0 = .ok (.aload_n 0, 1) := by decide +kernel
theorem d_Modelinit_1 : decode prog_12_method_1_code 1 = .ok (.invokespecial 1, 3) := by decide +kernel
theorem d_Modelinit_4 : decode prog_12_method_1_code 4 = .ok (.aload_n 0, 1) := by decide +kernel
theorem d_Modelinit_5 : decode prog_12_method_1_code 5 = .ok (.sipush 438, 3) := by decide +kernel
theorem d_Modelinit_8 : decode prog_12_method_1_code 8 = .ok (.newarray .int, 2) := by decide +kernel
theorem d_Modelinit_10 : decode prog_12_method_1_code 10 = .ok (.putfield 7, 3) := by decide +kernel
theorem d_Modelinit_13 : decode prog_12_method_1_code 13 = .ok (.aload_n 0, 1) := by decide +kernel
theorem d_Modelinit_14 : decode prog_12_method_1_code 14 = .ok (.sipush 1168, 3) := by decide +kernel
theorem d_Modelinit_17 : decode prog_12_method_1_code 17 = .ok (.newarray .int, 2) := by decide +kernel
theorem d_Modelinit_19 : decode prog_12_method_1_code 19 = .ok (.putfield 13, 3) := by decide +kernel
theorem d_Modelinit_22 : decode prog_12_method_1_code 22 = .ok (.aload_n 0, 1) := by decide +kernel
theorem d_Modelinit_23 : decode prog_12_method_1_code 23 = .ok (.bipush 120, 2) := by decide +kernel
theorem d_Modelinit_25 : decode prog_12_method_1_code 25 = .ok (.newarray .int, 2) := by decide +kernel
theorem d_Modelinit_27 : decode prog_12_method_1_code 27 = .ok (.putfield 16, 3) := by decide +kernel
theorem d_Modelinit_30 : decode prog_12_method_1_code 30 = .ok (.aload_n 0, 1) := by decide +kernel
theorem d_Modelinit_31 : decode prog_12_method_1_code 31 = .ok (.bipush 8, 2) := by decide +kernel
theorem d_Modelinit_33 : decode prog_12_method_1_code 33 = .ok (.newarray .int, 2) := by decide +kernel
theorem d_Modelinit_35 : decode prog_12_method_1_code 35 = .ok (.putfield 19, 3) := by decide +kernel
theorem d_Modelinit_38 : decode prog_12_method_1_code 38 = .ok (.aload_n 0, 1) := by decide +kernel
theorem d_Modelinit_39 : decode prog_12_method_1_code 39 = .ok (.bipush 8, 2) := by decide +kernel
theorem d_Modelinit_41 : decode prog_12_method_1_code 41 = .ok (.newarray .int, 2) := by decide +kernel
theorem d_Modelinit_43 : decode prog_12_method_1_code 43 = .ok (.putfield 22, 3) := by decide +kernel
theorem d_Modelinit_46 : decode prog_12_method_1_code 46 = .ok (.aload_n 0, 1) := by decide +kernel
theorem d_Modelinit_47 : decode prog_12_method_1_code 47 = .ok (.bipush 8, 2) := by decide +kernel
theorem d_Modelinit_49 : decode prog_12_method_1_code 49 = .ok (.newarray .int, 2) := by decide +kernel
theorem d_Modelinit_51 : decode prog_12_method_1_code 51 = .ok (.putfield 25, 3) := by decide +kernel
theorem d_Modelinit_54 : decode prog_12_method_1_code 54 = .ok (.aload_n 0, 1) := by decide +kernel
theorem d_Modelinit_55 : decode prog_12_method_1_code 55 = .ok (.sipush 256, 3) := by decide +kernel
theorem d_Modelinit_58 : decode prog_12_method_1_code 58 = .ok (.newarray .int, 2) := by decide +kernel
theorem d_Modelinit_60 : decode prog_12_method_1_code 60 = .ok (.putfield 28, 3) := by decide +kernel
theorem d_Modelinit_63 : decode prog_12_method_1_code 63 = .ok (.aload_n 0, 1) := by decide +kernel
theorem d_Modelinit_64 : decode prog_12_method_1_code 64 = .ok (.bipush 9, 2) := by decide +kernel
theorem d_Modelinit_66 : decode prog_12_method_1_code 66 = .ok (.newarray .int, 2) := by decide +kernel
theorem d_Modelinit_68 : decode prog_12_method_1_code 68 = .ok (.putfield 31, 3) := by decide +kernel
theorem d_Modelinit_71 : decode prog_12_method_1_code 71 = .ok (.aload_n 0, 1) := by decide +kernel
theorem d_Modelinit_72 : decode prog_12_method_1_code 72 = .ok (.bipush 8, 2) := by decide +kernel
theorem d_Modelinit_74 : decode prog_12_method_1_code 74 = .ok (.newarray .int, 2) := by decide +kernel
theorem d_Modelinit_76 : decode prog_12_method_1_code 76 = .ok (.putfield 34, 3) := by decide +kernel
theorem d_Modelinit_79 : decode prog_12_method_1_code 79 = .ok (.aload_n 0, 1) := by decide +kernel
theorem d_Modelinit_80 : decode prog_12_method_1_code 80 = .ok (.bipush 8, 2) := by decide +kernel
theorem d_Modelinit_82 : decode prog_12_method_1_code 82 = .ok (.newarray .int, 2) := by decide +kernel
theorem d_Modelinit_84 : decode prog_12_method_1_code 84 = .ok (.putfield 37, 3) := by decide +kernel
theorem d_Modelinit_87 : decode prog_12_method_1_code 87 = .ok (.aload_n 0, 1) := by decide +kernel
theorem d_Modelinit_88 : decode prog_12_method_1_code 88 = .ok (.bipush 9, 2) := by decide +kernel
theorem d_Modelinit_90 : decode prog_12_method_1_code 90 = .ok (.newarray .int, 2) := by decide +kernel
theorem d_Modelinit_92 : decode prog_12_method_1_code 92 = .ok (.putfield 40, 3) := by decide +kernel
theorem d_Modelinit_95 : decode prog_12_method_1_code 95 = .ok (.aload_n 0, 1) := by decide +kernel
theorem d_Modelinit_96 : decode prog_12_method_1_code 96 = .ok (.bipush 64, 2) := by decide +kernel
theorem d_Modelinit_98 : decode prog_12_method_1_code 98 = .ok (.newarray .boolean, 2) := by decide +kernel
theorem d_Modelinit_100 : decode prog_12_method_1_code 100 = .ok (.putfield 43, 3) := by decide +kernel
theorem d_Modelinit_103 : decode prog_12_method_1_code 103 = .ok (.aload_n 0, 1) := by decide +kernel
theorem d_Modelinit_104 : decode prog_12_method_1_code 104 = .ok (.bipush 9, 2) := by decide +kernel
theorem d_Modelinit_106 : decode prog_12_method_1_code 106 = .ok (.newarray .long, 2) := by decide +kernel
theorem d_Modelinit_108 : decode prog_12_method_1_code 108 = .ok (.putfield 47, 3) := by decide +kernel
theorem d_Modelinit_111 : decode prog_12_method_1_code 111 = .ok (.aload_n 0, 1) := by decide +kernel
theorem d_Modelinit_112 : decode prog_12_method_1_code 112 = .ok (.bipush 10, 2) := by decide +kernel
theorem d_Modelinit_114 : decode prog_12_method_1_code 114 = .ok (.newarray .int, 2) := by decide +kernel
theorem d_Modelinit_116 : decode prog_12_method_1_code 116 = .ok (.putfield 51, 3) := by decide +kernel
theorem d_Modelinit_119 : decode prog_12_method_1_code 119 = .ok (.aload_n 0, 1) := by decide +kernel
theorem d_Modelinit_120 : decode prog_12_method_1_code 120 = .ok (.bipush 8, 2) := by decide +kernel
theorem d_Modelinit_122 : decode prog_12_method_1_code 122 = .ok (.newarray .long, 2) := by decide +kernel
theorem d_Modelinit_124 : decode prog_12_method_1_code 124 = .ok (.putfield 54, 3) := by decide +kernel
theorem d_Modelinit_127 : decode prog_12_method_1_code 127 = .ok (.aload_n 0, 1) := by decide +kernel
theorem d_Modelinit_128 : decode prog_12_method_1_code 128 = .ok (.bipush 8, 2) := by decide +kernel
theorem d_Modelinit_130 : decode prog_12_method_1_code 130 = .ok (.newarray .long, 2) := by decide +kernel
theorem d_Modelinit_132 : decode prog_12_method_1_code 132 = .ok (.putfield 57, 3) := by decide +kernel
theorem d_Modelinit_135 : decode prog_12_method_1_code 135 = .ok (.aload_n 0, 1) := by decide +kernel
theorem d_Modelinit_136 : decode prog_12_method_1_code 136 = .ok (.sipush 300, 3) := by decide +kernel
theorem d_Modelinit_139 : decode prog_12_method_1_code 139 = .ok (.newarray .int, 2) := by decide +kernel
theorem d_Modelinit_141 : decode prog_12_method_1_code 141 = .ok (.putfield 60, 3) := by decide +kernel
theorem d_Modelinit_144 : decode prog_12_method_1_code 144 = .ok (.return_, 1) := by decide +kernel
theorem o_Model (G : HGeo) : (h_fl 125).mapIdx (fun k q => h_fv G h_μ0 125 k q) = [.ref (G.2.2 (126)), .ref (G.2.2 (127)), .int 0, .ref (G.2.2 (128)), .int 0, .int 0, .ref (G.2.2 (129)), .ref (G.2.2 (130)), .ref (G.2.2 (131)), .int 0, .int 0, .ref (G.2.2 (132)), .ref (G.2.2 (133)), .ref (G.2.2 (134)), .ref (G.2.2 (135)), .ref (G.2.2 (136)), .ref (G.2.2 (137)), .ref (G.2.2 (138)), .ref (G.2.2 (139)), .ref (G.2.2 (140)), .ref (G.2.2 (141)), .int 0, .int 0, .ref (G.2.2 (142)), .int 0, .long 0] := by
  rw [show h_fl 125 = [(2, 126), (2, 127), (0, 0), (2, 128), (0, 0), (0, 0), (2, 129), (2, 130), (2, 131), (0, 0), (0, 0), (2, 132), (2, 133), (2, 134), (2, 135), (2, 136), (2, 137), (2, 138), (2, 139), (2, 140), (2, 141), (0, 0), (0, 0), (2, 142), (0, 0), (1, 0)] from by decide +kernel]
  simp only [List.mapIdx_cons, List.mapIdx_nil]
  rfl
def b_Model : List Nat := [125, 126, 127, 128, 129, 130, 131, 132, 133, 134, 135, 136, 137, 138, 139, 140, 141, 142]
theorem m_Model : ∀ d, d ∈ b_Model → d ≠ 125 → (((((((((((((((((False ∨ d = 126) ∨ d = 127) ∨ d = 128) ∨ d = 129) ∨ d = 130) ∨ d = 131) ∨ d = 132) ∨ d = 133) ∨ d = 134) ∨ d = 135) ∨ d = 136) ∨ d = 137) ∨ d = 138) ∨ d = 139) ∨ d = 140) ∨ d = 141) ∨ d = 142) := by decide +kernel
theorem cs_Model : NSpec ⟨"HomBenchModel", "<init>", "()V"⟩ prog_12_method_1_code 1 1 17 2439 125 (.inr (10, [.null, .null, .int 0, .null, .int 0, .int 0, .null, .null, .null, .int 0, .int 0, .null, .null, .null, .null, .null, .null, .null, .null, .null, .null, .int 0, .int 0, .null, .int 0, .long 0])) b_Model := by
  refine NSpec.of (by decide +kernel) rfl (by decide) fun cx base bs hN hg => ?_
  obtain ⟨p, lc, e, Rm, s, m, args, below, meth, c1, G, A⟩ := cx
  obtain ⟨hG, hA, hin, hsz⟩ := id hN
  have hz : ∀ q, G.2.2 125 ≤ q → A q := fun q hq => by rw [hA]; exact hq
  have hzz : ∀ t q, G.2.2 125 + t ≤ q → A q := fun t q h => hz q (Nat.le_trans (Nat.le_add_right _ _) h)
  have aa : G.2.2 125 = base + 125 := sz_at hG (by decide) (by decide)
  have a126 : G.2.2 126 = G.2.2 125 + 1 := by rw [sz_at hG (c := 126) (P := 126) (by decide) (by decide), aa]
  have a127 : G.2.2 127 = G.2.2 125 + 2 := by rw [sz_at hG (c := 127) (P := 127) (by decide) (by decide), aa]
  have a128 : G.2.2 128 = G.2.2 125 + 3 := by rw [sz_at hG (c := 128) (P := 128) (by decide) (by decide), aa]
  have a129 : G.2.2 129 = G.2.2 125 + 4 := by rw [sz_at hG (c := 129) (P := 129) (by decide) (by decide), aa]
  have a130 : G.2.2 130 = G.2.2 125 + 5 := by rw [sz_at hG (c := 130) (P := 130) (by decide) (by decide), aa]
  have a131 : G.2.2 131 = G.2.2 125 + 6 := by rw [sz_at hG (c := 131) (P := 131) (by decide) (by decide), aa]
  have a132 : G.2.2 132 = G.2.2 125 + 7 := by rw [sz_at hG (c := 132) (P := 132) (by decide) (by decide), aa]
  have a133 : G.2.2 133 = G.2.2 125 + 8 := by rw [sz_at hG (c := 133) (P := 133) (by decide) (by decide), aa]
  have a134 : G.2.2 134 = G.2.2 125 + 9 := by rw [sz_at hG (c := 134) (P := 134) (by decide) (by decide), aa]
  have a135 : G.2.2 135 = G.2.2 125 + 10 := by rw [sz_at hG (c := 135) (P := 135) (by decide) (by decide), aa]
  have a136 : G.2.2 136 = G.2.2 125 + 11 := by rw [sz_at hG (c := 136) (P := 136) (by decide) (by decide), aa]
  have a137 : G.2.2 137 = G.2.2 125 + 12 := by rw [sz_at hG (c := 137) (P := 137) (by decide) (by decide), aa]
  have a138 : G.2.2 138 = G.2.2 125 + 13 := by rw [sz_at hG (c := 138) (P := 138) (by decide) (by decide), aa]
  have a139 : G.2.2 139 = G.2.2 125 + 14 := by rw [sz_at hG (c := 139) (P := 139) (by decide) (by decide), aa]
  have a140 : G.2.2 140 = G.2.2 125 + 15 := by rw [sz_at hG (c := 140) (P := 140) (by decide) (by decide), aa]
  have a141 : G.2.2 141 = G.2.2 125 + 16 := by rw [sz_at hG (c := 141) (P := 141) (by decide) (by decide), aa]
  have a142 : G.2.2 142 = G.2.2 125 + 17 := by rw [sz_at hG (c := 142) (P := 142) (by decide) (by decide), aa]
  show NX _ _ [(G.2.2 125, _)] (fun _ => False) (G.2.2 125 + 1) 0 0 0 [(0, .ref (G.2.2 125))] []
  have hS0 : ∀ e, False → G.2.2 125 + 1 ≤ G.2.2 e ∧ G.2.2 e < G.2.2 125 + 1 := fun e h => h.elim
  refine n_aload hg 0 d_Modelinit_0 rfl rfl ?_
  refine n_objInit hg k_98 k_1 k_2 d_Modelinit_1 (by decide) (by decide) ?_
  refine n_aload hg 0 d_Modelinit_4 rfl rfl ?_
  refine n_sipush hg (v := 438) d_Modelinit_5 (by decide) ?_
  refine n_newa hg (N := 438) (d := 126) (ty := .int) (t0 := 0) (a0 := (438, .inl (fun _ => 0))) (cA := G.2.1 0) ⟨a126, rfl, (by rw [h_cell_1 G h_μ0 (c := 126) (by decide)]; rfl)⟩ rfl k_3 (fun _ h => h) (fun _ => rfl) (by decide) (by decide) (by decide) ⟨by decide, by decide⟩ d_Modelinit_8 (so1 0) (fun e h => (hS0 e h).2) ?_
  have hS1 := sz_or1 hS0 a126 (show G.2.2 125 + 1 ≤ G.2.2 125 + 1 from Nat.add_le_add_left (by decide) _)
  refine n_putF hg (ci := 10) (j := 0) (fs := [.null, .null, .int 0, .null, .int 0, .int 0, .null, .null, .null, .int 0, .int 0, .null, .null, .null, .null, .null, .null, .null, .null, .null, .null, .int 0, .int 0, .null, .int 0, .long 0]) ⟨rfl, i_Model⟩ t_Model_ok n_Model rfl (by intro q hq; cases hq) (by decide) rfl rfl hin (ty := .array .int) (by decide +kernel) rfl rfl (Nat.le_of_ble_eq_true rfl) k_99 d_Modelinit_10 ⟨hz _ (Nat.le_refl _), fun e h => Nat.ne_of_gt ((hS1 e h).1)⟩ ?_
  refine n_aload hg 0 d_Modelinit_13 rfl rfl ?_
  refine n_sipush hg (v := 1168) d_Modelinit_14 (by decide) ?_
  refine n_newa hg (N := 1168) (d := 127) (ty := .int) (t0 := 0) (a0 := (1168, .inl (fun _ => 0))) (cA := G.2.1 0) ⟨a127, rfl, (by rw [h_cell_1 G h_μ0 (c := 127) (by decide)]; rfl)⟩ rfl k_3 (fun _ h => h) (fun _ => rfl) (by decide) (by decide) (by decide) ⟨by decide, by decide⟩ d_Modelinit_17 (so1 1) (fun e h => (hS1 e h).2) ?_
  have hS2 := sz_or1 hS1 a127 (show G.2.2 125 + 1 ≤ G.2.2 125 + 2 from Nat.add_le_add_left (by decide) _)
  refine n_putF hg (ci := 10) (j := 1) (fs := [.ref (G.2.2 125 + 1), .null, .int 0, .null, .int 0, .int 0, .null, .null, .null, .int 0, .int 0, .null, .null, .null, .null, .null, .null, .null, .null, .null, .null, .int 0, .int 0, .null, .int 0, .long 0]) ⟨rfl, i_Model⟩ t_Model_ok n_Model rfl (by intro q hq; cases hq) (by decide) rfl rfl hin (ty := .array .int) (by decide +kernel) rfl rfl (Nat.le_of_ble_eq_true rfl) k_100 d_Modelinit_19 ⟨hz _ (Nat.le_refl _), fun e h => Nat.ne_of_gt ((hS2 e h).1)⟩ ?_
  refine n_aload hg 0 d_Modelinit_22 rfl rfl ?_
  refine n_bipush hg (v := 120) d_Modelinit_23 (by decide) ?_
  refine n_newa hg (N := 120) (d := 128) (ty := .int) (t0 := 0) (a0 := (120, .inl (fun _ => 0))) (cA := G.2.1 0) ⟨a128, rfl, (by rw [h_cell_1 G h_μ0 (c := 128) (by decide)]; rfl)⟩ rfl k_3 (fun _ h => h) (fun _ => rfl) (by decide) (by decide) (by decide) ⟨by decide, by decide⟩ d_Modelinit_25 (so1 2) (fun e h => (hS2 e h).2) ?_
  have hS3 := sz_or1 hS2 a128 (show G.2.2 125 + 1 ≤ G.2.2 125 + 3 from Nat.add_le_add_left (by decide) _)
  refine n_putF hg (ci := 10) (j := 3) (fs := [.ref (G.2.2 125 + 1), .ref (G.2.2 125 + 2), .int 0, .null, .int 0, .int 0, .null, .null, .null, .int 0, .int 0, .null, .null, .null, .null, .null, .null, .null, .null, .null, .null, .int 0, .int 0, .null, .int 0, .long 0]) ⟨rfl, i_Model⟩ t_Model_ok n_Model rfl (by intro q hq; cases hq) (by decide) rfl rfl hin (ty := .array .int) (by decide +kernel) rfl rfl (Nat.le_of_ble_eq_true rfl) k_101 d_Modelinit_27 ⟨hz _ (Nat.le_refl _), fun e h => Nat.ne_of_gt ((hS3 e h).1)⟩ ?_
  refine n_aload hg 0 d_Modelinit_30 rfl rfl ?_
  refine n_bipush hg (v := 8) d_Modelinit_31 (by decide) ?_
  refine n_newa hg (N := 8) (d := 129) (ty := .int) (t0 := 0) (a0 := (8, .inl (fun _ => 0))) (cA := G.2.1 0) ⟨a129, rfl, (by rw [h_cell_1 G h_μ0 (c := 129) (by decide)]; rfl)⟩ rfl k_3 (fun _ h => h) (fun _ => rfl) (by decide) (by decide) (by decide) ⟨by decide, by decide⟩ d_Modelinit_33 (so1 3) (fun e h => (hS3 e h).2) ?_
  have hS4 := sz_or1 hS3 a129 (show G.2.2 125 + 1 ≤ G.2.2 125 + 4 from Nat.add_le_add_left (by decide) _)
  refine n_putF hg (ci := 10) (j := 6) (fs := [.ref (G.2.2 125 + 1), .ref (G.2.2 125 + 2), .int 0, .ref (G.2.2 125 + 3), .int 0, .int 0, .null, .null, .null, .int 0, .int 0, .null, .null, .null, .null, .null, .null, .null, .null, .null, .null, .int 0, .int 0, .null, .int 0, .long 0]) ⟨rfl, i_Model⟩ t_Model_ok n_Model rfl (by intro q hq; cases hq) (by decide) rfl rfl hin (ty := .array .int) (by decide +kernel) rfl rfl (Nat.le_of_ble_eq_true rfl) k_102 d_Modelinit_35 ⟨hz _ (Nat.le_refl _), fun e h => Nat.ne_of_gt ((hS4 e h).1)⟩ ?_
  refine n_aload hg 0 d_Modelinit_38 rfl rfl ?_
  refine n_bipush hg (v := 8) d_Modelinit_39 (by decide) ?_
  refine n_newa hg (N := 8) (d := 130) (ty := .int) (t0 := 0) (a0 := (8, .inl (fun _ => 0))) (cA := G.2.1 0) ⟨a130, rfl, (by rw [h_cell_1 G h_μ0 (c := 130) (by decide)]; rfl)⟩ rfl k_3 (fun _ h => h) (fun _ => rfl) (by decide) (by decide) (by decide) ⟨by decide, by decide⟩ d_Modelinit_41 (so1 4) (fun e h => (hS4 e h).2) ?_
  have hS5 := sz_or1 hS4 a130 (show G.2.2 125 + 1 ≤ G.2.2 125 + 5 from Nat.add_le_add_left (by decide) _)
  refine n_putF hg (ci := 10) (j := 7) (fs := [.ref (G.2.2 125 + 1), .ref (G.2.2 125 + 2), .int 0, .ref (G.2.2 125 + 3), .int 0, .int 0, .ref (G.2.2 125 + 4), .null, .null, .int 0, .int 0, .null, .null, .null, .null, .null, .null, .null, .null, .null, .null, .int 0, .int 0, .null, .int 0, .long 0]) ⟨rfl, i_Model⟩ t_Model_ok n_Model rfl (by intro q hq; cases hq) (by decide) rfl rfl hin (ty := .array .int) (by decide +kernel) rfl rfl (Nat.le_of_ble_eq_true rfl) k_103 d_Modelinit_43 ⟨hz _ (Nat.le_refl _), fun e h => Nat.ne_of_gt ((hS5 e h).1)⟩ ?_
  refine n_aload hg 0 d_Modelinit_46 rfl rfl ?_
  refine n_bipush hg (v := 8) d_Modelinit_47 (by decide) ?_
  refine n_newa hg (N := 8) (d := 131) (ty := .int) (t0 := 0) (a0 := (8, .inl (fun _ => 0))) (cA := G.2.1 0) ⟨a131, rfl, (by rw [h_cell_1 G h_μ0 (c := 131) (by decide)]; rfl)⟩ rfl k_3 (fun _ h => h) (fun _ => rfl) (by decide) (by decide) (by decide) ⟨by decide, by decide⟩ d_Modelinit_49 (so1 5) (fun e h => (hS5 e h).2) ?_
  have hS6 := sz_or1 hS5 a131 (show G.2.2 125 + 1 ≤ G.2.2 125 + 6 from Nat.add_le_add_left (by decide) _)
  refine n_putF hg (ci := 10) (j := 8) (fs := [.ref (G.2.2 125 + 1), .ref (G.2.2 125 + 2), .int 0, .ref (G.2.2 125 + 3), .int 0, .int 0, .ref (G.2.2 125 + 4), .ref (G.2.2 125 + 5), .null, .int 0, .int 0, .null, .null, .null, .null, .null, .null, .null, .null, .null, .null, .int 0, .int 0, .null, .int 0, .long 0]) ⟨rfl, i_Model⟩ t_Model_ok n_Model rfl (by intro q hq; cases hq) (by decide) rfl rfl hin (ty := .array .int) (by decide +kernel) rfl rfl (Nat.le_of_ble_eq_true rfl) k_104 d_Modelinit_51 ⟨hz _ (Nat.le_refl _), fun e h => Nat.ne_of_gt ((hS6 e h).1)⟩ ?_
  refine n_aload hg 0 d_Modelinit_54 rfl rfl ?_
  refine n_sipush hg (v := 256) d_Modelinit_55 (by decide) ?_
  refine n_newa hg (N := 256) (d := 132) (ty := .int) (t0 := 0) (a0 := (256, .inl (fun _ => 0))) (cA := G.2.1 0) ⟨a132, rfl, (by rw [h_cell_1 G h_μ0 (c := 132) (by decide)]; rfl)⟩ rfl k_3 (fun _ h => h) (fun _ => rfl) (by decide) (by decide) (by decide) ⟨by decide, by decide⟩ d_Modelinit_58 (so1 6) (fun e h => (hS6 e h).2) ?_
  have hS7 := sz_or1 hS6 a132 (show G.2.2 125 + 1 ≤ G.2.2 125 + 7 from Nat.add_le_add_left (by decide) _)
  refine n_putF hg (ci := 10) (j := 11) (fs := [.ref (G.2.2 125 + 1), .ref (G.2.2 125 + 2), .int 0, .ref (G.2.2 125 + 3), .int 0, .int 0, .ref (G.2.2 125 + 4), .ref (G.2.2 125 + 5), .ref (G.2.2 125 + 6), .int 0, .int 0, .null, .null, .null, .null, .null, .null, .null, .null, .null, .null, .int 0, .int 0, .null, .int 0, .long 0]) ⟨rfl, i_Model⟩ t_Model_ok n_Model rfl (by intro q hq; cases hq) (by decide) rfl rfl hin (ty := .array .int) (by decide +kernel) rfl rfl (Nat.le_of_ble_eq_true rfl) k_105 d_Modelinit_60 ⟨hz _ (Nat.le_refl _), fun e h => Nat.ne_of_gt ((hS7 e h).1)⟩ ?_
  refine n_aload hg 0 d_Modelinit_63 rfl rfl ?_
  refine n_bipush hg (v := 9) d_Modelinit_64 (by decide) ?_
  refine n_newa hg (N := 9) (d := 133) (ty := .int) (t0 := 0) (a0 := (9, .inl (fun _ => 0))) (cA := G.2.1 0) ⟨a133, rfl, (by rw [h_cell_1 G h_μ0 (c := 133) (by decide)]; rfl)⟩ rfl k_3 (fun _ h => h) (fun _ => rfl) (by decide) (by decide) (by decide) ⟨by decide, by decide⟩ d_Modelinit_66 (so1 7) (fun e h => (hS7 e h).2) ?_
  have hS8 := sz_or1 hS7 a133 (show G.2.2 125 + 1 ≤ G.2.2 125 + 8 from Nat.add_le_add_left (by decide) _)
  refine n_putF hg (ci := 10) (j := 12) (fs := [.ref (G.2.2 125 + 1), .ref (G.2.2 125 + 2), .int 0, .ref (G.2.2 125 + 3), .int 0, .int 0, .ref (G.2.2 125 + 4), .ref (G.2.2 125 + 5), .ref (G.2.2 125 + 6), .int 0, .int 0, .ref (G.2.2 125 + 7), .null, .null, .null, .null, .null, .null, .null, .null, .null, .int 0, .int 0, .null, .int 0, .long 0]) ⟨rfl, i_Model⟩ t_Model_ok n_Model rfl (by intro q hq; cases hq) (by decide) rfl rfl hin (ty := .array .int) (by decide +kernel) rfl rfl (Nat.le_of_ble_eq_true rfl) k_106 d_Modelinit_68 ⟨hz _ (Nat.le_refl _), fun e h => Nat.ne_of_gt ((hS8 e h).1)⟩ ?_
  refine n_aload hg 0 d_Modelinit_71 rfl rfl ?_
  refine n_bipush hg (v := 8) d_Modelinit_72 (by decide) ?_
  refine n_newa hg (N := 8) (d := 134) (ty := .int) (t0 := 0) (a0 := (8, .inl (fun _ => 0))) (cA := G.2.1 0) ⟨a134, rfl, (by rw [h_cell_1 G h_μ0 (c := 134) (by decide)]; rfl)⟩ rfl k_3 (fun _ h => h) (fun _ => rfl) (by decide) (by decide) (by decide) ⟨by decide, by decide⟩ d_Modelinit_74 (so1 8) (fun e h => (hS8 e h).2) ?_
  have hS9 := sz_or1 hS8 a134 (show G.2.2 125 + 1 ≤ G.2.2 125 + 9 from Nat.add_le_add_left (by decide) _)
  refine n_putF hg (ci := 10) (j := 13) (fs := [.ref (G.2.2 125 + 1), .ref (G.2.2 125 + 2), .int 0, .ref (G.2.2 125 + 3), .int 0, .int 0, .ref (G.2.2 125 + 4), .ref (G.2.2 125 + 5), .ref (G.2.2 125 + 6), .int 0, .int 0, .ref (G.2.2 125 + 7), .ref (G.2.2 125 + 8), .null, .null, .null, .null, .null, .null, .null, .null, .int 0, .int 0, .null, .int 0, .long 0]) ⟨rfl, i_Model⟩ t_Model_ok n_Model rfl (by intro q hq; cases hq) (by decide) rfl rfl hin (ty := .array .int) (by decide +kernel) rfl rfl (Nat.le_of_ble_eq_true rfl) k_107 d_Modelinit_76 ⟨hz _ (Nat.le_refl _), fun e h => Nat.ne_of_gt ((hS9 e h).1)⟩ ?_
  refine n_aload hg 0 d_Modelinit_79 rfl rfl ?_
  refine n_bipush hg (v := 8) d_Modelinit_80 (by decide) ?_
  refine n_newa hg (N := 8) (d := 135) (ty := .int) (t0 := 0) (a0 := (8, .inl (fun _ => 0))) (cA := G.2.1 0) ⟨a135, rfl, (by rw [h_cell_1 G h_μ0 (c := 135) (by decide)]; rfl)⟩ rfl k_3 (fun _ h => h) (fun _ => rfl) (by decide) (by decide) (by decide) ⟨by decide, by decide⟩ d_Modelinit_82 (so1 9) (fun e h => (hS9 e h).2) ?_
  have hS10 := sz_or1 hS9 a135 (show G.2.2 125 + 1 ≤ G.2.2 125 + 10 from Nat.add_le_add_left (by decide) _)
  refine n_putF hg (ci := 10) (j := 14) (fs := [.ref (G.2.2 125 + 1), .ref (G.2.2 125 + 2), .int 0, .ref (G.2.2 125 + 3), .int 0, .int 0, .ref (G.2.2 125 + 4), .ref (G.2.2 125 + 5), .ref (G.2.2 125 + 6), .int 0, .int 0, .ref (G.2.2 125 + 7), .ref (G.2.2 125 + 8), .ref (G.2.2 125 + 9), .null, .null, .null, .null, .null, .null, .null, .int 0, .int 0, .null, .int 0, .long 0]) ⟨rfl, i_Model⟩ t_Model_ok n_Model rfl (by intro q hq; cases hq) (by decide) rfl rfl hin (ty := .array .int) (by decide +kernel) rfl rfl (Nat.le_of_ble_eq_true rfl) k_108 d_Modelinit_84 ⟨hz _ (Nat.le_refl _), fun e h => Nat.ne_of_gt ((hS10 e h).1)⟩ ?_
  refine n_aload hg 0 d_Modelinit_87 rfl rfl ?_
  refine n_bipush hg (v := 9) d_Modelinit_88 (by decide) ?_
  refine n_newa hg (N := 9) (d := 136) (ty := .int) (t0 := 0) (a0 := (9, .inl (fun _ => 0))) (cA := G.2.1 0) ⟨a136, rfl, (by rw [h_cell_1 G h_μ0 (c := 136) (by decide)]; rfl)⟩ rfl k_3 (fun _ h => h) (fun _ => rfl) (by decide) (by decide) (by decide) ⟨by decide, by decide⟩ d_Modelinit_90 (so1 10) (fun e h => (hS10 e h).2) ?_
  have hS11 := sz_or1 hS10 a136 (show G.2.2 125 + 1 ≤ G.2.2 125 + 11 from Nat.add_le_add_left (by decide) _)
  refine n_putF hg (ci := 10) (j := 15) (fs := [.ref (G.2.2 125 + 1), .ref (G.2.2 125 + 2), .int 0, .ref (G.2.2 125 + 3), .int 0, .int 0, .ref (G.2.2 125 + 4), .ref (G.2.2 125 + 5), .ref (G.2.2 125 + 6), .int 0, .int 0, .ref (G.2.2 125 + 7), .ref (G.2.2 125 + 8), .ref (G.2.2 125 + 9), .ref (G.2.2 125 + 10), .null, .null, .null, .null, .null, .null, .int 0, .int 0, .null, .int 0, .long 0]) ⟨rfl, i_Model⟩ t_Model_ok n_Model rfl (by intro q hq; cases hq) (by decide) rfl rfl hin (ty := .array .int) (by decide +kernel) rfl rfl (Nat.le_of_ble_eq_true rfl) k_109 d_Modelinit_92 ⟨hz _ (Nat.le_refl _), fun e h => Nat.ne_of_gt ((hS11 e h).1)⟩ ?_
  refine n_aload hg 0 d_Modelinit_95 rfl rfl ?_
  refine n_bipush hg (v := 64) d_Modelinit_96 (by decide) ?_
  refine n_newa hg (N := 64) (d := 137) (ty := .boolean) (t0 := 2) (a0 := (64, .inl (fun _ => 0))) (cA := G.2.1 2) ⟨a137, rfl, (by rw [h_cell_3 G h_μ0 (c := 137) (by decide)]; rfl)⟩ rfl k_110 (fun _ h => h) (fun _ => rfl) (by decide) (by decide) (by decide) ⟨by decide, by decide⟩ d_Modelinit_98 (so1 11) (fun e h => (hS11 e h).2) ?_
  have hS12 := sz_or1 hS11 a137 (show G.2.2 125 + 1 ≤ G.2.2 125 + 12 from Nat.add_le_add_left (by decide) _)
  refine n_putF hg (ci := 10) (j := 16) (fs := [.ref (G.2.2 125 + 1), .ref (G.2.2 125 + 2), .int 0, .ref (G.2.2 125 + 3), .int 0, .int 0, .ref (G.2.2 125 + 4), .ref (G.2.2 125 + 5), .ref (G.2.2 125 + 6), .int 0, .int 0, .ref (G.2.2 125 + 7), .ref (G.2.2 125 + 8), .ref (G.2.2 125 + 9), .ref (G.2.2 125 + 10), .ref (G.2.2 125 + 11), .null, .null, .null, .null, .null, .int 0, .int 0, .null, .int 0, .long 0]) ⟨rfl, i_Model⟩ t_Model_ok n_Model rfl (by intro q hq; cases hq) (by decide) rfl rfl hin (ty := .array .boolean) (by decide +kernel) rfl rfl (Nat.le_of_ble_eq_true rfl) k_111 d_Modelinit_100 ⟨hz _ (Nat.le_refl _), fun e h => Nat.ne_of_gt ((hS12 e h).1)⟩ ?_
  refine n_aload hg 0 d_Modelinit_103 rfl rfl ?_
  refine n_bipush hg (v := 9) d_Modelinit_104 (by decide) ?_
  refine n_newa hg (N := 9) (d := 138) (ty := .long) (t0 := 3) (a0 := (9, .inr (.inl (fun _ => 0)))) (cA := G.2.1 3) ⟨a138, rfl, (by rw [h_cell_4 G h_μ0 (c := 138) (by decide)]; rfl)⟩ rfl k_34 (fun _ h => h) (fun _ => rfl) (by decide) (by decide) (by decide) ⟨by decide, by decide⟩ d_Modelinit_106 (so1 12) (fun e h => (hS12 e h).2) ?_
  have hS13 := sz_or1 hS12 a138 (show G.2.2 125 + 1 ≤ G.2.2 125 + 13 from Nat.add_le_add_left (by decide) _)
  refine n_putF hg (ci := 10) (j := 17) (fs := [.ref (G.2.2 125 + 1), .ref (G.2.2 125 + 2), .int 0, .ref (G.2.2 125 + 3), .int 0, .int 0, .ref (G.2.2 125 + 4), .ref (G.2.2 125 + 5), .ref (G.2.2 125 + 6), .int 0, .int 0, .ref (G.2.2 125 + 7), .ref (G.2.2 125 + 8), .ref (G.2.2 125 + 9), .ref (G.2.2 125 + 10), .ref (G.2.2 125 + 11), .ref (G.2.2 125 + 12), .null, .null, .null, .null, .int 0, .int 0, .null, .int 0, .long 0]) ⟨rfl, i_Model⟩ t_Model_ok n_Model rfl (by intro q hq; cases hq) (by decide) rfl rfl hin (ty := .array .long) (by decide +kernel) rfl rfl (Nat.le_of_ble_eq_true rfl) k_112 d_Modelinit_108 ⟨hz _ (Nat.le_refl _), fun e h => Nat.ne_of_gt ((hS13 e h).1)⟩ ?_
  refine n_aload hg 0 d_Modelinit_111 rfl rfl ?_
  refine n_bipush hg (v := 10) d_Modelinit_112 (by decide) ?_
  refine n_newa hg (N := 10) (d := 139) (ty := .int) (t0 := 0) (a0 := (10, .inl (fun _ => 0))) (cA := G.2.1 0) ⟨a139, rfl, (by rw [h_cell_1 G h_μ0 (c := 139) (by decide)]; rfl)⟩ rfl k_3 (fun _ h => h) (fun _ => rfl) (by decide) (by decide) (by decide) ⟨by decide, by decide⟩ d_Modelinit_114 (so1 13) (fun e h => (hS13 e h).2) ?_
  have hS14 := sz_or1 hS13 a139 (show G.2.2 125 + 1 ≤ G.2.2 125 + 14 from Nat.add_le_add_left (by decide) _)
  refine n_putF hg (ci := 10) (j := 18) (fs := [.ref (G.2.2 125 + 1), .ref (G.2.2 125 + 2), .int 0, .ref (G.2.2 125 + 3), .int 0, .int 0, .ref (G.2.2 125 + 4), .ref (G.2.2 125 + 5), .ref (G.2.2 125 + 6), .int 0, .int 0, .ref (G.2.2 125 + 7), .ref (G.2.2 125 + 8), .ref (G.2.2 125 + 9), .ref (G.2.2 125 + 10), .ref (G.2.2 125 + 11), .ref (G.2.2 125 + 12), .ref (G.2.2 125 + 13), .null, .null, .null, .int 0, .int 0, .null, .int 0, .long 0]) ⟨rfl, i_Model⟩ t_Model_ok n_Model rfl (by intro q hq; cases hq) (by decide) rfl rfl hin (ty := .array .int) (by decide +kernel) rfl rfl (Nat.le_of_ble_eq_true rfl) k_113 d_Modelinit_116 ⟨hz _ (Nat.le_refl _), fun e h => Nat.ne_of_gt ((hS14 e h).1)⟩ ?_
  refine n_aload hg 0 d_Modelinit_119 rfl rfl ?_
  refine n_bipush hg (v := 8) d_Modelinit_120 (by decide) ?_
  refine n_newa hg (N := 8) (d := 140) (ty := .long) (t0 := 3) (a0 := (8, .inr (.inl (fun _ => 0)))) (cA := G.2.1 3) ⟨a140, rfl, (by rw [h_cell_4 G h_μ0 (c := 140) (by decide)]; rfl)⟩ rfl k_34 (fun _ h => h) (fun _ => rfl) (by decide) (by decide) (by decide) ⟨by decide, by decide⟩ d_Modelinit_122 (so1 14) (fun e h => (hS14 e h).2) ?_
  have hS15 := sz_or1 hS14 a140 (show G.2.2 125 + 1 ≤ G.2.2 125 + 15 from Nat.add_le_add_left (by decide) _)
  refine n_putF hg (ci := 10) (j := 19) (fs := [.ref (G.2.2 125 + 1), .ref (G.2.2 125 + 2), .int 0, .ref (G.2.2 125 + 3), .int 0, .int 0, .ref (G.2.2 125 + 4), .ref (G.2.2 125 + 5), .ref (G.2.2 125 + 6), .int 0, .int 0, .ref (G.2.2 125 + 7), .ref (G.2.2 125 + 8), .ref (G.2.2 125 + 9), .ref (G.2.2 125 + 10), .ref (G.2.2 125 + 11), .ref (G.2.2 125 + 12), .ref (G.2.2 125 + 13), .ref (G.2.2 125 + 14), .null, .null, .int 0, .int 0, .null, .int 0, .long 0]) ⟨rfl, i_Model⟩ t_Model_ok n_Model rfl (by intro q hq; cases hq) (by decide) rfl rfl hin (ty := .array .long) (by decide +kernel) rfl rfl (Nat.le_of_ble_eq_true rfl) k_114 d_Modelinit_124 ⟨hz _ (Nat.le_refl _), fun e h => Nat.ne_of_gt ((hS15 e h).1)⟩ ?_
  refine n_aload hg 0 d_Modelinit_127 rfl rfl ?_
  refine n_bipush hg (v := 8) d_Modelinit_128 (by decide) ?_
  refine n_newa hg (N := 8) (d := 141) (ty := .long) (t0 := 3) (a0 := (8, .inr (.inl (fun _ => 0)))) (cA := G.2.1 3) ⟨a141, rfl, (by rw [h_cell_4 G h_μ0 (c := 141) (by decide)]; rfl)⟩ rfl k_34 (fun _ h => h) (fun _ => rfl) (by decide) (by decide) (by decide) ⟨by decide, by decide⟩ d_Modelinit_130 (so1 15) (fun e h => (hS15 e h).2) ?_
  have hS16 := sz_or1 hS15 a141 (show G.2.2 125 + 1 ≤ G.2.2 125 + 16 from Nat.add_le_add_left (by decide) _)
  refine n_putF hg (ci := 10) (j := 20) (fs := [.ref (G.2.2 125 + 1), .ref (G.2.2 125 + 2), .int 0, .ref (G.2.2 125 + 3), .int 0, .int 0, .ref (G.2.2 125 + 4), .ref (G.2.2 125 + 5), .ref (G.2.2 125 + 6), .int 0, .int 0, .ref (G.2.2 125 + 7), .ref (G.2.2 125 + 8), .ref (G.2.2 125 + 9), .ref (G.2.2 125 + 10), .ref (G.2.2 125 + 11), .ref (G.2.2 125 + 12), .ref (G.2.2 125 + 13), .ref (G.2.2 125 + 14), .ref (G.2.2 125 + 15), .null, .int 0, .int 0, .null, .int 0, .long 0]) ⟨rfl, i_Model⟩ t_Model_ok n_Model rfl (by intro q hq; cases hq) (by decide) rfl rfl hin (ty := .array .long) (by decide +kernel) rfl rfl (Nat.le_of_ble_eq_true rfl) k_115 d_Modelinit_132 ⟨hz _ (Nat.le_refl _), fun e h => Nat.ne_of_gt ((hS16 e h).1)⟩ ?_
  refine n_aload hg 0 d_Modelinit_135 rfl rfl ?_
  refine n_sipush hg (v := 300) d_Modelinit_136 (by decide) ?_
  refine n_newa hg (N := 300) (d := 142) (ty := .int) (t0 := 0) (a0 := (300, .inl (fun _ => 0))) (cA := G.2.1 0) ⟨a142, rfl, (by rw [h_cell_1 G h_μ0 (c := 142) (by decide)]; rfl)⟩ rfl k_3 (fun _ h => h) (fun _ => rfl) (by decide) (by decide) (by decide) ⟨by decide, by decide⟩ d_Modelinit_139 (so1 16) (fun e h => (hS16 e h).2) ?_
  have hS17 := sz_or1 hS16 a142 (show G.2.2 125 + 1 ≤ G.2.2 125 + 17 from Nat.add_le_add_left (by decide) _)
  refine n_putF hg (ci := 10) (j := 23) (fs := [.ref (G.2.2 125 + 1), .ref (G.2.2 125 + 2), .int 0, .ref (G.2.2 125 + 3), .int 0, .int 0, .ref (G.2.2 125 + 4), .ref (G.2.2 125 + 5), .ref (G.2.2 125 + 6), .int 0, .int 0, .ref (G.2.2 125 + 7), .ref (G.2.2 125 + 8), .ref (G.2.2 125 + 9), .ref (G.2.2 125 + 10), .ref (G.2.2 125 + 11), .ref (G.2.2 125 + 12), .ref (G.2.2 125 + 13), .ref (G.2.2 125 + 14), .ref (G.2.2 125 + 15), .ref (G.2.2 125 + 16), .int 0, .int 0, .null, .int 0, .long 0]) ⟨rfl, i_Model⟩ t_Model_ok n_Model rfl (by intro q hq; cases hq) (by decide) rfl rfl hin (ty := .array .int) (by decide +kernel) rfl rfl (Nat.le_of_ble_eq_true rfl) k_116 d_Modelinit_141 ⟨hz _ (Nat.le_refl _), fun e h => Nat.ne_of_gt ((hS17 e h).1)⟩ ?_
  refine n_vret hg hN d_Modelinit_144 rfl rfl rfl ?_
  intro d hd
  by_cases h0 : d = 125
  · subst h0
    right
    exact ⟨_, List.mem_cons_self, rfl, fun H h => by
        rw [h_cell_o G h_μ0 (ci := 10) (by decide)]
        have e1 : (h_fl 125).mapIdx (fun k q => h_fv G h_μ0 125 k q) = [.ref (G.2.2 (126)), .ref (G.2.2 (127)), .int 0, .ref (G.2.2 (128)), .int 0, .int 0, .ref (G.2.2 (129)), .ref (G.2.2 (130)), .ref (G.2.2 (131)), .int 0, .int 0, .ref (G.2.2 (132)), .ref (G.2.2 (133)), .ref (G.2.2 (134)), .ref (G.2.2 (135)), .ref (G.2.2 (136)), .ref (G.2.2 (137)), .ref (G.2.2 (138)), .ref (G.2.2 (139)), .ref (G.2.2 (140)), .ref (G.2.2 (141)), .int 0, .int 0, .ref (G.2.2 (142)), .int 0, .long 0] := o_Model G
        rw [e1, a126, a127, a128, a129, a130, a131, a132, a133, a134, a135, a136, a137, a138, a139, a140, a141, a142]
        exact h⟩
  left
  exact m_Model d hd h0

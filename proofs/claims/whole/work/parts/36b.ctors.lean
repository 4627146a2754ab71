/-! constructors (written by ctorgen.py) -/
/-- the array of graphs under way: the first i places are filled -/
def h_hq (G : HGeo) (c i : Nat) : Nat → Option Nat := fun j => if j < i then some (G.2.2 (h_el c j)) else none
theorem h_hq0 (G : HGeo) (c : Nat) : (fun _ => none) = h_hq G c 0 := by
  funext j
  simp [h_hq]
theorem h_hqs (G : HGeo) (c i : Nat) : va_up (h_hq G c i) i (some (G.2.2 (h_el c i))) = h_hq G c (i + 1) := by
  funext j
  unfold va_up h_hq
  by_cases h : j = i
  · subst h
    rw [if_pos rfl, if_pos (Nat.lt_succ_self j)]
  · rw [if_neg h]
    by_cases h2 : j < i
    · rw [if_pos h2, if_pos (Nat.lt_succ_of_lt h2)]
    · rw [if_neg h2, if_neg (by omega)]
theorem h_hqN (G : HGeo) (c N j : Nat) (h : j < N) : h_hq G c N j = some (G.2.2 (h_el c j)) := if_pos h
section NR5
variable {cx : HCx} {Q : State → Prop} {us : va_W} {S : Nat → Prop} {z k n pc : Nat} {l : List (Nat × Value)} {st : List Value} {own : String} {b : ByteArray} {nL lv mc ms : Nat} {rt : Option FieldType}
theorem n_aast2 (hg : NGood cx own b nL lv mc ms rt) {G : HGeo} (hGG : match cx with
      | (_, _, _, _, _, _, _, _, _, _, G', _) => G' = G) {ua N g c i' : Nat} {i : Int32} {x0 : Nat × va_E} (hus : us = [x0, (ua, .inl (G.2.1 4, N, .inr (.inr (.inr (.inr (h_hq G c i'))))))]) (hx0 : x0.1 ≠ ua) (hga : match cx with
      | (_, _, _, _, _, _, _, _, _, _, _, A) => A ua ∧ S g ∧ h_kd g = 10 ∧ ∀ e, S e → G.2.2 e ≠ ua) (hi : i.toNatClampNeg = i') (hgi : h_el c i' = g) (hin : vp_in i N) (hd : decode b pc = .ok (.aastore, 1)) {v : Nat} (hv : v = G.2.2 g)
    (kk : NX cx Q [x0, (ua, .inl (G.2.1 4, N, .inr (.inr (.inr (.inr (h_hq G c (i' + 1)))))))] S z k n (pc + 1) l st) : NX cx Q us S z k n pc l (.ref v :: .int i :: .ref ua :: st) := by
  obtain ⟨p, lc, e, Rm, s, m, args, below, meth, c1, G', A⟩ := cx
  have hGG' : G' = G := hGG
  subst hGG'
  subst hi
  subst hgi
  refine n_aast hg hus hx0 ⟨rfl, hga.1, hga.2.1, hga.2.2.1, hga.2.2.2⟩ hin hd hv ?_
  rw [hv, h_hqs]
  exact kk
end NR5
theorem d_Historyinit_0 : decode prog_5_method_1_code 0 = .ok (.aload_n 0, 1) := by decide +kernel
theorem d_Historyinit_1 : decode prog_5_method_1_code 1 = .ok (.invokespecial 3, 3) := by decide +kernel
theorem d_Historyinit_4 : decode prog_5_method_1_code 4 = .ok (.aload_n 0, 1) := by decide +kernel
theorem d_Historyinit_5 : decode prog_5_method_1_code 5 = .ok (.bipush 16, 2) := by decide +kernel
theorem d_Historyinit_7 : decode prog_5_method_1_code 7 = .ok (.anewarray 9, 3) := by decide +kernel
theorem d_Historyinit_10 : decode prog_5_method_1_code 10 = .ok (.putfield 11, 3) := by decide +kernel
theorem d_Historyinit_13 : decode prog_5_method_1_code 13 = .ok (.iconst 0, 1) := by decide +kernel
theorem d_Historyinit_14 : decode prog_5_method_1_code 14 = .ok (.istore_n 1, 1) := by decide +kernel
theorem d_Historyinit_15 : decode prog_5_method_1_code 15 = .ok (.iload_n 1, 1) := by decide +kernel
theorem d_Historyinit_16 : decode prog_5_method_1_code 16 = .ok (.aload_n 0, 1) := by decide +kernel
theorem d_Historyinit_17 : decode prog_5_method_1_code 17 = .ok (.getfield 11, 3) := by decide +kernel
theorem d_Historyinit_20 : decode prog_5_method_1_code 20 = .ok (.arraylength, 1) := by decide +kernel
theorem d_Historyinit_21 : decode prog_5_method_1_code 21 = .ok (.if_icmp .ge 22, 3) := by decide +kernel
theorem d_Historyinit_24 : decode prog_5_method_1_code 24 = .ok (.aload_n 0, 1) := by decide +kernel
theorem d_Historyinit_25 : decode prog_5_method_1_code 25 = .ok (.getfield 11, 3) := by decide +kernel
theorem d_Historyinit_28 : decode prog_5_method_1_code 28 = .ok (.iload_n 1, 1) := by decide +kernel
theorem d_Historyinit_29 : decode prog_5_method_1_code 29 = .ok (.new 9, 3) := by decide +kernel
theorem d_Historyinit_32 : decode prog_5_method_1_code 32 = .ok (.dup, 1) := by decide +kernel
theorem d_Historyinit_33 : decode prog_5_method_1_code 33 = .ok (.invokespecial 17, 3) := by decide +kernel
theorem d_Historyinit_36 : decode prog_5_method_1_code 36 = .ok (.aastore, 1) := by decide +kernel
theorem d_Historyinit_37 : decode prog_5_method_1_code 37 = .ok (.iinc 1 1, 3) := by decide +kernel
theorem d_Historyinit_40 : decode prog_5_method_1_code 40 = .ok (.goto (-25), 3) := by decide +kernel
theorem d_Historyinit_43 : decode prog_5_method_1_code 43 = .ok (.return_, 1) := by decide +kernel
theorem o_History (G : HGeo) : (h_fl 86).mapIdx (fun k q => h_fv G h_μ0 86 k q) = [.ref (G.2.2 (87)), .int 0, .int 0] := by
  rw [show h_fl 86 = [(2, 87), (0, 0), (0, 0)] from by decide +kernel]
  simp only [List.mapIdx_cons, List.mapIdx_nil]
  rfl
def b_History : List Nat := [86, 87, 20, 21, 22, 23, 24, 25, 26, 27, 28, 29, 30, 31, 32, 33, 34, 35, 36, 37, 38, 39, 40, 41, 42, 43, 44, 45, 46, 47, 48, 49, 50, 51, 52, 53, 54, 55, 56, 57, 58, 59, 60, 61, 62, 63, 64, 65, 66, 67, 68, 69, 70, 71, 72, 73, 74, 75, 76, 77, 78, 79, 80, 81, 82, 83]
theorem m_History : ∀ d, d ∈ b_History → d ≠ 86 → d ≠ 87 → ((((((((((((((((False ∨ d ∈ [20, 20 + 1, 20 + 2, 20 + 3]) ∨ d ∈ [24, 24 + 1, 24 + 2, 24 + 3]) ∨ d ∈ [28, 28 + 1, 28 + 2, 28 + 3]) ∨ d ∈ [32, 32 + 1, 32 + 2, 32 + 3]) ∨ d ∈ [36, 36 + 1, 36 + 2, 36 + 3]) ∨ d ∈ [40, 40 + 1, 40 + 2, 40 + 3]) ∨ d ∈ [44, 44 + 1, 44 + 2, 44 + 3]) ∨ d ∈ [48, 48 + 1, 48 + 2, 48 + 3]) ∨ d ∈ [52, 52 + 1, 52 + 2, 52 + 3]) ∨ d ∈ [56, 56 + 1, 56 + 2, 56 + 3]) ∨ d ∈ [60, 60 + 1, 60 + 2, 60 + 3]) ∨ d ∈ [64, 64 + 1, 64 + 2, 64 + 3]) ∨ d ∈ [68, 68 + 1, 68 + 2, 68 + 3]) ∨ d ∈ [72, 72 + 1, 72 + 2, 72 + 3]) ∨ d ∈ [76, 76 + 1, 76 + 2, 76 + 3]) ∨ d ∈ [80, 80 + 1, 80 + 2, 80 + 3]) := by decide +kernel
theorem cs_History : NSpec ⟨"HomBench$History", "<init>", "()V"⟩ prog_5_method_1_code 2 2 65 1360 86 (.inr (2, [.null, .int 0, .int 0])) b_History := by
  refine NSpec.of (by decide +kernel) rfl (by decide) fun cx base bs hN hg => ?_
  obtain ⟨p, lc, e, Rm, s, m, args, below, meth, c1, G, A⟩ := cx
  obtain ⟨hG, hA, hin, hsz⟩ := id hN
  have hz : ∀ q, G.2.2 86 ≤ q → A q := fun q hq => by rw [hA]; exact hq
  have hzz : ∀ t q, G.2.2 86 + t ≤ q → A q := fun t q h => hz q (Nat.le_trans (Nat.le_add_right _ _) h)
  have aa : G.2.2 86 = base + 6 := sz_at hG (by decide) (by decide)
  have a87 : G.2.2 87 = G.2.2 86 + 1 := by rw [sz_at hG (c := 87) (P := 7) (by decide) (by decide), aa]
  have a20 : G.2.2 20 = G.2.2 86 + 2 := by rw [sz_at hG (c := 20) (P := 8) (by decide) (by decide), aa]
  have a24 : G.2.2 24 = G.2.2 86 + 6 := by rw [sz_at hG (c := 24) (P := 12) (by decide) (by decide), aa]
  have a28 : G.2.2 28 = G.2.2 86 + 10 := by rw [sz_at hG (c := 28) (P := 16) (by decide) (by decide), aa]
  have a32 : G.2.2 32 = G.2.2 86 + 14 := by rw [sz_at hG (c := 32) (P := 20) (by decide) (by decide), aa]
  have a36 : G.2.2 36 = G.2.2 86 + 18 := by rw [sz_at hG (c := 36) (P := 24) (by decide) (by decide), aa]
  have a40 : G.2.2 40 = G.2.2 86 + 22 := by rw [sz_at hG (c := 40) (P := 28) (by decide) (by decide), aa]
  have a44 : G.2.2 44 = G.2.2 86 + 26 := by rw [sz_at hG (c := 44) (P := 32) (by decide) (by decide), aa]
  have a48 : G.2.2 48 = G.2.2 86 + 30 := by rw [sz_at hG (c := 48) (P := 36) (by decide) (by decide), aa]
  have a52 : G.2.2 52 = G.2.2 86 + 34 := by rw [sz_at hG (c := 52) (P := 40) (by decide) (by decide), aa]
  have a56 : G.2.2 56 = G.2.2 86 + 38 := by rw [sz_at hG (c := 56) (P := 44) (by decide) (by decide), aa]
  have a60 : G.2.2 60 = G.2.2 86 + 42 := by rw [sz_at hG (c := 60) (P := 48) (by decide) (by decide), aa]
  have a64 : G.2.2 64 = G.2.2 86 + 46 := by rw [sz_at hG (c := 64) (P := 52) (by decide) (by decide), aa]
  have a68 : G.2.2 68 = G.2.2 86 + 50 := by rw [sz_at hG (c := 68) (P := 56) (by decide) (by decide), aa]
  have a72 : G.2.2 72 = G.2.2 86 + 54 := by rw [sz_at hG (c := 72) (P := 60) (by decide) (by decide), aa]
  have a76 : G.2.2 76 = G.2.2 86 + 58 := by rw [sz_at hG (c := 76) (P := 64) (by decide) (by decide), aa]
  have a80 : G.2.2 80 = G.2.2 86 + 62 := by rw [sz_at hG (c := 80) (P := 68) (by decide) (by decide), aa]
  show NX _ _ [(G.2.2 86, _)] (fun _ => False) (G.2.2 86 + 1) 0 0 0 [(0, .ref (G.2.2 86))] []
  have hS0 : ∀ e, False → G.2.2 86 + 2 ≤ G.2.2 e ∧ G.2.2 e < G.2.2 86 + 1 := fun e h => h.elim
  refine n_aload hg 0 d_Historyinit_0 rfl rfl ?_
  refine n_objInit hg k_37 k_1 k_2 d_Historyinit_1 (by decide) (by decide) ?_
  refine n_aload hg 0 d_Historyinit_4 rfl rfl ?_
  refine n_bipush hg (v := 16) d_Historyinit_5 (by decide) ?_
  refine n_newq hg (N := 16) (cA := G.2.1 4) rfl k_38 (by decide) (by decide) (by decide) ⟨by decide, by decide⟩ d_Historyinit_7 (so1 0) (fun e h => (hS0 e h).2) ?_
  rw [h_hq0 G 87]
  have hS1 : ∀ e, False → G.2.2 86 + 2 ≤ G.2.2 e ∧ G.2.2 e < G.2.2 86 + 1 + 1 := fun e h => h.elim
  refine n_putF hg (us' := [(G.2.2 86 + 1, .inl (G.2.1 4, 16, .inr (.inr (.inr (.inr (h_hq G 87 0))))))]) (ci := 2) (j := 0) (fs := [.null, .int 0, .int 0]) ⟨rfl, i_History⟩ t_History_ok n_History rfl so3 (by decide) rfl rfl hin (ty := .array (.object "HomBench$Graph")) (by decide +kernel) rfl rfl (Nat.le_of_ble_eq_true rfl) k_39 d_Historyinit_10 ⟨hz _ (Nat.le_refl _), fun e h => Nat.ne_of_gt (Nat.lt_of_succ_lt (hS1 e h).1)⟩ ?_
  refine n_iconst hg (v := 0) d_Historyinit_13 (by decide) ?_
  refine n_istore hg (l' := [(1, .int 0), (0, .ref (G.2.2 86))]) d_Historyinit_14 rfl (by decide) rfl ?_
  refine n_iload hg 0 d_Historyinit_15 rfl rfl ?_
  refine n_aload hg 1 d_Historyinit_16 rfl rfl ?_
  refine n_get hg (ci := 2) (j := 0) (fs := [.ref (G.2.2 86 + 1), .int 0, .int 0]) (v := .ref (G.2.2 86 + 1)) ⟨rfl, i_History⟩ rfl (by decide) rfl k_39 d_Historyinit_17 ?_
  refine n_alen hg rfl rfl d_Historyinit_20 ?_
  refine n_icmp_on hg (tgt := 43) d_Historyinit_21 rfl (by decide) ?_
  refine n_aload hg 1 d_Historyinit_24 rfl rfl ?_
  refine n_get hg (ci := 2) (j := 0) (fs := [.ref (G.2.2 86 + 1), .int 0, .int 0]) (v := .ref (G.2.2 86 + 1)) ⟨rfl, i_History⟩ rfl (by decide) rfl k_39 d_Historyinit_25 ?_
  refine n_iload hg 0 d_Historyinit_28 rfl rfl ?_
  refine n_make hg (d := 20) (ci := 0) (N := 4) (C := "HomBench$Graph") (T := F_Graph) (ty0 := t_Graph) (fs := [.int 0, .null, .null, .null]) (i1 := 9) (i2 := 17) (base := base) (bs := bs) (cs_Graph 20 (by decide)) ⟨hG, a20, fun q hq => hzz 2 q hq, (fun e h => (hS1 e h).2)⟩ (so2 0) ⟨rfl, i_Graph⟩ t_Graph_ok (by decide +kernel) ⟨(by intro w hw; simp only [List.mem_cons, List.not_mem_nil, or_false] at hw; rcases hw with rfl | rfl | rfl | rfl | rfl | rfl; exact k_40; exact k_41; exact k_42; exact k_38; exact k_43; exact k_41), rfl, by decide +kernel, by decide +kernel, by decide +kernel⟩ (Or.inl ⟨"HomBench", by decide +kernel⟩) ⟨by decide, by decide⟩ ⟨by decide, by decide⟩ (Nat.le_of_ble_eq_true rfl) d_Historyinit_29 d_Historyinit_32 d_Historyinit_33 ?_
  have hS2 := sz_orb (B := fun e => e ∈ [20, 20 + 1, 20 + 2, 20 + 3]) (z' := G.2.2 86 + 1 + 1 + 1 + 3) hS1 (sz_blk2 hG aa (t := 2) (t' := 6) (by decide +kernel)) (show G.2.2 86 + 2 ≤ G.2.2 86 + 2 from Nat.add_le_add_left (by decide) _) (show G.2.2 86 + 2 ≤ G.2.2 86 + 6 from Nat.add_le_add_left (by decide) _)
  refine n_aast2 hg (G := G) rfl (ua := G.2.2 86 + 1) (x0 := (G.2.2 86, .inr (2, [.ref (G.2.2 86 + 1), .int 0, .int 0]))) (N := 16) (g := 20) (c := 87) (i' := 0) (v := G.2.2 86 + 1 + 1) rfl (Nat.ne_of_lt (Nat.lt_succ_self _)) ⟨hzz 1 _ (Nat.le_refl _), by simp, by decide, fun e h => Nat.ne_of_gt (hS2 e h).1⟩ (by decide) (by decide) (show ¬ ((0 : Int32) < 0 ∨ 16 ≤ (0 : Int32).toNatClampNeg) from by decide) d_Historyinit_36 (a20.symm) ?_
  refine n_iinc hg 0 (x := 0) (v := 1) (l' := [(1, .int 1), (0, .ref (G.2.2 86))]) d_Historyinit_37 rfl (by decide) (by decide) rfl ?_
  refine n_goto hg (tgt := 15) d_Historyinit_40 rfl ?_
  refine n_iload hg 0 d_Historyinit_15 rfl rfl ?_
  refine n_aload hg 1 d_Historyinit_16 rfl rfl ?_
  refine n_get hg (ci := 2) (j := 0) (fs := [.ref (G.2.2 86 + 1), .int 0, .int 0]) (v := .ref (G.2.2 86 + 1)) ⟨rfl, i_History⟩ rfl (by decide) rfl k_39 d_Historyinit_17 ?_
  refine n_alen hg rfl rfl d_Historyinit_20 ?_
  refine n_icmp_on hg (tgt := 43) d_Historyinit_21 rfl (by decide) ?_
  refine n_aload hg 1 d_Historyinit_24 rfl rfl ?_
  refine n_get hg (ci := 2) (j := 0) (fs := [.ref (G.2.2 86 + 1), .int 0, .int 0]) (v := .ref (G.2.2 86 + 1)) ⟨rfl, i_History⟩ rfl (by decide) rfl k_39 d_Historyinit_25 ?_
  refine n_iload hg 0 d_Historyinit_28 rfl rfl ?_
  refine n_make hg (d := 24) (ci := 0) (N := 4) (C := "HomBench$Graph") (T := F_Graph) (ty0 := t_Graph) (fs := [.int 0, .null, .null, .null]) (i1 := 9) (i2 := 17) (base := base) (bs := bs) (cs_Graph 24 (by decide)) ⟨hG, a24, fun q hq => hzz 6 q hq, (fun e h => (hS2 e h).2)⟩ (so2 4) ⟨rfl, i_Graph⟩ t_Graph_ok (by decide +kernel) ⟨(by intro w hw; simp only [List.mem_cons, List.not_mem_nil, or_false] at hw; rcases hw with rfl | rfl | rfl | rfl | rfl | rfl; exact k_40; exact k_41; exact k_42; exact k_38; exact k_43; exact k_41), rfl, by decide +kernel, by decide +kernel, by decide +kernel⟩ (Or.inl ⟨"HomBench", by decide +kernel⟩) ⟨by decide, by decide⟩ ⟨by decide, by decide⟩ (Nat.le_of_ble_eq_true rfl) d_Historyinit_29 d_Historyinit_32 d_Historyinit_33 ?_
  have hS3 := sz_orb (B := fun e => e ∈ [24, 24 + 1, 24 + 2, 24 + 3]) (z' := G.2.2 86 + 1 + 1 + 1 + 3 + 1 + 3) hS2 (sz_blk2 hG aa (t := 6) (t' := 10) (by decide +kernel)) (show G.2.2 86 + 2 ≤ G.2.2 86 + 6 from Nat.add_le_add_left (by decide) _) (show G.2.2 86 + 6 ≤ G.2.2 86 + 10 from Nat.add_le_add_left (by decide) _)
  refine n_aast2 hg (G := G) rfl (ua := G.2.2 86 + 1) (x0 := (G.2.2 86, .inr (2, [.ref (G.2.2 86 + 1), .int 0, .int 0]))) (N := 16) (g := 24) (c := 87) (i' := 1) (v := G.2.2 86 + 1 + 1 + 1 + 3) rfl (Nat.ne_of_lt (Nat.lt_succ_self _)) ⟨hzz 1 _ (Nat.le_refl _), by simp, by decide, fun e h => Nat.ne_of_gt (hS3 e h).1⟩ (by decide) (by decide) (show ¬ ((1 : Int32) < 0 ∨ 16 ≤ (1 : Int32).toNatClampNeg) from by decide) d_Historyinit_36 (a24.symm) ?_
  refine n_iinc hg 0 (x := 1) (v := 2) (l' := [(1, .int 2), (0, .ref (G.2.2 86))]) d_Historyinit_37 rfl (by decide) (by decide) rfl ?_
  refine n_goto hg (tgt := 15) d_Historyinit_40 rfl ?_
  refine n_iload hg 0 d_Historyinit_15 rfl rfl ?_
  refine n_aload hg 1 d_Historyinit_16 rfl rfl ?_
  refine n_get hg (ci := 2) (j := 0) (fs := [.ref (G.2.2 86 + 1), .int 0, .int 0]) (v := .ref (G.2.2 86 + 1)) ⟨rfl, i_History⟩ rfl (by decide) rfl k_39 d_Historyinit_17 ?_
  refine n_alen hg rfl rfl d_Historyinit_20 ?_
  refine n_icmp_on hg (tgt := 43) d_Historyinit_21 rfl (by decide) ?_
  refine n_aload hg 1 d_Historyinit_24 rfl rfl ?_
  refine n_get hg (ci := 2) (j := 0) (fs := [.ref (G.2.2 86 + 1), .int 0, .int 0]) (v := .ref (G.2.2 86 + 1)) ⟨rfl, i_History⟩ rfl (by decide) rfl k_39 d_Historyinit_25 ?_
  refine n_iload hg 0 d_Historyinit_28 rfl rfl ?_
  refine n_make hg (d := 28) (ci := 0) (N := 4) (C := "HomBench$Graph") (T := F_Graph) (ty0 := t_Graph) (fs := [.int 0, .null, .null, .null]) (i1 := 9) (i2 := 17) (base := base) (bs := bs) (cs_Graph 28 (by decide)) ⟨hG, a28, fun q hq => hzz 10 q hq, (fun e h => (hS3 e h).2)⟩ (so2 8) ⟨rfl, i_Graph⟩ t_Graph_ok (by decide +kernel) ⟨(by intro w hw; simp only [List.mem_cons, List.not_mem_nil, or_false] at hw; rcases hw with rfl | rfl | rfl | rfl | rfl | rfl; exact k_40; exact k_41; exact k_42; exact k_38; exact k_43; exact k_41), rfl, by decide +kernel, by decide +kernel, by decide +kernel⟩ (Or.inl ⟨"HomBench", by decide +kernel⟩) ⟨by decide, by decide⟩ ⟨by decide, by decide⟩ (Nat.le_of_ble_eq_true rfl) d_Historyinit_29 d_Historyinit_32 d_Historyinit_33 ?_
  have hS4 := sz_orb (B := fun e => e ∈ [28, 28 + 1, 28 + 2, 28 + 3]) (z' := G.2.2 86 + 1 + 1 + 1 + 3 + 1 + 3 + 1 + 3) hS3 (sz_blk2 hG aa (t := 10) (t' := 14) (by decide +kernel)) (show G.2.2 86 + 2 ≤ G.2.2 86 + 10 from Nat.add_le_add_left (by decide) _) (show G.2.2 86 + 10 ≤ G.2.2 86 + 14 from Nat.add_le_add_left (by decide) _)
  refine n_aast2 hg (G := G) rfl (ua := G.2.2 86 + 1) (x0 := (G.2.2 86, .inr (2, [.ref (G.2.2 86 + 1), .int 0, .int 0]))) (N := 16) (g := 28) (c := 87) (i' := 2) (v := G.2.2 86 + 1 + 1 + 1 + 3 + 1 + 3) rfl (Nat.ne_of_lt (Nat.lt_succ_self _)) ⟨hzz 1 _ (Nat.le_refl _), by simp, by decide, fun e h => Nat.ne_of_gt (hS4 e h).1⟩ (by decide) (by decide) (show ¬ ((2 : Int32) < 0 ∨ 16 ≤ (2 : Int32).toNatClampNeg) from by decide) d_Historyinit_36 (a28.symm) ?_
  refine n_iinc hg 0 (x := 2) (v := 3) (l' := [(1, .int 3), (0, .ref (G.2.2 86))]) d_Historyinit_37 rfl (by decide) (by decide) rfl ?_
  refine n_goto hg (tgt := 15) d_Historyinit_40 rfl ?_
  refine n_iload hg 0 d_Historyinit_15 rfl rfl ?_
  refine n_aload hg 1 d_Historyinit_16 rfl rfl ?_
  refine n_get hg (ci := 2) (j := 0) (fs := [.ref (G.2.2 86 + 1), .int 0, .int 0]) (v := .ref (G.2.2 86 + 1)) ⟨rfl, i_History⟩ rfl (by decide) rfl k_39 d_Historyinit_17 ?_
  refine n_alen hg rfl rfl d_Historyinit_20 ?_
  refine n_icmp_on hg (tgt := 43) d_Historyinit_21 rfl (by decide) ?_
  refine n_aload hg 1 d_Historyinit_24 rfl rfl ?_
  refine n_get hg (ci := 2) (j := 0) (fs := [.ref (G.2.2 86 + 1), .int 0, .int 0]) (v := .ref (G.2.2 86 + 1)) ⟨rfl, i_History⟩ rfl (by decide) rfl k_39 d_Historyinit_25 ?_
  refine n_iload hg 0 d_Historyinit_28 rfl rfl ?_
  refine n_make hg (d := 32) (ci := 0) (N := 4) (C := "HomBench$Graph") (T := F_Graph) (ty0 := t_Graph) (fs := [.int 0, .null, .null, .null]) (i1 := 9) (i2 := 17) (base := base) (bs := bs) (cs_Graph 32 (by decide)) ⟨hG, a32, fun q hq => hzz 14 q hq, (fun e h => (hS4 e h).2)⟩ (so2 12) ⟨rfl, i_Graph⟩ t_Graph_ok (by decide +kernel) ⟨(by intro w hw; simp only [List.mem_cons, List.not_mem_nil, or_false] at hw; rcases hw with rfl | rfl | rfl | rfl | rfl | rfl; exact k_40; exact k_41; exact k_42; exact k_38; exact k_43; exact k_41), rfl, by decide +kernel, by decide +kernel, by decide +kernel⟩ (Or.inl ⟨"HomBench", by decide +kernel⟩) ⟨by decide, by decide⟩ ⟨by decide, by decide⟩ (Nat.le_of_ble_eq_true rfl) d_Historyinit_29 d_Historyinit_32 d_Historyinit_33 ?_
  have hS5 := sz_orb (B := fun e => e ∈ [32, 32 + 1, 32 + 2, 32 + 3]) (z' := G.2.2 86 + 1 + 1 + 1 + 3 + 1 + 3 + 1 + 3 + 1 + 3) hS4 (sz_blk2 hG aa (t := 14) (t' := 18) (by decide +kernel)) (show G.2.2 86 + 2 ≤ G.2.2 86 + 14 from Nat.add_le_add_left (by decide) _) (show G.2.2 86 + 14 ≤ G.2.2 86 + 18 from Nat.add_le_add_left (by decide) _)
  refine n_aast2 hg (G := G) rfl (ua := G.2.2 86 + 1) (x0 := (G.2.2 86, .inr (2, [.ref (G.2.2 86 + 1), .int 0, .int 0]))) (N := 16) (g := 32) (c := 87) (i' := 3) (v := G.2.2 86 + 1 + 1 + 1 + 3 + 1 + 3 + 1 + 3) rfl (Nat.ne_of_lt (Nat.lt_succ_self _)) ⟨hzz 1 _ (Nat.le_refl _), by simp, by decide, fun e h => Nat.ne_of_gt (hS5 e h).1⟩ (by decide) (by decide) (show ¬ ((3 : Int32) < 0 ∨ 16 ≤ (3 : Int32).toNatClampNeg) from by decide) d_Historyinit_36 (a32.symm) ?_
  refine n_iinc hg 0 (x := 3) (v := 4) (l' := [(1, .int 4), (0, .ref (G.2.2 86))]) d_Historyinit_37 rfl (by decide) (by decide) rfl ?_
  refine n_goto hg (tgt := 15) d_Historyinit_40 rfl ?_
  refine n_iload hg 0 d_Historyinit_15 rfl rfl ?_
  refine n_aload hg 1 d_Historyinit_16 rfl rfl ?_
  refine n_get hg (ci := 2) (j := 0) (fs := [.ref (G.2.2 86 + 1), .int 0, .int 0]) (v := .ref (G.2.2 86 + 1)) ⟨rfl, i_History⟩ rfl (by decide) rfl k_39 d_Historyinit_17 ?_
  refine n_alen hg rfl rfl d_Historyinit_20 ?_
  refine n_icmp_on hg (tgt := 43) d_Historyinit_21 rfl (by decide) ?_
  refine n_aload hg 1 d_Historyinit_24 rfl rfl ?_
  refine n_get hg (ci := 2) (j := 0) (fs := [.ref (G.2.2 86 + 1), .int 0, .int 0]) (v := .ref (G.2.2 86 + 1)) ⟨rfl, i_History⟩ rfl (by decide) rfl k_39 d_Historyinit_25 ?_
  refine n_iload hg 0 d_Historyinit_28 rfl rfl ?_
  refine n_make hg (d := 36) (ci := 0) (N := 4) (C := "HomBench$Graph") (T := F_Graph) (ty0 := t_Graph) (fs := [.int 0, .null, .null, .null]) (i1 := 9) (i2 := 17) (base := base) (bs := bs) (cs_Graph 36 (by decide)) ⟨hG, a36, fun q hq => hzz 18 q hq, (fun e h => (hS5 e h).2)⟩ (so2 16) ⟨rfl, i_Graph⟩ t_Graph_ok (by decide +kernel) ⟨(by intro w hw; simp only [List.mem_cons, List.not_mem_nil, or_false] at hw; rcases hw with rfl | rfl | rfl | rfl | rfl | rfl; exact k_40; exact k_41; exact k_42; exact k_38; exact k_43; exact k_41), rfl, by decide +kernel, by decide +kernel, by decide +kernel⟩ (Or.inl ⟨"HomBench", by decide +kernel⟩) ⟨by decide, by decide⟩ ⟨by decide, by decide⟩ (Nat.le_of_ble_eq_true rfl) d_Historyinit_29 d_Historyinit_32 d_Historyinit_33 ?_
  have hS6 := sz_orb (B := fun e => e ∈ [36, 36 + 1, 36 + 2, 36 + 3]) (z' := G.2.2 86 + 1 + 1 + 1 + 3 + 1 + 3 + 1 + 3 + 1 + 3 + 1 + 3) hS5 (sz_blk2 hG aa (t := 18) (t' := 22) (by decide +kernel)) (show G.2.2 86 + 2 ≤ G.2.2 86 + 18 from Nat.add_le_add_left (by decide) _) (show G.2.2 86 + 18 ≤ G.2.2 86 + 22 from Nat.add_le_add_left (by decide) _)
  refine n_aast2 hg (G := G) rfl (ua := G.2.2 86 + 1) (x0 := (G.2.2 86, .inr (2, [.ref (G.2.2 86 + 1), .int 0, .int 0]))) (N := 16) (g := 36) (c := 87) (i' := 4) (v := G.2.2 86 + 1 + 1 + 1 + 3 + 1 + 3 + 1 + 3 + 1 + 3) rfl (Nat.ne_of_lt (Nat.lt_succ_self _)) ⟨hzz 1 _ (Nat.le_refl _), by simp, by decide, fun e h => Nat.ne_of_gt (hS6 e h).1⟩ (by decide) (by decide) (show ¬ ((4 : Int32) < 0 ∨ 16 ≤ (4 : Int32).toNatClampNeg) from by decide) d_Historyinit_36 (a36.symm) ?_
  refine n_iinc hg 0 (x := 4) (v := 5) (l' := [(1, .int 5), (0, .ref (G.2.2 86))]) d_Historyinit_37 rfl (by decide) (by decide) rfl ?_
  refine n_goto hg (tgt := 15) d_Historyinit_40 rfl ?_
  refine n_iload hg 0 d_Historyinit_15 rfl rfl ?_
  refine n_aload hg 1 d_Historyinit_16 rfl rfl ?_
  refine n_get hg (ci := 2) (j := 0) (fs := [.ref (G.2.2 86 + 1), .int 0, .int 0]) (v := .ref (G.2.2 86 + 1)) ⟨rfl, i_History⟩ rfl (by decide) rfl k_39 d_Historyinit_17 ?_
  refine n_alen hg rfl rfl d_Historyinit_20 ?_
  refine n_icmp_on hg (tgt := 43) d_Historyinit_21 rfl (by decide) ?_
  refine n_aload hg 1 d_Historyinit_24 rfl rfl ?_
  refine n_get hg (ci := 2) (j := 0) (fs := [.ref (G.2.2 86 + 1), .int 0, .int 0]) (v := .ref (G.2.2 86 + 1)) ⟨rfl, i_History⟩ rfl (by decide) rfl k_39 d_Historyinit_25 ?_
  refine n_iload hg 0 d_Historyinit_28 rfl rfl ?_
  refine n_make hg (d := 40) (ci := 0) (N := 4) (C := "HomBench$Graph") (T := F_Graph) (ty0 := t_Graph) (fs := [.int 0, .null, .null, .null]) (i1 := 9) (i2 := 17) (base := base) (bs := bs) (cs_Graph 40 (by decide)) ⟨hG, a40, fun q hq => hzz 22 q hq, (fun e h => (hS6 e h).2)⟩ (so2 20) ⟨rfl, i_Graph⟩ t_Graph_ok (by decide +kernel) ⟨(by intro w hw; simp only [List.mem_cons, List.not_mem_nil, or_false] at hw; rcases hw with rfl | rfl | rfl | rfl | rfl | rfl; exact k_40; exact k_41; exact k_42; exact k_38; exact k_43; exact k_41), rfl, by decide +kernel, by decide +kernel, by decide +kernel⟩ (Or.inl ⟨"HomBench", by decide +kernel⟩) ⟨by decide, by decide⟩ ⟨by decide, by decide⟩ (Nat.le_of_ble_eq_true rfl) d_Historyinit_29 d_Historyinit_32 d_Historyinit_33 ?_
  have hS7 := sz_orb (B := fun e => e ∈ [40, 40 + 1, 40 + 2, 40 + 3]) (z' := G.2.2 86 + 1 + 1 + 1 + 3 + 1 + 3 + 1 + 3 + 1 + 3 + 1 + 3 + 1 + 3) hS6 (sz_blk2 hG aa (t := 22) (t' := 26) (by decide +kernel)) (show G.2.2 86 + 2 ≤ G.2.2 86 + 22 from Nat.add_le_add_left (by decide) _) (show G.2.2 86 + 22 ≤ G.2.2 86 + 26 from Nat.add_le_add_left (by decide) _)
  refine n_aast2 hg (G := G) rfl (ua := G.2.2 86 + 1) (x0 := (G.2.2 86, .inr (2, [.ref (G.2.2 86 + 1), .int 0, .int 0]))) (N := 16) (g := 40) (c := 87) (i' := 5) (v := G.2.2 86 + 1 + 1 + 1 + 3 + 1 + 3 + 1 + 3 + 1 + 3 + 1 + 3) rfl (Nat.ne_of_lt (Nat.lt_succ_self _)) ⟨hzz 1 _ (Nat.le_refl _), by simp, by decide, fun e h => Nat.ne_of_gt (hS7 e h).1⟩ (by decide) (by decide) (show ¬ ((5 : Int32) < 0 ∨ 16 ≤ (5 : Int32).toNatClampNeg) from by decide) d_Historyinit_36 (a40.symm) ?_
  refine n_iinc hg 0 (x := 5) (v := 6) (l' := [(1, .int 6), (0, .ref (G.2.2 86))]) d_Historyinit_37 rfl (by decide) (by decide) rfl ?_
  refine n_goto hg (tgt := 15) d_Historyinit_40 rfl ?_
  refine n_iload hg 0 d_Historyinit_15 rfl rfl ?_
  refine n_aload hg 1 d_Historyinit_16 rfl rfl ?_
  refine n_get hg (ci := 2) (j := 0) (fs := [.ref (G.2.2 86 + 1), .int 0, .int 0]) (v := .ref (G.2.2 86 + 1)) ⟨rfl, i_History⟩ rfl (by decide) rfl k_39 d_Historyinit_17 ?_
  refine n_alen hg rfl rfl d_Historyinit_20 ?_
  refine n_icmp_on hg (tgt := 43) d_Historyinit_21 rfl (by decide) ?_
  refine n_aload hg 1 d_Historyinit_24 rfl rfl ?_
  refine n_get hg (ci := 2) (j := 0) (fs := [.ref (G.2.2 86 + 1), .int 0, .int 0]) (v := .ref (G.2.2 86 + 1)) ⟨rfl, i_History⟩ rfl (by decide) rfl k_39 d_Historyinit_25 ?_
  refine n_iload hg 0 d_Historyinit_28 rfl rfl ?_
  refine n_make hg (d := 44) (ci := 0) (N := 4) (C := "HomBench$Graph") (T := F_Graph) (ty0 := t_Graph) (fs := [.int 0, .null, .null, .null]) (i1 := 9) (i2 := 17) (base := base) (bs := bs) (cs_Graph 44 (by decide)) ⟨hG, a44, fun q hq => hzz 26 q hq, (fun e h => (hS7 e h).2)⟩ (so2 24) ⟨rfl, i_Graph⟩ t_Graph_ok (by decide +kernel) ⟨(by intro w hw; simp only [List.mem_cons, List.not_mem_nil, or_false] at hw; rcases hw with rfl | rfl | rfl | rfl | rfl | rfl; exact k_40; exact k_41; exact k_42; exact k_38; exact k_43; exact k_41), rfl, by decide +kernel, by decide +kernel, by decide +kernel⟩ (Or.inl ⟨"HomBench", by decide +kernel⟩) ⟨by decide, by decide⟩ ⟨by decide, by decide⟩ (Nat.le_of_ble_eq_true rfl) d_Historyinit_29 d_Historyinit_32 d_Historyinit_33 ?_
  have hS8 := sz_orb (B := fun e => e ∈ [44, 44 + 1, 44 + 2, 44 + 3]) (z' := G.2.2 86 + 1 + 1 + 1 + 3 + 1 + 3 + 1 + 3 + 1 + 3 + 1 + 3 + 1 + 3 + 1 + 3) hS7 (sz_blk2 hG aa (t := 26) (t' := 30) (by decide +kernel)) (show G.2.2 86 + 2 ≤ G.2.2 86 + 26 from Nat.add_le_add_left (by decide) _) (show G.2.2 86 + 26 ≤ G.2.2 86 + 30 from Nat.add_le_add_left (by decide) _)
  refine n_aast2 hg (G := G) rfl (ua := G.2.2 86 + 1) (x0 := (G.2.2 86, .inr (2, [.ref (G.2.2 86 + 1), .int 0, .int 0]))) (N := 16) (g := 44) (c := 87) (i' := 6) (v := G.2.2 86 + 1 + 1 + 1 + 3 + 1 + 3 + 1 + 3 + 1 + 3 + 1 + 3 + 1 + 3) rfl (Nat.ne_of_lt (Nat.lt_succ_self _)) ⟨hzz 1 _ (Nat.le_refl _), by simp, by decide, fun e h => Nat.ne_of_gt (hS8 e h).1⟩ (by decide) (by decide) (show ¬ ((6 : Int32) < 0 ∨ 16 ≤ (6 : Int32).toNatClampNeg) from by decide) d_Historyinit_36 (a44.symm) ?_
  refine n_iinc hg 0 (x := 6) (v := 7) (l' := [(1, .int 7), (0, .ref (G.2.2 86))]) d_Historyinit_37 rfl (by decide) (by decide) rfl ?_
  refine n_goto hg (tgt := 15) d_Historyinit_40 rfl ?_
  refine n_iload hg 0 d_Historyinit_15 rfl rfl ?_
  refine n_aload hg 1 d_Historyinit_16 rfl rfl ?_
  refine n_get hg (ci := 2) (j := 0) (fs := [.ref (G.2.2 86 + 1), .int 0, .int 0]) (v := .ref (G.2.2 86 + 1)) ⟨rfl, i_History⟩ rfl (by decide) rfl k_39 d_Historyinit_17 ?_
  refine n_alen hg rfl rfl d_Historyinit_20 ?_
  refine n_icmp_on hg (tgt := 43) d_Historyinit_21 rfl (by decide) ?_
  refine n_aload hg 1 d_Historyinit_24 rfl rfl ?_
  refine n_get hg (ci := 2) (j := 0) (fs := [.ref (G.2.2 86 + 1), .int 0, .int 0]) (v := .ref (G.2.2 86 + 1)) ⟨rfl, i_History⟩ rfl (by decide) rfl k_39 d_Historyinit_25 ?_
  refine n_iload hg 0 d_Historyinit_28 rfl rfl ?_
  refine n_make hg (d := 48) (ci := 0) (N := 4) (C := "HomBench$Graph") (T := F_Graph) (ty0 := t_Graph) (fs := [.int 0, .null, .null, .null]) (i1 := 9) (i2 := 17) (base := base) (bs := bs) (cs_Graph 48 (by decide)) ⟨hG, a48, fun q hq => hzz 30 q hq, (fun e h => (hS8 e h).2)⟩ (so2 28) ⟨rfl, i_Graph⟩ t_Graph_ok (by decide +kernel) ⟨(by intro w hw; simp only [List.mem_cons, List.not_mem_nil, or_false] at hw; rcases hw with rfl | rfl | rfl | rfl | rfl | rfl; exact k_40; exact k_41; exact k_42; exact k_38; exact k_43; exact k_41), rfl, by decide +kernel, by decide +kernel, by decide +kernel⟩ (Or.inl ⟨"HomBench", by decide +kernel⟩) ⟨by decide, by decide⟩ ⟨by decide, by decide⟩ (Nat.le_of_ble_eq_true rfl) d_Historyinit_29 d_Historyinit_32 d_Historyinit_33 ?_
  have hS9 := sz_orb (B := fun e => e ∈ [48, 48 + 1, 48 + 2, 48 + 3]) (z' := G.2.2 86 + 1 + 1 + 1 + 3 + 1 + 3 + 1 + 3 + 1 + 3 + 1 + 3 + 1 + 3 + 1 + 3 + 1 + 3) hS8 (sz_blk2 hG aa (t := 30) (t' := 34) (by decide +kernel)) (show G.2.2 86 + 2 ≤ G.2.2 86 + 30 from Nat.add_le_add_left (by decide) _) (show G.2.2 86 + 30 ≤ G.2.2 86 + 34 from Nat.add_le_add_left (by decide) _)
  refine n_aast2 hg (G := G) rfl (ua := G.2.2 86 + 1) (x0 := (G.2.2 86, .inr (2, [.ref (G.2.2 86 + 1), .int 0, .int 0]))) (N := 16) (g := 48) (c := 87) (i' := 7) (v := G.2.2 86 + 1 + 1 + 1 + 3 + 1 + 3 + 1 + 3 + 1 + 3 + 1 + 3 + 1 + 3 + 1 + 3) rfl (Nat.ne_of_lt (Nat.lt_succ_self _)) ⟨hzz 1 _ (Nat.le_refl _), by simp, by decide, fun e h => Nat.ne_of_gt (hS9 e h).1⟩ (by decide) (by decide) (show ¬ ((7 : Int32) < 0 ∨ 16 ≤ (7 : Int32).toNatClampNeg) from by decide) d_Historyinit_36 (a48.symm) ?_
  refine n_iinc hg 0 (x := 7) (v := 8) (l' := [(1, .int 8), (0, .ref (G.2.2 86))]) d_Historyinit_37 rfl (by decide) (by decide) rfl ?_
  refine n_goto hg (tgt := 15) d_Historyinit_40 rfl ?_
  refine n_iload hg 0 d_Historyinit_15 rfl rfl ?_
  refine n_aload hg 1 d_Historyinit_16 rfl rfl ?_
  refine n_get hg (ci := 2) (j := 0) (fs := [.ref (G.2.2 86 + 1), .int 0, .int 0]) (v := .ref (G.2.2 86 + 1)) ⟨rfl, i_History⟩ rfl (by decide) rfl k_39 d_Historyinit_17 ?_
  refine n_alen hg rfl rfl d_Historyinit_20 ?_
  refine n_icmp_on hg (tgt := 43) d_Historyinit_21 rfl (by decide) ?_
  refine n_aload hg 1 d_Historyinit_24 rfl rfl ?_
  refine n_get hg (ci := 2) (j := 0) (fs := [.ref (G.2.2 86 + 1), .int 0, .int 0]) (v := .ref (G.2.2 86 + 1)) ⟨rfl, i_History⟩ rfl (by decide) rfl k_39 d_Historyinit_25 ?_
  refine n_iload hg 0 d_Historyinit_28 rfl rfl ?_
  refine n_make hg (d := 52) (ci := 0) (N := 4) (C := "HomBench$Graph") (T := F_Graph) (ty0 := t_Graph) (fs := [.int 0, .null, .null, .null]) (i1 := 9) (i2 := 17) (base := base) (bs := bs) (cs_Graph 52 (by decide)) ⟨hG, a52, fun q hq => hzz 34 q hq, (fun e h => (hS9 e h).2)⟩ (so2 32) ⟨rfl, i_Graph⟩ t_Graph_ok (by decide +kernel) ⟨(by intro w hw; simp only [List.mem_cons, List.not_mem_nil, or_false] at hw; rcases hw with rfl | rfl | rfl | rfl | rfl | rfl; exact k_40; exact k_41; exact k_42; exact k_38; exact k_43; exact k_41), rfl, by decide +kernel, by decide +kernel, by decide +kernel⟩ (Or.inl ⟨"HomBench", by decide +kernel⟩) ⟨by decide, by decide⟩ ⟨by decide, by decide⟩ (Nat.le_of_ble_eq_true rfl) d_Historyinit_29 d_Historyinit_32 d_Historyinit_33 ?_
  have hS10 := sz_orb (B := fun e => e ∈ [52, 52 + 1, 52 + 2, 52 + 3]) (z' := G.2.2 86 + 1 + 1 + 1 + 3 + 1 + 3 + 1 + 3 + 1 + 3 + 1 + 3 + 1 + 3 + 1 + 3 + 1 + 3 + 1 + 3) hS9 (sz_blk2 hG aa (t := 34) (t' := 38) (by decide +kernel)) (show G.2.2 86 + 2 ≤ G.2.2 86 + 34 from Nat.add_le_add_left (by decide) _) (show G.2.2 86 + 34 ≤ G.2.2 86 + 38 from Nat.add_le_add_left (by decide) _)
  refine n_aast2 hg (G := G) rfl (ua := G.2.2 86 + 1) (x0 := (G.2.2 86, .inr (2, [.ref (G.2.2 86 + 1), .int 0, .int 0]))) (N := 16) (g := 52) (c := 87) (i' := 8) (v := G.2.2 86 + 1 + 1 + 1 + 3 + 1 + 3 + 1 + 3 + 1 + 3 + 1 + 3 + 1 + 3 + 1 + 3 + 1 + 3) rfl (Nat.ne_of_lt (Nat.lt_succ_self _)) ⟨hzz 1 _ (Nat.le_refl _), by simp, by decide, fun e h => Nat.ne_of_gt (hS10 e h).1⟩ (by decide) (by decide) (show ¬ ((8 : Int32) < 0 ∨ 16 ≤ (8 : Int32).toNatClampNeg) from by decide) d_Historyinit_36 (a52.symm) ?_
  refine n_iinc hg 0 (x := 8) (v := 9) (l' := [(1, .int 9), (0, .ref (G.2.2 86))]) d_Historyinit_37 rfl (by decide) (by decide) rfl ?_
  refine n_goto hg (tgt := 15) d_Historyinit_40 rfl ?_
  refine n_iload hg 0 d_Historyinit_15 rfl rfl ?_
  refine n_aload hg 1 d_Historyinit_16 rfl rfl ?_
  refine n_get hg (ci := 2) (j := 0) (fs := [.ref (G.2.2 86 + 1), .int 0, .int 0]) (v := .ref (G.2.2 86 + 1)) ⟨rfl, i_History⟩ rfl (by decide) rfl k_39 d_Historyinit_17 ?_
  refine n_alen hg rfl rfl d_Historyinit_20 ?_
  refine n_icmp_on hg (tgt := 43) d_Historyinit_21 rfl (by decide) ?_
  refine n_aload hg 1 d_Historyinit_24 rfl rfl ?_
  refine n_get hg (ci := 2) (j := 0) (fs := [.ref (G.2.2 86 + 1), .int 0, .int 0]) (v := .ref (G.2.2 86 + 1)) ⟨rfl, i_History⟩ rfl (by decide) rfl k_39 d_Historyinit_25 ?_
  refine n_iload hg 0 d_Historyinit_28 rfl rfl ?_
  refine n_make hg (d := 56) (ci := 0) (N := 4) (C := "HomBench$Graph") (T := F_Graph) (ty0 := t_Graph) (fs := [.int 0, .null, .null, .null]) (i1 := 9) (i2 := 17) (base := base) (bs := bs) (cs_Graph 56 (by decide)) ⟨hG, a56, fun q hq => hzz 38 q hq, (fun e h => (hS10 e h).2)⟩ (so2 36) ⟨rfl, i_Graph⟩ t_Graph_ok (by decide +kernel) ⟨(by intro w hw; simp only [List.mem_cons, List.not_mem_nil, or_false] at hw; rcases hw with rfl | rfl | rfl | rfl | rfl | rfl; exact k_40; exact k_41; exact k_42; exact k_38; exact k_43; exact k_41), rfl, by decide +kernel, by decide +kernel, by decide +kernel⟩ (Or.inl ⟨"HomBench", by decide +kernel⟩) ⟨by decide, by decide⟩ ⟨by decide, by decide⟩ (Nat.le_of_ble_eq_true rfl) d_Historyinit_29 d_Historyinit_32 d_Historyinit_33 ?_
  have hS11 := sz_orb (B := fun e => e ∈ [56, 56 + 1, 56 + 2, 56 + 3]) (z' := G.2.2 86 + 1 + 1 + 1 + 3 + 1 + 3 + 1 + 3 + 1 + 3 + 1 + 3 + 1 + 3 + 1 + 3 + 1 + 3 + 1 + 3 + 1 + 3) hS10 (sz_blk2 hG aa (t := 38) (t' := 42) (by decide +kernel)) (show G.2.2 86 + 2 ≤ G.2.2 86 + 38 from Nat.add_le_add_left (by decide) _) (show G.2.2 86 + 38 ≤ G.2.2 86 + 42 from Nat.add_le_add_left (by decide) _)
  refine n_aast2 hg (G := G) rfl (ua := G.2.2 86 + 1) (x0 := (G.2.2 86, .inr (2, [.ref (G.2.2 86 + 1), .int 0, .int 0]))) (N := 16) (g := 56) (c := 87) (i' := 9) (v := G.2.2 86 + 1 + 1 + 1 + 3 + 1 + 3 + 1 + 3 + 1 + 3 + 1 + 3 + 1 + 3 + 1 + 3 + 1 + 3 + 1 + 3) rfl (Nat.ne_of_lt (Nat.lt_succ_self _)) ⟨hzz 1 _ (Nat.le_refl _), by simp, by decide, fun e h => Nat.ne_of_gt (hS11 e h).1⟩ (by decide) (by decide) (show ¬ ((9 : Int32) < 0 ∨ 16 ≤ (9 : Int32).toNatClampNeg) from by decide) d_Historyinit_36 (a56.symm) ?_
  refine n_iinc hg 0 (x := 9) (v := 10) (l' := [(1, .int 10), (0, .ref (G.2.2 86))]) d_Historyinit_37 rfl (by decide) (by decide) rfl ?_
  refine n_goto hg (tgt := 15) d_Historyinit_40 rfl ?_
  refine n_iload hg 0 d_Historyinit_15 rfl rfl ?_
  refine n_aload hg 1 d_Historyinit_16 rfl rfl ?_
  refine n_get hg (ci := 2) (j := 0) (fs := [.ref (G.2.2 86 + 1), .int 0, .int 0]) (v := .ref (G.2.2 86 + 1)) ⟨rfl, i_History⟩ rfl (by decide) rfl k_39 d_Historyinit_17 ?_
  refine n_alen hg rfl rfl d_Historyinit_20 ?_
  refine n_icmp_on hg (tgt := 43) d_Historyinit_21 rfl (by decide) ?_
  refine n_aload hg 1 d_Historyinit_24 rfl rfl ?_
  refine n_get hg (ci := 2) (j := 0) (fs := [.ref (G.2.2 86 + 1), .int 0, .int 0]) (v := .ref (G.2.2 86 + 1)) ⟨rfl, i_History⟩ rfl (by decide) rfl k_39 d_Historyinit_25 ?_
  refine n_iload hg 0 d_Historyinit_28 rfl rfl ?_
  refine n_make hg (d := 60) (ci := 0) (N := 4) (C := "HomBench$Graph") (T := F_Graph) (ty0 := t_Graph) (fs := [.int 0, .null, .null, .null]) (i1 := 9) (i2 := 17) (base := base) (bs := bs) (cs_Graph 60 (by decide)) ⟨hG, a60, fun q hq => hzz 42 q hq, (fun e h => (hS11 e h).2)⟩ (so2 40) ⟨rfl, i_Graph⟩ t_Graph_ok (by decide +kernel) ⟨(by intro w hw; simp only [List.mem_cons, List.not_mem_nil, or_false] at hw; rcases hw with rfl | rfl | rfl | rfl | rfl | rfl; exact k_40; exact k_41; exact k_42; exact k_38; exact k_43; exact k_41), rfl, by decide +kernel, by decide +kernel, by decide +kernel⟩ (Or.inl ⟨"HomBench", by decide +kernel⟩) ⟨by decide, by decide⟩ ⟨by decide, by decide⟩ (Nat.le_of_ble_eq_true rfl) d_Historyinit_29 d_Historyinit_32 d_Historyinit_33 ?_
  have hS12 := sz_orb (B := fun e => e ∈ [60, 60 + 1, 60 + 2, 60 + 3]) (z' := G.2.2 86 + 1 + 1 + 1 + 3 + 1 + 3 + 1 + 3 + 1 + 3 + 1 + 3 + 1 + 3 + 1 + 3 + 1 + 3 + 1 + 3 + 1 + 3 + 1 + 3) hS11 (sz_blk2 hG aa (t := 42) (t' := 46) (by decide +kernel)) (show G.2.2 86 + 2 ≤ G.2.2 86 + 42 from Nat.add_le_add_left (by decide) _) (show G.2.2 86 + 42 ≤ G.2.2 86 + 46 from Nat.add_le_add_left (by decide) _)
  refine n_aast2 hg (G := G) rfl (ua := G.2.2 86 + 1) (x0 := (G.2.2 86, .inr (2, [.ref (G.2.2 86 + 1), .int 0, .int 0]))) (N := 16) (g := 60) (c := 87) (i' := 10) (v := G.2.2 86 + 1 + 1 + 1 + 3 + 1 + 3 + 1 + 3 + 1 + 3 + 1 + 3 + 1 + 3 + 1 + 3 + 1 + 3 + 1 + 3 + 1 + 3) rfl (Nat.ne_of_lt (Nat.lt_succ_self _)) ⟨hzz 1 _ (Nat.le_refl _), by simp, by decide, fun e h => Nat.ne_of_gt (hS12 e h).1⟩ (by decide) (by decide) (show ¬ ((10 : Int32) < 0 ∨ 16 ≤ (10 : Int32).toNatClampNeg) from by decide) d_Historyinit_36 (a60.symm) ?_
  refine n_iinc hg 0 (x := 10) (v := 11) (l' := [(1, .int 11), (0, .ref (G.2.2 86))]) d_Historyinit_37 rfl (by decide) (by decide) rfl ?_
  refine n_goto hg (tgt := 15) d_Historyinit_40 rfl ?_
  refine n_iload hg 0 d_Historyinit_15 rfl rfl ?_
  refine n_aload hg 1 d_Historyinit_16 rfl rfl ?_
  refine n_get hg (ci := 2) (j := 0) (fs := [.ref (G.2.2 86 + 1), .int 0, .int 0]) (v := .ref (G.2.2 86 + 1)) ⟨rfl, i_History⟩ rfl (by decide) rfl k_39 d_Historyinit_17 ?_
  refine n_alen hg rfl rfl d_Historyinit_20 ?_
  refine n_icmp_on hg (tgt := 43) d_Historyinit_21 rfl (by decide) ?_
  refine n_aload hg 1 d_Historyinit_24 rfl rfl ?_
  refine n_get hg (ci := 2) (j := 0) (fs := [.ref (G.2.2 86 + 1), .int 0, .int 0]) (v := .ref (G.2.2 86 + 1)) ⟨rfl, i_History⟩ rfl (by decide) rfl k_39 d_Historyinit_25 ?_
  refine n_iload hg 0 d_Historyinit_28 rfl rfl ?_
  refine n_make hg (d := 64) (ci := 0) (N := 4) (C := "HomBench$Graph") (T := F_Graph) (ty0 := t_Graph) (fs := [.int 0, .null, .null, .null]) (i1 := 9) (i2 := 17) (base := base) (bs := bs) (cs_Graph 64 (by decide)) ⟨hG, a64, fun q hq => hzz 46 q hq, (fun e h => (hS12 e h).2)⟩ (so2 44) ⟨rfl, i_Graph⟩ t_Graph_ok (by decide +kernel) ⟨(by intro w hw; simp only [List.mem_cons, List.not_mem_nil, or_false] at hw; rcases hw with rfl | rfl | rfl | rfl | rfl | rfl; exact k_40; exact k_41; exact k_42; exact k_38; exact k_43; exact k_41), rfl, by decide +kernel, by decide +kernel, by decide +kernel⟩ (Or.inl ⟨"HomBench", by decide +kernel⟩) ⟨by decide, by decide⟩ ⟨by decide, by decide⟩ (Nat.le_of_ble_eq_true rfl) d_Historyinit_29 d_Historyinit_32 d_Historyinit_33 ?_
  have hS13 := sz_orb (B := fun e => e ∈ [64, 64 + 1, 64 + 2, 64 + 3]) (z' := G.2.2 86 + 1 + 1 + 1 + 3 + 1 + 3 + 1 + 3 + 1 + 3 + 1 + 3 + 1 + 3 + 1 + 3 + 1 + 3 + 1 + 3 + 1 + 3 + 1 + 3 + 1 + 3) hS12 (sz_blk2 hG aa (t := 46) (t' := 50) (by decide +kernel)) (show G.2.2 86 + 2 ≤ G.2.2 86 + 46 from Nat.add_le_add_left (by decide) _) (show G.2.2 86 + 46 ≤ G.2.2 86 + 50 from Nat.add_le_add_left (by decide) _)
  refine n_aast2 hg (G := G) rfl (ua := G.2.2 86 + 1) (x0 := (G.2.2 86, .inr (2, [.ref (G.2.2 86 + 1), .int 0, .int 0]))) (N := 16) (g := 64) (c := 87) (i' := 11) (v := G.2.2 86 + 1 + 1 + 1 + 3 + 1 + 3 + 1 + 3 + 1 + 3 + 1 + 3 + 1 + 3 + 1 + 3 + 1 + 3 + 1 + 3 + 1 + 3 + 1 + 3) rfl (Nat.ne_of_lt (Nat.lt_succ_self _)) ⟨hzz 1 _ (Nat.le_refl _), by simp, by decide, fun e h => Nat.ne_of_gt (hS13 e h).1⟩ (by decide) (by decide) (show ¬ ((11 : Int32) < 0 ∨ 16 ≤ (11 : Int32).toNatClampNeg) from by decide) d_Historyinit_36 (a64.symm) ?_
  refine n_iinc hg 0 (x := 11) (v := 12) (l' := [(1, .int 12), (0, .ref (G.2.2 86))]) d_Historyinit_37 rfl (by decide) (by decide) rfl ?_
  refine n_goto hg (tgt := 15) d_Historyinit_40 rfl ?_
  refine n_iload hg 0 d_Historyinit_15 rfl rfl ?_
  refine n_aload hg 1 d_Historyinit_16 rfl rfl ?_
  refine n_get hg (ci := 2) (j := 0) (fs := [.ref (G.2.2 86 + 1), .int 0, .int 0]) (v := .ref (G.2.2 86 + 1)) ⟨rfl, i_History⟩ rfl (by decide) rfl k_39 d_Historyinit_17 ?_
  refine n_alen hg rfl rfl d_Historyinit_20 ?_
  refine n_icmp_on hg (tgt := 43) d_Historyinit_21 rfl (by decide) ?_
  refine n_aload hg 1 d_Historyinit_24 rfl rfl ?_
  refine n_get hg (ci := 2) (j := 0) (fs := [.ref (G.2.2 86 + 1), .int 0, .int 0]) (v := .ref (G.2.2 86 + 1)) ⟨rfl, i_History⟩ rfl (by decide) rfl k_39 d_Historyinit_25 ?_
  refine n_iload hg 0 d_Historyinit_28 rfl rfl ?_
  refine n_make hg (d := 68) (ci := 0) (N := 4) (C := "HomBench$Graph") (T := F_Graph) (ty0 := t_Graph) (fs := [.int 0, .null, .null, .null]) (i1 := 9) (i2 := 17) (base := base) (bs := bs) (cs_Graph 68 (by decide)) ⟨hG, a68, fun q hq => hzz 50 q hq, (fun e h => (hS13 e h).2)⟩ (so2 48) ⟨rfl, i_Graph⟩ t_Graph_ok (by decide +kernel) ⟨(by intro w hw; simp only [List.mem_cons, List.not_mem_nil, or_false] at hw; rcases hw with rfl | rfl | rfl | rfl | rfl | rfl; exact k_40; exact k_41; exact k_42; exact k_38; exact k_43; exact k_41), rfl, by decide +kernel, by decide +kernel, by decide +kernel⟩ (Or.inl ⟨"HomBench", by decide +kernel⟩) ⟨by decide, by decide⟩ ⟨by decide, by decide⟩ (Nat.le_of_ble_eq_true rfl) d_Historyinit_29 d_Historyinit_32 d_Historyinit_33 ?_
  have hS14 := sz_orb (B := fun e => e ∈ [68, 68 + 1, 68 + 2, 68 + 3]) (z' := G.2.2 86 + 1 + 1 + 1 + 3 + 1 + 3 + 1 + 3 + 1 + 3 + 1 + 3 + 1 + 3 + 1 + 3 + 1 + 3 + 1 + 3 + 1 + 3 + 1 + 3 + 1 + 3 + 1 + 3) hS13 (sz_blk2 hG aa (t := 50) (t' := 54) (by decide +kernel)) (show G.2.2 86 + 2 ≤ G.2.2 86 + 50 from Nat.add_le_add_left (by decide) _) (show G.2.2 86 + 50 ≤ G.2.2 86 + 54 from Nat.add_le_add_left (by decide) _)
  refine n_aast2 hg (G := G) rfl (ua := G.2.2 86 + 1) (x0 := (G.2.2 86, .inr (2, [.ref (G.2.2 86 + 1), .int 0, .int 0]))) (N := 16) (g := 68) (c := 87) (i' := 12) (v := G.2.2 86 + 1 + 1 + 1 + 3 + 1 + 3 + 1 + 3 + 1 + 3 + 1 + 3 + 1 + 3 + 1 + 3 + 1 + 3 + 1 + 3 + 1 + 3 + 1 + 3 + 1 + 3) rfl (Nat.ne_of_lt (Nat.lt_succ_self _)) ⟨hzz 1 _ (Nat.le_refl _), by simp, by decide, fun e h => Nat.ne_of_gt (hS14 e h).1⟩ (by decide) (by decide) (show ¬ ((12 : Int32) < 0 ∨ 16 ≤ (12 : Int32).toNatClampNeg) from by decide) d_Historyinit_36 (a68.symm) ?_
  refine n_iinc hg 0 (x := 12) (v := 13) (l' := [(1, .int 13), (0, .ref (G.2.2 86))]) d_Historyinit_37 rfl (by decide) (by decide) rfl ?_
  refine n_goto hg (tgt := 15) d_Historyinit_40 rfl ?_
  refine n_iload hg 0 d_Historyinit_15 rfl rfl ?_
  refine n_aload hg 1 d_Historyinit_16 rfl rfl ?_
  refine n_get hg (ci := 2) (j := 0) (fs := [.ref (G.2.2 86 + 1), .int 0, .int 0]) (v := .ref (G.2.2 86 + 1)) ⟨rfl, i_History⟩ rfl (by decide) rfl k_39 d_Historyinit_17 ?_
  refine n_alen hg rfl rfl d_Historyinit_20 ?_
  refine n_icmp_on hg (tgt := 43) d_Historyinit_21 rfl (by decide) ?_
  refine n_aload hg 1 d_Historyinit_24 rfl rfl ?_
  refine n_get hg (ci := 2) (j := 0) (fs := [.ref (G.2.2 86 + 1), .int 0, .int 0]) (v := .ref (G.2.2 86 + 1)) ⟨rfl, i_History⟩ rfl (by decide) rfl k_39 d_Historyinit_25 ?_
  refine n_iload hg 0 d_Historyinit_28 rfl rfl ?_
  refine n_make hg (d := 72) (ci := 0) (N := 4) (C := "HomBench$Graph") (T := F_Graph) (ty0 := t_Graph) (fs := [.int 0, .null, .null, .null]) (i1 := 9) (i2 := 17) (base := base) (bs := bs) (cs_Graph 72 (by decide)) ⟨hG, a72, fun q hq => hzz 54 q hq, (fun e h => (hS14 e h).2)⟩ (so2 52) ⟨rfl, i_Graph⟩ t_Graph_ok (by decide +kernel) ⟨(by intro w hw; simp only [List.mem_cons, List.not_mem_nil, or_false] at hw; rcases hw with rfl | rfl | rfl | rfl | rfl | rfl; exact k_40; exact k_41; exact k_42; exact k_38; exact k_43; exact k_41), rfl, by decide +kernel, by decide +kernel, by decide +kernel⟩ (Or.inl ⟨"HomBench", by decide +kernel⟩) ⟨by decide, by decide⟩ ⟨by decide, by decide⟩ (Nat.le_of_ble_eq_true rfl) d_Historyinit_29 d_Historyinit_32 d_Historyinit_33 ?_
  have hS15 := sz_orb (B := fun e => e ∈ [72, 72 + 1, 72 + 2, 72 + 3]) (z' := G.2.2 86 + 1 + 1 + 1 + 3 + 1 + 3 + 1 + 3 + 1 + 3 + 1 + 3 + 1 + 3 + 1 + 3 + 1 + 3 + 1 + 3 + 1 + 3 + 1 + 3 + 1 + 3 + 1 + 3 + 1 + 3) hS14 (sz_blk2 hG aa (t := 54) (t' := 58) (by decide +kernel)) (show G.2.2 86 + 2 ≤ G.2.2 86 + 54 from Nat.add_le_add_left (by decide) _) (show G.2.2 86 + 54 ≤ G.2.2 86 + 58 from Nat.add_le_add_left (by decide) _)
  refine n_aast2 hg (G := G) rfl (ua := G.2.2 86 + 1) (x0 := (G.2.2 86, .inr (2, [.ref (G.2.2 86 + 1), .int 0, .int 0]))) (N := 16) (g := 72) (c := 87) (i' := 13) (v := G.2.2 86 + 1 + 1 + 1 + 3 + 1 + 3 + 1 + 3 + 1 + 3 + 1 + 3 + 1 + 3 + 1 + 3 + 1 + 3 + 1 + 3 + 1 + 3 + 1 + 3 + 1 + 3 + 1 + 3) rfl (Nat.ne_of_lt (Nat.lt_succ_self _)) ⟨hzz 1 _ (Nat.le_refl _), by simp, by decide, fun e h => Nat.ne_of_gt (hS15 e h).1⟩ (by decide) (by decide) (show ¬ ((13 : Int32) < 0 ∨ 16 ≤ (13 : Int32).toNatClampNeg) from by decide) d_Historyinit_36 (a72.symm) ?_
  refine n_iinc hg 0 (x := 13) (v := 14) (l' := [(1, .int 14), (0, .ref (G.2.2 86))]) d_Historyinit_37 rfl (by decide) (by decide) rfl ?_
  refine n_goto hg (tgt := 15) d_Historyinit_40 rfl ?_
  refine n_iload hg 0 d_Historyinit_15 rfl rfl ?_
  refine n_aload hg 1 d_Historyinit_16 rfl rfl ?_
  refine n_get hg (ci := 2) (j := 0) (fs := [.ref (G.2.2 86 + 1), .int 0, .int 0]) (v := .ref (G.2.2 86 + 1)) ⟨rfl, i_History⟩ rfl (by decide) rfl k_39 d_Historyinit_17 ?_
  refine n_alen hg rfl rfl d_Historyinit_20 ?_
  refine n_icmp_on hg (tgt := 43) d_Historyinit_21 rfl (by decide) ?_
  refine n_aload hg 1 d_Historyinit_24 rfl rfl ?_
  refine n_get hg (ci := 2) (j := 0) (fs := [.ref (G.2.2 86 + 1), .int 0, .int 0]) (v := .ref (G.2.2 86 + 1)) ⟨rfl, i_History⟩ rfl (by decide) rfl k_39 d_Historyinit_25 ?_
  refine n_iload hg 0 d_Historyinit_28 rfl rfl ?_
  refine n_make hg (d := 76) (ci := 0) (N := 4) (C := "HomBench$Graph") (T := F_Graph) (ty0 := t_Graph) (fs := [.int 0, .null, .null, .null]) (i1 := 9) (i2 := 17) (base := base) (bs := bs) (cs_Graph 76 (by decide)) ⟨hG, a76, fun q hq => hzz 58 q hq, (fun e h => (hS15 e h).2)⟩ (so2 56) ⟨rfl, i_Graph⟩ t_Graph_ok (by decide +kernel) ⟨(by intro w hw; simp only [List.mem_cons, List.not_mem_nil, or_false] at hw; rcases hw with rfl | rfl | rfl | rfl | rfl | rfl; exact k_40; exact k_41; exact k_42; exact k_38; exact k_43; exact k_41), rfl, by decide +kernel, by decide +kernel, by decide +kernel⟩ (Or.inl ⟨"HomBench", by decide +kernel⟩) ⟨by decide, by decide⟩ ⟨by decide, by decide⟩ (Nat.le_of_ble_eq_true rfl) d_Historyinit_29 d_Historyinit_32 d_Historyinit_33 ?_
  have hS16 := sz_orb (B := fun e => e ∈ [76, 76 + 1, 76 + 2, 76 + 3]) (z' := G.2.2 86 + 1 + 1 + 1 + 3 + 1 + 3 + 1 + 3 + 1 + 3 + 1 + 3 + 1 + 3 + 1 + 3 + 1 + 3 + 1 + 3 + 1 + 3 + 1 + 3 + 1 + 3 + 1 + 3 + 1 + 3 + 1 + 3) hS15 (sz_blk2 hG aa (t := 58) (t' := 62) (by decide +kernel)) (show G.2.2 86 + 2 ≤ G.2.2 86 + 58 from Nat.add_le_add_left (by decide) _) (show G.2.2 86 + 58 ≤ G.2.2 86 + 62 from Nat.add_le_add_left (by decide) _)
  refine n_aast2 hg (G := G) rfl (ua := G.2.2 86 + 1) (x0 := (G.2.2 86, .inr (2, [.ref (G.2.2 86 + 1), .int 0, .int 0]))) (N := 16) (g := 76) (c := 87) (i' := 14) (v := G.2.2 86 + 1 + 1 + 1 + 3 + 1 + 3 + 1 + 3 + 1 + 3 + 1 + 3 + 1 + 3 + 1 + 3 + 1 + 3 + 1 + 3 + 1 + 3 + 1 + 3 + 1 + 3 + 1 + 3 + 1 + 3) rfl (Nat.ne_of_lt (Nat.lt_succ_self _)) ⟨hzz 1 _ (Nat.le_refl _), by simp, by decide, fun e h => Nat.ne_of_gt (hS16 e h).1⟩ (by decide) (by decide) (show ¬ ((14 : Int32) < 0 ∨ 16 ≤ (14 : Int32).toNatClampNeg) from by decide) d_Historyinit_36 (a76.symm) ?_
  refine n_iinc hg 0 (x := 14) (v := 15) (l' := [(1, .int 15), (0, .ref (G.2.2 86))]) d_Historyinit_37 rfl (by decide) (by decide) rfl ?_
  refine n_goto hg (tgt := 15) d_Historyinit_40 rfl ?_
  refine n_iload hg 0 d_Historyinit_15 rfl rfl ?_
  refine n_aload hg 1 d_Historyinit_16 rfl rfl ?_
  refine n_get hg (ci := 2) (j := 0) (fs := [.ref (G.2.2 86 + 1), .int 0, .int 0]) (v := .ref (G.2.2 86 + 1)) ⟨rfl, i_History⟩ rfl (by decide) rfl k_39 d_Historyinit_17 ?_
  refine n_alen hg rfl rfl d_Historyinit_20 ?_
  refine n_icmp_on hg (tgt := 43) d_Historyinit_21 rfl (by decide) ?_
  refine n_aload hg 1 d_Historyinit_24 rfl rfl ?_
  refine n_get hg (ci := 2) (j := 0) (fs := [.ref (G.2.2 86 + 1), .int 0, .int 0]) (v := .ref (G.2.2 86 + 1)) ⟨rfl, i_History⟩ rfl (by decide) rfl k_39 d_Historyinit_25 ?_
  refine n_iload hg 0 d_Historyinit_28 rfl rfl ?_
  refine n_make hg (d := 80) (ci := 0) (N := 4) (C := "HomBench$Graph") (T := F_Graph) (ty0 := t_Graph) (fs := [.int 0, .null, .null, .null]) (i1 := 9) (i2 := 17) (base := base) (bs := bs) (cs_Graph 80 (by decide)) ⟨hG, a80, fun q hq => hzz 62 q hq, (fun e h => (hS16 e h).2)⟩ (so2 60) ⟨rfl, i_Graph⟩ t_Graph_ok (by decide +kernel) ⟨(by intro w hw; simp only [List.mem_cons, List.not_mem_nil, or_false] at hw; rcases hw with rfl | rfl | rfl | rfl | rfl | rfl; exact k_40; exact k_41; exact k_42; exact k_38; exact k_43; exact k_41), rfl, by decide +kernel, by decide +kernel, by decide +kernel⟩ (Or.inl ⟨"HomBench", by decide +kernel⟩) ⟨by decide, by decide⟩ ⟨by decide, by decide⟩ (Nat.le_of_ble_eq_true rfl) d_Historyinit_29 d_Historyinit_32 d_Historyinit_33 ?_
  have hS17 := sz_orb (B := fun e => e ∈ [80, 80 + 1, 80 + 2, 80 + 3]) (z' := G.2.2 86 + 1 + 1 + 1 + 3 + 1 + 3 + 1 + 3 + 1 + 3 + 1 + 3 + 1 + 3 + 1 + 3 + 1 + 3 + 1 + 3 + 1 + 3 + 1 + 3 + 1 + 3 + 1 + 3 + 1 + 3 + 1 + 3 + 1 + 3) hS16 (sz_blk2 hG aa (t := 62) (t' := 66) (by decide +kernel)) (show G.2.2 86 + 2 ≤ G.2.2 86 + 62 from Nat.add_le_add_left (by decide) _) (show G.2.2 86 + 62 ≤ G.2.2 86 + 66 from Nat.add_le_add_left (by decide) _)
  refine n_aast2 hg (G := G) rfl (ua := G.2.2 86 + 1) (x0 := (G.2.2 86, .inr (2, [.ref (G.2.2 86 + 1), .int 0, .int 0]))) (N := 16) (g := 80) (c := 87) (i' := 15) (v := G.2.2 86 + 1 + 1 + 1 + 3 + 1 + 3 + 1 + 3 + 1 + 3 + 1 + 3 + 1 + 3 + 1 + 3 + 1 + 3 + 1 + 3 + 1 + 3 + 1 + 3 + 1 + 3 + 1 + 3 + 1 + 3 + 1 + 3) rfl (Nat.ne_of_lt (Nat.lt_succ_self _)) ⟨hzz 1 _ (Nat.le_refl _), by simp, by decide, fun e h => Nat.ne_of_gt (hS17 e h).1⟩ (by decide) (by decide) (show ¬ ((15 : Int32) < 0 ∨ 16 ≤ (15 : Int32).toNatClampNeg) from by decide) d_Historyinit_36 (a80.symm) ?_
  refine n_iinc hg 0 (x := 15) (v := 16) (l' := [(1, .int 16), (0, .ref (G.2.2 86))]) d_Historyinit_37 rfl (by decide) (by decide) rfl ?_
  refine n_goto hg (tgt := 15) d_Historyinit_40 rfl ?_
  refine n_iload hg 0 d_Historyinit_15 rfl rfl ?_
  refine n_aload hg 1 d_Historyinit_16 rfl rfl ?_
  refine n_get hg (ci := 2) (j := 0) (fs := [.ref (G.2.2 86 + 1), .int 0, .int 0]) (v := .ref (G.2.2 86 + 1)) ⟨rfl, i_History⟩ rfl (by decide) rfl k_39 d_Historyinit_17 ?_
  refine n_alen hg rfl rfl d_Historyinit_20 ?_
  refine n_icmp_off hg (tgt := 43) d_Historyinit_21 rfl (by decide) ?_
  refine n_vret hg hN d_Historyinit_43 rfl rfl rfl ?_
  intro d hd
  by_cases h0 : d = 86
  · subst h0
    right
    exact ⟨_, List.mem_cons_self, rfl, fun H h => by
        rw [h_cell_o G h_μ0 (ci := 2) (by decide)]
        have e1 : (h_fl 86).mapIdx (fun k q => h_fv G h_μ0 86 k q) = [.ref (G.2.2 (87)), .int 0, .int 0] := o_History G
        rw [e1, a87]
        exact h⟩
  by_cases h1 : d = 87
  · subst h1
    right
    exact ⟨_, List.mem_cons_of_mem _ List.mem_cons_self, a87.symm, fun H h => by
        rw [h_cell_5 G h_μ0 (c := 87) (by decide)]
        show H[G.2.2 87]? = some (vp_cell _ (16, _))
        rw [a87]
        exact Eq.trans h (congrArg some (vp_cell_ext (N := 16) fun j hj => h_hqN G 87 16 j hj))⟩
  left
  exact m_History d hd h0 h1

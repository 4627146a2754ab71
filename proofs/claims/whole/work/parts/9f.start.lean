/-! 9f: the law comes to its end with true -/
theorem whole_start {p : Program} {e : Env} {s : State} {m : MethodId} {below : List Frame} {meth : Method} {c : Code} (l : Launch) (hflags : l.flags = flags0) {b L : Nat} {xs : Nat → Int32} (hL : L ≤ 2560) (C0 : lw_At p s m meth c b L xs) : W p l e room_1 s m #[Value.ref b] below meth c s.heap [] 0 0 (lw_Z below #[Value.ref b] s) (entryFrame m ([Value.ref b] : List Value).toArray 8) := by
  obtain ⟨hx, hcb, hrt, hml, hown, hts, hX, hbl, hlk, hgv⟩ := id C0
  obtain ⟨D, hD⟩ := st_cls C0
  obtain ⟨Ar, hK, hgg⟩ := st_arrs C0 D hD s.heap.size b
  obtain ⟨w1, w2, w3, w4, w5⟩ := st_words C0
  have htr := st_traces hflags
  have hG : HGeoAt (st_G D Ar s.heap.size b) s.heap.size b := fun c => rfl
  have hb144 : (st_G D Ar s.heap.size b).2.2 144 = b := rfl
  generalize hGG : st_G D Ar s.heap.size b = G at *
  have hT : ∀ w ∈ h_tb, w.before #[Value.ref b] s = true := fun w hw => hts w (List.mem_filter.mp hw).1
  have hgN : NGood (p, l, e, room_1, s, m, #[Value.ref b], below, meth, c, G, fun q => s.heap.size ≤ q) R_law code 8 1000 601024 7293034 (some .boolean) := ⟨hx, hcb, hml, hown, hT, hK, ⟨w1, w2, hgg⟩, ⟨by decide, by decide, by decide, by decide⟩, hlk, hrt⟩
  have gz : ∀ d, d < 144 → G.2.2 d = s.heap.size + h_perm d := fun d hd => sz_at hG hd rfl
  have hgH : HGood (p, l, e, room_1, s, m, #[Value.ref b], below, meth, c, G, fun q => s.heap.size ≤ q) R_Law code 8 1000 (some .boolean) := ⟨hx, hcb, hml, hown, hT, hK, fun i j hi hj h => pm_inj i hi j hj (by rw [gz i hi, gz j hj] at h; omega), fun d hd => by show s.heap.size ≤ G.2.2 d; rw [gz d hd]; omega, ⟨by decide, by decide⟩, hlk, hrt, w3⟩
  have hLw : HLaw (p, l, e, room_1, s, m, #[Value.ref b], below, meth, c, G, fun q => s.heap.size ≤ q) xs L := ⟨htr, w4, w5, rfl, by rw [hb144]; exact hX, by rw [hb144]; exact hbl, rfl, by rw [hb144]⟩
  have main : NX (p, l, e, room_1, s, m, #[Value.ref b], below, meth, c, G, fun q => s.heap.size ≤ q) (lw_Z below #[Value.ref b] s) [] (fun _ => False) s.heap.size 0 0 0 [(0, .ref b)] [] := by
    refine n_make hgN (d := 84) (ci := 1) (N := 11) (C := "HomBench") (T := F_Bench) (ty0 := t_Bench) (fs := [.null, .null, .null, .null, .null, .null, .null, .null, .null, .null, .null]) (i1 := 8) (i2 := 122) (base := s.heap.size) (bs := b) cs_Bench ⟨hG, gz 84 (by decide), fun q hq => hq, fun e h => h.elim⟩ (fun q hq => absurd hq List.not_mem_nil) ⟨rfl, i_Bench⟩ t_Bench_ok (by decide +kernel) ⟨(by intro w hw; simp only [List.mem_cons, List.not_mem_nil, or_false] at hw; rcases hw with rfl | rfl | rfl | rfl | rfl | rfl; exact q_4; exact q_6; exact q_5; exact q_1; exact q_2; exact q_6), rfl, by decide +kernel, by decide +kernel, by decide +kernel⟩ (Or.inr q_3) ⟨by decide, by decide⟩ ⟨by decide, by decide⟩ (Nat.le_of_ble_eq_true rfl) l_0 l_3 l_4 ?_
    refine n_astore hgN (l' := [(1, .ref s.heap.size), (0, .ref b)]) l_7 rfl (by decide) rfl ?_
    refine n_make hgN (d := 125) (ci := 10) (N := 26) (C := "HomBenchModel") (T := F_Model) (ty0 := t_Model) (fs := [.null, .null, .int 0, .null, .int 0, .int 0, .null, .null, .null, .int 0, .int 0, .null, .null, .null, .null, .null, .null, .null, .null, .null, .null, .int 0, .int 0, .null, .int 0, .long 0]) (i1 := 123) (i2 := 125) (base := s.heap.size) (bs := b) cs_Model ⟨hG, gz 125 (by decide), fun q hq => Nat.le_trans (by omega) hq, fun e h => by
      rcases h with h | h
      · exact h.elim
      · have := pm_B e h
        rw [gz e this.1]
        omega⟩ (fun q hq => absurd hq List.not_mem_nil) ⟨rfl, i_Model⟩ t_Model_ok (by decide +kernel) ⟨(by intro w hw; simp only [List.mem_cons, List.not_mem_nil, or_false] at hw; rcases hw with rfl | rfl | rfl | rfl | rfl | rfl; exact q_10; exact q_12; exact q_11; exact q_7; exact q_8; exact q_12), rfl, by decide +kernel, by decide +kernel, by decide +kernel⟩ (Or.inr q_9) ⟨by decide, by decide⟩ ⟨by decide, by decide⟩ (Nat.le_of_ble_eq_true rfl) l_8 l_11 l_12 ?_
    refine n_astore hgN (l' := [(2, .ref (s.heap.size + 1 + 124)), (1, .ref s.heap.size), (0, .ref b)]) l_15 rfl (by decide) rfl ?_
    refine n_iconst hgN (v := 1) l_16 (by decide) ?_
    refine n_newa hgN (N := 1) (d := 143) (ty := .long) (t0 := 3) (a0 := (1, .inr (.inl (fun _ => 0)))) (cA := G.2.1 3) ⟨gz 143 (by decide), rfl, rfl⟩ rfl q_13 (fun _ h => h) (fun _ => rfl) (by decide) (by decide) (by decide) ⟨by decide, by decide⟩ l_17 (fun q hq => absurd hq List.not_mem_nil) (fun e h => by
      rcases h with (h | h) | h
      · exact h.elim
      · have := pm_B e h
        rw [gz e this.1]
        omega
      · have := pm_M e h
        rw [gz e this.1]
        omega) ?_
    refine n_astore hgN (l' := [(3, .ref (s.heap.size + 1 + 124 + 1 + 17)), (2, .ref (s.heap.size + 1 + 124)), (1, .ref s.heap.size), (0, .ref b)]) l_19 rfl (by decide) rfl ?_
    refine n_iconst hgN (v := 0) l_20 (by decide) ?_
    refine n_istore2 hgN (l' := [(4, .int 0), (3, .ref (s.heap.size + 1 + 124 + 1 + 17)), (2, .ref (s.heap.size + 1 + 124)), (1, .ref s.heap.size), (0, .ref b)]) l_21 (by decide) rfl ?_
    intro H locs ls hz ho hS hSS hl hC
    obtain ⟨μ', hok⟩ := law_ok xs hL
    have hw := t_Law_law_L23 hgH hLw 600 0 h_μ0 144 5206 ⟨by decide, by decide⟩ () μ' hok H locs ls (fun k q hq => ?_) hSS ⟨hl.1, hl.2.1, fun q hq => hl.2.2 q ?_⟩ ⟨by decide, by decide⟩
    · have e : h_lawQ (p, l, e, room_1, s, m, #[Value.ref b], below, meth, c, G, fun q => s.heap.size ≤ q) () μ' = lw_Z below #[Value.ref b] s := by
        show lw_Z below #[Value.ref (G.2.2 144)] s = _
        rw [hb144]
      rw [e] at hw
      exact hw
    · obtain ⟨hk, rfl⟩ := h_ws_inv hq
      refine hS k ?_
      rcases pm_all k hk with h | h | h
      · exact Or.inl (Or.inl (Or.inr h))
      · exact Or.inl (Or.inr h)
      · exact Or.inr h
    · have e1 : h_trl G [(0, .ref 144), (1, .ref 84), (2, .ref 125), (3, .ref 143), (4, .int 0)] = [(0, .ref b), (1, .ref s.heap.size), (2, .ref (s.heap.size + 1 + 124)), (3, .ref (s.heap.size + 1 + 124 + 1 + 17)), (4, .int 0)] := by
        show [(0, Value.ref (G.2.2 144)), (1, Value.ref (G.2.2 84)), (2, Value.ref (G.2.2 125)), (3, Value.ref (G.2.2 143)), (4, Value.int 0)] = _
        rw [hb144, gz 84 (by decide), gz 125 (by decide), gz 143 (by decide)]
        rfl
      rw [e1] at hq
      simp only [List.mem_cons, List.not_mem_nil, or_false] at hq ⊢
      rcases hq with rfl | rfl | rfl | rfl | rfl <;> simp
  have hl := lv_entry ([Value.ref b]) (n := 8) (by show 1 ≤ 8; exact Nat.le_of_ble_eq_true rfl)
  rw [lg_entry_eq]
  exact main s.heap [] _ rfl (fun k x hx => by simp at hx) (fun d hd => hd.elim) va_S.rf (by rw [hml]; exact hl) ⟨Nat.zero_le _, Nat.zero_le _⟩

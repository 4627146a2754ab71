/-! the start: what the Statement gives -/
theorem st_arr {s : State} {c : ClassId} {k : Class} {comp : ClassId} {ty : FieldType} (hk : s.vm.classes[c]? = some k) (hkind : k.kind = .array comp ty) : ArrOfT s c ty := fun n z => ⟨fun q h => (by cases h), k, hk, comp, hkind⟩
theorem st_over {args : Array Value} {s : State} (h : (Cond.arrayOver (.array .int)).before args s = true) :
    ∃ comp c k, s.vm.findClass (FieldType.array .int).toString = some comp ∧ s.vm.classes[c]? = some k ∧ k.kind = .array comp (.array .int) ∧ s.vm.findClass ("[" ++ (FieldType.array .int).toString) = some c := by
  simp only [Cond.before, Cond.holds, Cond.value, beq_iff_eq] at h
  cases hc : s.vm.findClass (FieldType.array .int).toString with
  | none => simp [hc] at h
  | some comp =>
    simp only [hc, Option.bind_some, Option.bind_eq_some_iff, Option.map_eq_some_iff] at h
    obtain ⟨c, hi, k, hk, hb⟩ := h
    obtain ⟨hlt, hp, -⟩ := Array.findIdx?_eq_some_iff_getElem.mp hi
    have hkk : s.vm.classes[c] = k := (Array.getElem?_eq_some_iff.mp hk).2
    rw [hkk] at hp
    cases hkind : k.kind with
    | array component ty =>
      rw [hkind] at hb hp
      simp at hb hp
      exact ⟨comp, c, k, rfl, hk, by rw [hkind, hp, hb.1], hb.2⟩
    | _ => rw [hkind] at hb; simp at hb
section ST
variable {p : Program} {s : State} {m : MethodId} {meth : Method} {c : Code} {b L : Nat} {xs : Nat → Int32}
theorem st_cls (C0 : lw_At p s m meth c b L xs) : ∃ D : va_G, ∀ (c : Nat) (q : vw_C), h_cl[c]? = some q → u_Kn s q.1 q.2.1 q.2.2 (D.1 c) (D.2 c) := by
  obtain ⟨-, -, -, -, -, hts, -⟩ := id C0
  have hT : ∀ w ∈ h_tb, w.before #[Value.ref b] s = true := fun w hw => hts w (List.mem_filter.mp hw).1
  have K : ∀ c : Nat, ∃ d : ClassId × (Nat → Nat), ∀ q : vw_C, h_cl[c]? = some q → u_Kn s q.1 q.2.1 q.2.2 d.1 d.2 := by
    intro c
    by_cases hc : c < 11
    · have hc2 : c = 0 ∨ c = 1 ∨ c = 2 ∨ c = 3 ∨ c = 4 ∨ c = 5 ∨ c = 6 ∨ c = 7 ∨ c = 8 ∨ c = 9 ∨ c = 10 := by omega
      have one : ∀ (C : String) (T : u_T) (N n i : Nat), (∀ w ∈ u_ws C T N, w ∈ h_tb) → lw_tbl[i]? = some (.instantiable C n) → h_cl[c]? = some (C, T, N) → ∃ d : ClassId × (Nat → Nat), ∀ q : vw_C, h_cl[c]? = some q → u_Kn s q.1 q.2.1 q.2.2 d.1 d.2 := by
        intro C T N n i h1 h2 h3
        obtain ⟨cC, iS, hk⟩ := u_known hT h1 (hts _ (List.mem_of_getElem? h2))
        refine ⟨(cC, iS), fun q hq => ?_⟩
        rw [h3] at hq
        cases hq
        exact hk
      rcases hc2 with rfl | rfl | rfl | rfl | rfl | rfl | rfl | rfl | rfl | rfl | rfl
      · exact one _ _ _ 4 132 i_Graph (by decide +kernel) rfl
      · exact one _ _ _ 11 123 i_Bench (by decide +kernel) rfl
      · exact one _ _ _ 3 169 i_History (by decide +kernel) rfl
      · exact one _ _ _ 3 188 i_Text (by decide +kernel) rfl
      · exact one _ _ _ 2 208 i_Script (by decide +kernel) rfl
      · exact one _ _ _ 6 223 i_Elimination (by decide +kernel) rfl
      · exact one _ _ _ 7 252 i_MapSums (by decide +kernel) rfl
      · exact one _ _ _ 5 280 i_HomSearch (by decide +kernel) rfl
      · exact one _ _ _ 3 304 i_Bijections (by decide +kernel) rfl
      · exact one _ _ _ 2 320 i_Walks (by decide +kernel) rfl
      · exact one _ _ _ 26 1122 i_Model (by decide +kernel) rfl
    · refine ⟨(0, fun _ => 0), fun q hq => ?_⟩
      have := (List.getElem?_eq_some_iff.mp hq).1
      exact absurd this hc
  obtain ⟨f, hf⟩ := Classical.skolem.mp K
  exact ⟨(fun c => (f c).1, fun c => (f c).2), hf⟩
def st_A (a0 a1 a2 a3 a4 a5 : ClassId) : Nat → ClassId := fun k => if k = 0 then a0 else if k = 1 then a1 else if k = 2 then a2 else if k = 3 then a3 else if k = 4 then a4 else a5
def st_G (D : va_G) (A : Nat → ClassId) (base b : Nat) : HGeo := (D, A, fun c => if c = 144 then b else base + h_perm c)
theorem st_arrs (C0 : lw_At p s m meth c b L xs) (D : va_G) (hD : ∀ (c : Nat) (q : vw_C), h_cl[c]? = some q → u_Kn s q.1 q.2.1 q.2.2 (D.1 c) (D.2 c)) (base b' : Nat) : ∃ A : Nat → ClassId, va_K (st_G D A base b').1 h_cl (h_tys (st_G D A base b')) s ∧ h_gg (st_G D A base b') s := by
  obtain ⟨-, -, -, -, -, hts, -⟩ := id C0
  obtain ⟨c0, k0, p0, f0, g0, e0⟩ := Cond.arrayClass_spec (hts _ (List.mem_of_getElem? (i := 167) (by decide +kernel) : Cond.arrayClass .int ∈ lw_tbl))
  obtain ⟨c1, k1, p1, f1, g1, e1⟩ := Cond.arrayClass_spec (hts _ (List.mem_of_getElem? (i := 206) (by decide +kernel) : Cond.arrayClass .byte ∈ lw_tbl))
  obtain ⟨c2, k2, p2, f2, g2, e2⟩ := Cond.arrayClass_spec (hts _ (List.mem_of_getElem? (i := 1206) (by decide +kernel) : Cond.arrayClass .boolean ∈ lw_tbl))
  obtain ⟨c3, k3, p3, f3, g3, e3⟩ := Cond.arrayClass_spec (hts _ (List.mem_of_getElem? (i := 332) (by decide +kernel) : Cond.arrayClass .long ∈ lw_tbl))
  obtain ⟨p4, c4, k4, f4, -, g4, e4, h4⟩ := Cond.arrayOver_spec (hts _ (List.mem_of_getElem? (i := 131) (by decide +kernel) : Cond.arrayOver (.object "HomBench$Graph") ∈ lw_tbl))
  obtain ⟨p5, c5, k5, f5, g5, e5, h5⟩ := st_over (hts _ (List.mem_of_getElem? (i := 286) (by decide +kernel) : Cond.arrayOver (.array .int) ∈ lw_tbl))
  have hp5 : p5 = c0 := Option.some.inj (f5.symm.trans f0)
  subst hp5
  refine ⟨st_A p5 c1 c2 c3 c4 c5, ⟨hD, fun k q hq => ?_⟩, ⟨k5, g5, e5⟩⟩
  have hk : k < 6 := (List.getElem?_eq_some_iff.mp hq).1
  have hk2 : k = 0 ∨ k = 1 ∨ k = 2 ∨ k = 3 ∨ k = 4 ∨ k = 5 := by omega
  rcases hk2 with rfl | rfl | rfl | rfl | rfl | rfl <;> cases hq
  · exact ⟨st_arr g0 e0, f0⟩
  · exact ⟨st_arr g1 e1, f1⟩
  · exact ⟨st_arr g2 e2, f2⟩
  · exact ⟨st_arr g3 e3, f3⟩
  · exact ⟨st_arr g4 e4, k4, p4, g4, e4, f4, h4⟩
  · exact ⟨st_arr g5 e5, h5⟩
theorem st_words (C0 : lw_At p s m meth c b L xs) : (∀ q ∈ h_nests2, va_Nw (.methodLinkNest q.1 q.2.1 q.2.2.1 q.2.2.2) s) ∧ va_AO "HomBench$Graph" s ∧ h_nw s ∧ h_xs s ∧ h_xz (fun q => s.heap.size ≤ q) s s.heap := by
  obtain ⟨-, -, -, -, -, hts, -, -, -, hgv⟩ := id C0
  have hn := flat_of_before _ hgv
  refine ⟨fun q hq => va_Nw.of rfl (hts _ ((by decide +kernel : ∀ q ∈ h_nests2, Cond.methodLinkNest q.1 q.2.1 q.2.2.1 q.2.2.2 ∈ lw_tbl) q hq)), va_AO.of (hts _ (List.mem_of_getElem? (i := 131) (by decide +kernel) : Cond.arrayOver (.object "HomBench$Graph") ∈ lw_tbl)), fun q hq => va_Nw.of rfl (hts _ ((by decide +kernel : ∀ q ∈ h_nests, Cond.methodLinkNest q.1 q.2.1 q.2.2.1 q.2.2.2 ∈ lw_tbl) q hq)), ⟨fun x hx => va_Nw.of rfl (hts _ ((by decide +kernel : ∀ x ∈ h_decls, Cond.declares x ∈ lw_tbl) x hx)), fun x hx => va_Nw.of rfl (hts _ ((by decide +kernel : ∀ x ∈ h_casts, Cond.castable x x ∈ lw_tbl) x hx)), ?_, ?_⟩, ?_, ?_⟩
  · intro q hq
    refine va_Nc.of (hn (Cond.not (.castable q.1 q.2)) ?_)
    exact (by decide +kernel : ∀ q ∈ h_ncs, Cond.not (.castable q.1 q.2) ∈ _) q hq
  · intro q hq
    have h1 := hts _ ((by decide +kernel : ∀ q ∈ h_strs, Cond.stringRef "HomBench" q.1 q.2 ∈ lw_tbl) q hq)
    obtain ⟨cC, kC, hfc, -⟩ := Cond.instantiable_spec (hts _ (List.mem_of_getElem? (i := 123) (by decide +kernel) : Cond.instantiable "HomBench" 11 ∈ lw_tbl))
    obtain ⟨k, cf, i, a, -, -, -, -, -, h2⟩ := Cond.stringRef_spec hfc h1
    exact ⟨a, vk_R.of h1 h2⟩
  · exact vx_Zqof (hts _ (by decide +kernel)) (hts _ (by decide +kernel)) (hn _ (by decide +kernel)) (fun a h => Nat.not_le.mpr h)
  · exact vx_Zqof (hts _ (by decide +kernel)) (hts _ (by decide +kernel)) (hn _ (by decide +kernel)) (fun a h => Nat.not_le.mpr h)
theorem st_traces {l : Launch} (h : l.flags = flags0) : l.stackTraces = false := by
  unfold Launch.stackTraces
  rw [h]
  decide +kernel
end ST

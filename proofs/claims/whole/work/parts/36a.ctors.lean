/-! the constructors' walks (written by ctorgen.py) -/
theorem sz_or1 {S : Nat → Prop} {g : Nat → Nat} {lo z d : Nat} (h : ∀ e, S e → lo ≤ g e ∧ g e < z) (hd : g d = z) (hl : lo ≤ z) : ∀ e, (S e ∨ e = d) → lo ≤ g e ∧ g e < z + 1 := by
  intro e he
  rcases he with he | rfl
  · exact ⟨(h e he).1, Nat.lt_succ_of_lt (h e he).2⟩
  · rw [hd]; exact ⟨hl, Nat.lt_succ_self z⟩
theorem sz_orb {S B : Nat → Prop} {g : Nat → Nat} {lo z z' : Nat} (h : ∀ e, S e → lo ≤ g e ∧ g e < z) (hb : ∀ e, B e → z ≤ g e ∧ g e < z') (hl : lo ≤ z) (hz : z ≤ z') : ∀ e, (S e ∨ B e) → lo ≤ g e ∧ g e < z' := by
  intro e he
  rcases he with he | he
  · exact ⟨(h e he).1, Nat.lt_of_lt_of_le (h e he).2 hz⟩
  · exact ⟨Nat.le_trans hl (hb e he).1, (hb e he).2⟩
theorem sz_at {G : HGeo} {base bs : Nat} (hG : HGeoAt G base bs) {c P : Nat} (hc : c < 144) (hP : h_perm c = P) : G.2.2 c = base + P := by
  rw [hG c, if_neg (by omega), hP]
theorem sz_blk {G : HGeo} {base bs : Nat} (hG : HGeoAt G base bs) {B : Nat → Prop} {a a' : Nat} (hb : ∀ e, B e → e < 144 ∧ a ≤ h_perm e ∧ h_perm e < a') : ∀ e, B e → base + a ≤ G.2.2 e ∧ G.2.2 e < base + a' := by
  intro e he
  obtain ⟨h1, h2, h3⟩ := hb e he
  rw [sz_at hG h1 rfl]
  omega
theorem sz_mem {blk : List Nat} {q : Nat → Bool} (h : blk.all q = true) : ∀ e, e ∈ blk → q e = true := fun e he => List.all_eq_true.mp h e he
theorem sz_graph : ∀ c, c < 84 → c % 4 = 0 → (∀ j, j < 4 → h_perm (c + j) = h_perm c + j) ∧ h_kd c = 10 ∧ (∀ j, j < 3 → h_kd (c + 1 + j) = 1) ∧ h_len (c + 1) = 8 ∧ h_len (c + 2) = 64 ∧ h_len (c + 3) = 8 ∧ h_fl c = [(0, 0), (2, c + 1), (2, c + 2), (2, c + 3)] := by decide +kernel
theorem vp_cell_ext {cA : ClassId} {N : Nat} {f g : Nat → Option Nat} (h : ∀ j, j < N → f j = g j) : vp_cell cA (N, .inr (.inr (.inr (.inr f)))) = vp_cell cA (N, .inr (.inr (.inr (.inr g)))) := by
  rw [vp_cell_q, vp_cell_q]
  unfold arrV
  congr 2
  funext j
  exact congrArg va_rf (h j.val j.isLt)
section NR4
variable {cx : HCx} {Q : State → Prop} {us : va_W} {S : Nat → Prop} {z k n pc : Nat} {l : List (Nat × Value)} {st : List Value} {own : String} {b : ByteArray} {nL lv mc ms : Nat} {rt : Option FieldType}
/-- the length of the array of graphs under way -/
theorem n_alen (hg : NGood cx own b nL lv mc ms rt) {ua N : Nat} {cA : ClassId} {f : Nat → Option Nat} {x0 : Nat × va_E} (hus : us = [x0, (ua, .inl (cA, N, .inr (.inr (.inr (.inr f)))))]) (hga : match cx with
      | (_, _, _, _, _, _, _, _, _, _, G, _) => cA = G.2.1 4) (hd : decode b pc = .ok (.arraylength, 1)) (kk : NX cx Q us S z k n (pc + 1) l (.int (nI N) :: st)) : NX cx Q us S z k n pc l (.ref ua :: st) := by
  obtain ⟨p, lc, e, Rm, s, m, args, below, meth, c, G, A⟩ := cx
  intro H locs ls hz ho hS hSS hl hC
  have g1 : cA = G.2.1 4 := hga
  subst g1
  refine va_alen hg.1 hg.2.1 hg.2.2.2.2.2.1 ho 1 4 (by rw [hus]; rfl) rfl rfl hd ?_
  exact kk H locs ls hz ho hS hSS hl hC
end NR4
theorem sz_blk2 {G : HGeo} {base bs : Nat} (hG : HGeoAt G base bs) {c P : Nat} (aa : G.2.2 c = base + P) {blk : List Nat} {t t' : Nat} (hb : blk.all (fun e => decide (e < 144 ∧ P + t ≤ h_perm e ∧ h_perm e < P + t')) = true) : ∀ e, e ∈ blk → G.2.2 c + t ≤ G.2.2 e ∧ G.2.2 e < G.2.2 c + t' := by
  intro e he
  obtain ⟨h1, h2, h3⟩ := of_decide_eq_true (sz_mem hb e he)
  rw [sz_at hG h1 rfl, aa]
  omega
theorem so1 {a : Nat} {x : va_E} (t : Nat) : ∀ q ∈ [(a, x)], q.1 < a + (t + 1) := by
  intro q hq
  simp only [List.mem_cons, List.not_mem_nil, or_false] at hq
  subst hq
  show a < a + (t + 1)
  omega
theorem so2 {a : Nat} {x y : va_E} (t : Nat) : ∀ q ∈ [(a, x), (a + 1, y)], q.1 < a + (t + 2) := by
  intro q hq
  simp only [List.mem_cons, List.not_mem_nil, or_false] at hq
  rcases hq with rfl | rfl
  · show a < a + (t + 2)
    omega
  · show a + 1 < a + (t + 2)
    omega
theorem so3 {a : Nat} {y : va_E} : ∀ q ∈ [(a + 1, y)], q.1 ≠ a := by
  intro q hq
  simp only [List.mem_cons, List.not_mem_nil, or_false] at hq
  subst hq
  show a + 1 ≠ a
  omega
theorem k_0 : Cond.methodLink R_Graph 3 Lib.objectInit ∈ h_tb := h_inI 136 (by decide +kernel) rfl
theorem k_1 : Cond.instanceMethod Lib.objectInit ∈ h_tb := h_inI 128 (by decide +kernel) rfl
theorem k_2 : Cond.code Lib.objectInit ⟨#[0xb1]⟩ 1 none ∈ h_tb := h_inI 129 (by decide +kernel) rfl
theorem k_3 : Cond.arrayClass .int ∈ h_tb := h_inI 167 (by decide +kernel) rfl
theorem k_4 : Cond.fieldLink R_Graph 9 (F_Graph 1).1 (F_Graph 1).2.1 (F_Graph 1).2.2.1 ∈ h_tb := h_inI 146 (by decide +kernel) rfl
theorem k_5 : Cond.fieldLink R_Graph 15 (F_Graph 2).1 (F_Graph 2).2.1 (F_Graph 2).2.2.1 ∈ h_tb := h_inI 152 (by decide +kernel) rfl
theorem k_6 : Cond.fieldLink R_Graph 18 (F_Graph 3).1 (F_Graph 3).2.1 (F_Graph 3).2.2.1 ∈ h_tb := h_inI 153 (by decide +kernel) rfl
theorem k_7 : Cond.methodLink R_Text 3 Lib.objectInit ∈ h_tb := h_inI 192 (by decide +kernel) rfl
theorem k_8 : Cond.arrayClass .byte ∈ h_tb := h_inI 206 (by decide +kernel) rfl
theorem k_9 : Cond.fieldLink R_Text 9 (F_Text 0).1 (F_Text 0).2.1 (F_Text 0).2.2.1 ∈ h_tb := h_inI 193 (by decide +kernel) rfl
theorem k_10 : Cond.methodLink R_Script 3 Lib.objectInit ∈ h_tb := h_inI 212 (by decide +kernel) rfl
theorem k_11 : Cond.fieldLink R_Script 9 (F_Script 0).1 (F_Script 0).2.1 (F_Script 0).2.2.1 ∈ h_tb := h_inI 213 (by decide +kernel) rfl
theorem k_12 : Cond.methodLink R_Elimination 3 Lib.objectInit ∈ h_tb := h_inI 227 (by decide +kernel) rfl
theorem k_13 : Cond.fieldLink R_Elimination 9 (F_Elimination 0).1 (F_Elimination 0).2.1 (F_Elimination 0).2.2.1 ∈ h_tb := h_inI 228 (by decide +kernel) rfl
theorem k_14 : Cond.fieldLink R_Elimination 15 (F_Elimination 1).1 (F_Elimination 1).2.1 (F_Elimination 1).2.2.1 ∈ h_tb := h_inI 230 (by decide +kernel) rfl
theorem k_15 : Cond.fieldLink R_Elimination 18 (F_Elimination 4).1 (F_Elimination 4).2.1 (F_Elimination 4).2.2.1 ∈ h_tb := h_inI 236 (by decide +kernel) rfl
theorem k_16 : Cond.fieldLink R_Elimination 21 (F_Elimination 5).1 (F_Elimination 5).2.1 (F_Elimination 5).2.2.1 ∈ h_tb := h_inI 237 (by decide +kernel) rfl
theorem k_17 : Cond.methodLink R_MapSums 3 Lib.objectInit ∈ h_tb := h_inI 256 (by decide +kernel) rfl
theorem k_18 : Cond.fieldLink R_MapSums 9 (F_MapSums 2).1 (F_MapSums 2).2.1 (F_MapSums 2).2.2.1 ∈ h_tb := h_inI 259 (by decide +kernel) rfl
theorem k_19 : Cond.fieldLink R_MapSums 15 (F_MapSums 3).1 (F_MapSums 3).2.1 (F_MapSums 3).2.2.1 ∈ h_tb := h_inI 260 (by decide +kernel) rfl
theorem k_20 : Cond.fieldLink R_MapSums 18 (F_MapSums 4).1 (F_MapSums 4).2.1 (F_MapSums 4).2.2.1 ∈ h_tb := h_inI 261 (by decide +kernel) rfl
theorem k_21 : Cond.fieldLink R_MapSums 21 (F_MapSums 5).1 (F_MapSums 5).2.1 (F_MapSums 5).2.2.1 ∈ h_tb := h_inI 262 (by decide +kernel) rfl
theorem k_22 : Cond.fieldLink R_MapSums 24 (F_MapSums 6).1 (F_MapSums 6).2.1 (F_MapSums 6).2.2.1 ∈ h_tb := h_inI 263 (by decide +kernel) rfl
theorem k_23 : Cond.methodLink R_HomSearch 3 Lib.objectInit ∈ h_tb := h_inI 284 (by decide +kernel) rfl
theorem k_24 : Cond.fieldLink R_HomSearch 9 (F_HomSearch 1).1 (F_HomSearch 1).2.1 (F_HomSearch 1).2.2.1 ∈ h_tb := h_inI 288 (by decide +kernel) rfl
theorem k_25 : Cond.fieldLink R_HomSearch 15 (F_HomSearch 2).1 (F_HomSearch 2).2.1 (F_HomSearch 2).2.2.1 ∈ h_tb := h_inI 289 (by decide +kernel) rfl
theorem k_26 : Cond.fieldLink R_HomSearch 18 (F_HomSearch 3).1 (F_HomSearch 3).2.1 (F_HomSearch 3).2.2.1 ∈ h_tb := h_inI 290 (by decide +kernel) rfl
theorem k_27 : Cond.classLink R_HomSearch 21 "[[I" ∈ h_tb := h_inI 285 (by decide +kernel) rfl
theorem k_28 : Cond.fieldLink R_HomSearch 23 (F_HomSearch 4).1 (F_HomSearch 4).2.1 (F_HomSearch 4).2.2.1 ∈ h_tb := h_inI 291 (by decide +kernel) rfl
theorem k_29 : Cond.methodLink R_Bijections 3 Lib.objectInit ∈ h_tb := h_inI 308 (by decide +kernel) rfl
theorem k_30 : Cond.fieldLink R_Bijections 9 (F_Bijections 0).1 (F_Bijections 0).2.1 (F_Bijections 0).2.2.1 ∈ h_tb := h_inI 309 (by decide +kernel) rfl
theorem k_31 : Cond.fieldLink R_Bijections 15 (F_Bijections 1).1 (F_Bijections 1).2.1 (F_Bijections 1).2.2.1 ∈ h_tb := h_inI 310 (by decide +kernel) rfl
theorem k_32 : Cond.fieldLink R_Bijections 18 (F_Bijections 2).1 (F_Bijections 2).2.1 (F_Bijections 2).2.2.1 ∈ h_tb := h_inI 311 (by decide +kernel) rfl
theorem k_33 : Cond.methodLink R_Walks 3 Lib.objectInit ∈ h_tb := h_inI 324 (by decide +kernel) rfl
theorem k_34 : Cond.arrayClass .long ∈ h_tb := h_inI 332 (by decide +kernel) rfl
theorem k_35 : Cond.fieldLink R_Walks 9 (F_Walks 0).1 (F_Walks 0).2.1 (F_Walks 0).2.2.1 ∈ h_tb := h_inI 325 (by decide +kernel) rfl
theorem k_36 : Cond.fieldLink R_Walks 15 (F_Walks 1).1 (F_Walks 1).2.1 (F_Walks 1).2.2.1 ∈ h_tb := h_inI 326 (by decide +kernel) rfl
theorem k_37 : Cond.methodLink R_History 3 Lib.objectInit ∈ h_tb := h_inI 173 (by decide +kernel) rfl
theorem k_38 : Cond.classLink R_History 9 "HomBench$Graph" ∈ h_tb := h_inI 174 (by decide +kernel) rfl
theorem k_39 : Cond.fieldLink R_History 11 (F_History 0).1 (F_History 0).2.1 (F_History 0).2.2.1 ∈ h_tb := h_inI 176 (by decide +kernel) rfl
theorem k_40 : Cond.instanceMethod ⟨"HomBench$Graph", "<init>", "()V"⟩ ∈ h_tb := h_inI 134 (by decide +kernel) rfl
theorem k_41 : Cond.initialized "HomBench$Graph" ∈ h_tb := h_inI 101 (by decide +kernel) rfl
theorem k_42 : Cond.code ⟨"HomBench$Graph", "<init>", "()V"⟩ prog_4_method_1_code 1 none ∈ h_tb := h_inI 135 (by decide +kernel) rfl
theorem k_43 : Cond.instantiable "HomBench$Graph" 4 ∈ h_tb := h_inI 132 (by decide +kernel) rfl
theorem k_44 : Cond.methodLink R_Bench 1 Lib.objectInit ∈ h_tb := h_inI 127 (by decide +kernel) rfl
theorem k_45 : Cond.classLink R_Bench 9 "HomBench$Graph" ∈ h_tb := h_inI 130 (by decide +kernel) rfl
theorem k_46 : Cond.fieldLink R_Bench 11 (F_Bench 0).1 (F_Bench 0).2.1 (F_Bench 0).2.2.1 ∈ h_tb := h_inI 333 (by decide +kernel) rfl
theorem k_47 : Cond.fieldLink R_Bench 16 (F_Bench 1).1 (F_Bench 1).2.1 (F_Bench 1).2.2.1 ∈ h_tb := h_inI 334 (by decide +kernel) rfl
theorem k_48 : Cond.instanceMethod ⟨"HomBench$History", "<init>", "()V"⟩ ∈ h_tb := h_inI 171 (by decide +kernel) rfl
theorem k_49 : Cond.initialized "HomBench$History" ∈ h_tb := h_inI 102 (by decide +kernel) rfl
theorem k_50 : Cond.code ⟨"HomBench$History", "<init>", "()V"⟩ prog_5_method_1_code 2 none ∈ h_tb := h_inI 172 (by decide +kernel) rfl
theorem k_51 : Cond.classLink R_Bench 20 "HomBench$History" ∈ h_tb := h_inI 168 (by decide +kernel) rfl
theorem k_52 : Cond.instantiable "HomBench$History" 3 ∈ h_tb := h_inI 169 (by decide +kernel) rfl
theorem k_53 : Cond.methodLink R_Bench 22 ⟨"HomBench$History", "<init>", "()V"⟩ ∈ h_tb := h_inI 170 (by decide +kernel) rfl
theorem k_54 : Cond.fieldLink R_Bench 23 (F_Bench 2).1 (F_Bench 2).2.1 (F_Bench 2).2.2.1 ∈ h_tb := h_inI 335 (by decide +kernel) rfl
theorem k_55 : Cond.instanceMethod ⟨"HomBench$Text", "<init>", "()V"⟩ ∈ h_tb := h_inI 190 (by decide +kernel) rfl
theorem k_56 : Cond.initialized "HomBench$Text" ∈ h_tb := h_inI 103 (by decide +kernel) rfl
theorem k_57 : Cond.code ⟨"HomBench$Text", "<init>", "()V"⟩ prog_9_method_1_code 1 none ∈ h_tb := h_inI 191 (by decide +kernel) rfl
theorem k_58 : Cond.classLink R_Bench 27 "HomBench$Text" ∈ h_tb := h_inI 187 (by decide +kernel) rfl
theorem k_59 : Cond.instantiable "HomBench$Text" 3 ∈ h_tb := h_inI 188 (by decide +kernel) rfl
theorem k_60 : Cond.fieldLink R_Bench 30 (F_Bench 3).1 (F_Bench 3).2.1 (F_Bench 3).2.2.1 ∈ h_tb := h_inI 336 (by decide +kernel) rfl
theorem k_61 : Cond.instanceMethod ⟨"HomBench$Script", "<init>", "()V"⟩ ∈ h_tb := h_inI 210 (by decide +kernel) rfl
theorem k_62 : Cond.initialized "HomBench$Script" ∈ h_tb := h_inI 104 (by decide +kernel) rfl
theorem k_63 : Cond.code ⟨"HomBench$Script", "<init>", "()V"⟩ prog_8_method_1_code 1 none ∈ h_tb := h_inI 211 (by decide +kernel) rfl
theorem k_64 : Cond.classLink R_Bench 34 "HomBench$Script" ∈ h_tb := h_inI 207 (by decide +kernel) rfl
theorem k_65 : Cond.instantiable "HomBench$Script" 2 ∈ h_tb := h_inI 208 (by decide +kernel) rfl
theorem k_66 : Cond.fieldLink R_Bench 37 (F_Bench 4).1 (F_Bench 4).2.1 (F_Bench 4).2.2.1 ∈ h_tb := h_inI 337 (by decide +kernel) rfl
theorem k_67 : Cond.instanceMethod ⟨"HomBench$Elimination", "<init>", "()V"⟩ ∈ h_tb := h_inI 225 (by decide +kernel) rfl
theorem k_68 : Cond.initialized "HomBench$Elimination" ∈ h_tb := h_inI 105 (by decide +kernel) rfl
theorem k_69 : Cond.code ⟨"HomBench$Elimination", "<init>", "()V"⟩ prog_3_method_1_code 1 none ∈ h_tb := h_inI 226 (by decide +kernel) rfl
theorem k_70 : Cond.classLink R_Bench 41 "HomBench$Elimination" ∈ h_tb := h_inI 222 (by decide +kernel) rfl
theorem k_71 : Cond.instantiable "HomBench$Elimination" 6 ∈ h_tb := h_inI 223 (by decide +kernel) rfl
theorem k_72 : Cond.fieldLink R_Bench 44 (F_Bench 5).1 (F_Bench 5).2.1 (F_Bench 5).2.2.1 ∈ h_tb := h_inI 338 (by decide +kernel) rfl
theorem k_73 : Cond.instanceMethod ⟨"HomBench$MapSums", "<init>", "()V"⟩ ∈ h_tb := h_inI 254 (by decide +kernel) rfl
theorem k_74 : Cond.initialized "HomBench$MapSums" ∈ h_tb := h_inI 106 (by decide +kernel) rfl
theorem k_75 : Cond.code ⟨"HomBench$MapSums", "<init>", "()V"⟩ prog_7_method_1_code 1 none ∈ h_tb := h_inI 255 (by decide +kernel) rfl
theorem k_76 : Cond.classLink R_Bench 48 "HomBench$MapSums" ∈ h_tb := h_inI 251 (by decide +kernel) rfl
theorem k_77 : Cond.instantiable "HomBench$MapSums" 7 ∈ h_tb := h_inI 252 (by decide +kernel) rfl
theorem k_78 : Cond.fieldLink R_Bench 51 (F_Bench 6).1 (F_Bench 6).2.1 (F_Bench 6).2.2.1 ∈ h_tb := h_inI 339 (by decide +kernel) rfl
theorem k_79 : Cond.instanceMethod ⟨"HomBench$HomSearch", "<init>", "()V"⟩ ∈ h_tb := h_inI 282 (by decide +kernel) rfl
theorem k_80 : Cond.initialized "HomBench$HomSearch" ∈ h_tb := h_inI 107 (by decide +kernel) rfl
theorem k_81 : Cond.code ⟨"HomBench$HomSearch", "<init>", "()V"⟩ prog_6_method_1_code 1 none ∈ h_tb := h_inI 283 (by decide +kernel) rfl
theorem k_82 : Cond.classLink R_Bench 55 "HomBench$HomSearch" ∈ h_tb := h_inI 279 (by decide +kernel) rfl
theorem k_83 : Cond.instantiable "HomBench$HomSearch" 5 ∈ h_tb := h_inI 280 (by decide +kernel) rfl
theorem k_84 : Cond.fieldLink R_Bench 58 (F_Bench 7).1 (F_Bench 7).2.1 (F_Bench 7).2.2.1 ∈ h_tb := h_inI 340 (by decide +kernel) rfl
theorem k_85 : Cond.instanceMethod ⟨"HomBench$Bijections", "<init>", "()V"⟩ ∈ h_tb := h_inI 306 (by decide +kernel) rfl
theorem k_86 : Cond.initialized "HomBench$Bijections" ∈ h_tb := h_inI 108 (by decide +kernel) rfl
theorem k_87 : Cond.code ⟨"HomBench$Bijections", "<init>", "()V"⟩ prog_2_method_1_code 1 none ∈ h_tb := h_inI 307 (by decide +kernel) rfl
theorem k_88 : Cond.classLink R_Bench 62 "HomBench$Bijections" ∈ h_tb := h_inI 303 (by decide +kernel) rfl
theorem k_89 : Cond.instantiable "HomBench$Bijections" 3 ∈ h_tb := h_inI 304 (by decide +kernel) rfl
theorem k_90 : Cond.fieldLink R_Bench 65 (F_Bench 8).1 (F_Bench 8).2.1 (F_Bench 8).2.2.1 ∈ h_tb := h_inI 341 (by decide +kernel) rfl
theorem k_91 : Cond.fieldLink R_Bench 69 (F_Bench 9).1 (F_Bench 9).2.1 (F_Bench 9).2.2.1 ∈ h_tb := h_inI 342 (by decide +kernel) rfl
theorem k_92 : Cond.instanceMethod ⟨"HomBench$Walks", "<init>", "()V"⟩ ∈ h_tb := h_inI 322 (by decide +kernel) rfl
theorem k_93 : Cond.initialized "HomBench$Walks" ∈ h_tb := h_inI 109 (by decide +kernel) rfl
theorem k_94 : Cond.code ⟨"HomBench$Walks", "<init>", "()V"⟩ prog_10_method_1_code 1 none ∈ h_tb := h_inI 323 (by decide +kernel) rfl
theorem k_95 : Cond.classLink R_Bench 73 "HomBench$Walks" ∈ h_tb := h_inI 319 (by decide +kernel) rfl
theorem k_96 : Cond.instantiable "HomBench$Walks" 2 ∈ h_tb := h_inI 320 (by decide +kernel) rfl
theorem k_97 : Cond.fieldLink R_Bench 76 (F_Bench 10).1 (F_Bench 10).2.1 (F_Bench 10).2.2.1 ∈ h_tb := h_inI 343 (by decide +kernel) rfl
theorem k_98 : Cond.methodLink R_Model 1 Lib.objectInit ∈ h_tb := h_inI 1126 (by decide +kernel) rfl
theorem k_99 : Cond.fieldLink R_Model 7 (F_Model 0).1 (F_Model 0).2.1 (F_Model 0).2.2.1 ∈ h_tb := h_inI 1127 (by decide +kernel) rfl
theorem k_100 : Cond.fieldLink R_Model 13 (F_Model 1).1 (F_Model 1).2.1 (F_Model 1).2.2.1 ∈ h_tb := h_inI 1128 (by decide +kernel) rfl
theorem k_101 : Cond.fieldLink R_Model 16 (F_Model 3).1 (F_Model 3).2.1 (F_Model 3).2.2.1 ∈ h_tb := h_inI 1130 (by decide +kernel) rfl
theorem k_102 : Cond.fieldLink R_Model 19 (F_Model 6).1 (F_Model 6).2.1 (F_Model 6).2.2.1 ∈ h_tb := h_inI 1133 (by decide +kernel) rfl
theorem k_103 : Cond.fieldLink R_Model 22 (F_Model 7).1 (F_Model 7).2.1 (F_Model 7).2.2.1 ∈ h_tb := h_inI 1134 (by decide +kernel) rfl
theorem k_104 : Cond.fieldLink R_Model 25 (F_Model 8).1 (F_Model 8).2.1 (F_Model 8).2.2.1 ∈ h_tb := h_inI 1135 (by decide +kernel) rfl
theorem k_105 : Cond.fieldLink R_Model 28 (F_Model 11).1 (F_Model 11).2.1 (F_Model 11).2.2.1 ∈ h_tb := h_inI 1138 (by decide +kernel) rfl
theorem k_106 : Cond.fieldLink R_Model 31 (F_Model 12).1 (F_Model 12).2.1 (F_Model 12).2.2.1 ∈ h_tb := h_inI 1139 (by decide +kernel) rfl
theorem k_107 : Cond.fieldLink R_Model 34 (F_Model 13).1 (F_Model 13).2.1 (F_Model 13).2.2.1 ∈ h_tb := h_inI 1140 (by decide +kernel) rfl
theorem k_108 : Cond.fieldLink R_Model 37 (F_Model 14).1 (F_Model 14).2.1 (F_Model 14).2.2.1 ∈ h_tb := h_inI 1141 (by decide +kernel) rfl
theorem k_109 : Cond.fieldLink R_Model 40 (F_Model 15).1 (F_Model 15).2.1 (F_Model 15).2.2.1 ∈ h_tb := h_inI 1142 (by decide +kernel) rfl
theorem k_110 : Cond.arrayClass .boolean ∈ h_tb := h_inI 1206 (by decide +kernel) rfl
theorem k_111 : Cond.fieldLink R_Model 43 (F_Model 16).1 (F_Model 16).2.1 (F_Model 16).2.2.1 ∈ h_tb := h_inI 1143 (by decide +kernel) rfl
theorem k_112 : Cond.fieldLink R_Model 47 (F_Model 17).1 (F_Model 17).2.1 (F_Model 17).2.2.1 ∈ h_tb := h_inI 1144 (by decide +kernel) rfl
theorem k_113 : Cond.fieldLink R_Model 51 (F_Model 18).1 (F_Model 18).2.1 (F_Model 18).2.2.1 ∈ h_tb := h_inI 1145 (by decide +kernel) rfl
theorem k_114 : Cond.fieldLink R_Model 54 (F_Model 19).1 (F_Model 19).2.1 (F_Model 19).2.2.1 ∈ h_tb := h_inI 1146 (by decide +kernel) rfl
theorem k_115 : Cond.fieldLink R_Model 57 (F_Model 20).1 (F_Model 20).2.1 (F_Model 20).2.2.1 ∈ h_tb := h_inI 1147 (by decide +kernel) rfl
theorem k_116 : Cond.fieldLink R_Model 60 (F_Model 23).1 (F_Model 23).2.1 (F_Model 23).2.2.1 ∈ h_tb := h_inI 1150 (by decide +kernel) rfl
theorem d_Graphinit_0 : decode prog_4_method_1_code 0 = .ok (.aload_n 0, 1) := by decide +kernel
theorem d_Graphinit_1 : decode prog_4_method_1_code 1 = .ok (.invokespecial 3, 3) := by decide +kernel
theorem d_Graphinit_4 : decode prog_4_method_1_code 4 = .ok (.aload_n 0, 1) := by decide +kernel
theorem d_Graphinit_5 : decode prog_4_method_1_code 5 = .ok (.bipush 8, 2) := by decide +kernel
theorem d_Graphinit_7 : decode prog_4_method_1_code 7 = .ok (.newarray .int, 2) := by decide +kernel
theorem d_Graphinit_9 : decode prog_4_method_1_code 9 = .ok (.putfield 9, 3) := by decide +kernel
theorem d_Graphinit_12 : decode prog_4_method_1_code 12 = .ok (.aload_n 0, 1) := by decide +kernel
theorem d_Graphinit_13 : decode prog_4_method_1_code 13 = .ok (.bipush 64, 2) := by decide +kernel
theorem d_Graphinit_15 : decode prog_4_method_1_code 15 = .ok (.newarray .int, 2) := by decide +kernel
theorem d_Graphinit_17 : decode prog_4_method_1_code 17 = .ok (.putfield 15, 3) := by decide +kernel
theorem d_Graphinit_20 : decode prog_4_method_1_code 20 = .ok (.aload_n 0, 1) := by decide +kernel
theorem d_Graphinit_21 : decode prog_4_method_1_code 21 = .ok (.bipush 8, 2) := by decide +kernel
theorem d_Graphinit_23 : decode prog_4_method_1_code 23 = .ok (.newarray .int, 2) := by decide +kernel
theorem d_Graphinit_25 : decode prog_4_method_1_code 25 = .ok (.putfield 18, 3) := by decide +kernel
theorem d_Graphinit_28 : decode prog_4_method_1_code 28 = .ok (.return_, 1) := by decide +kernel
theorem cs_Graph (c : Nat) (hc : c % 4 = 0 ∧ c < 84) : NSpec ⟨"HomBench$Graph", "<init>", "()V"⟩ prog_4_method_1_code 1 1 3 80 c (.inr (0, [.int 0, .null, .null, .null])) [c, c + 1, c + 2, c + 3] := by
  refine NSpec.of (by decide +kernel) rfl (by decide) fun cx base bs hN hg => ?_
  obtain ⟨p, lc, e, Rm, s, m, args, below, meth, c1, G, A⟩ := cx
  obtain ⟨hG, hA, hin, hsz⟩ := id hN
  have hz : ∀ q, G.2.2 c ≤ q → A q := fun q hq => by rw [hA]; exact hq
  have hzz : ∀ t q, G.2.2 c + t ≤ q → A q := fun t q h => hz q (Nat.le_trans (Nat.le_add_right _ _) h)
  have hgr := sz_graph c hc.2 hc.1
  obtain ⟨hc1, hc2⟩ := id hc
  have a1 : G.2.2 (c + 1) = G.2.2 c + 1 := by rw [sz_at hG (c := c + 1) (by omega) (hgr.1 1 (by decide)), sz_at hG (c := c) (by omega) rfl]; omega
  have a2 : G.2.2 (c + 2) = G.2.2 c + 2 := by rw [sz_at hG (c := c + 2) (by omega) (hgr.1 2 (by decide)), sz_at hG (c := c) (by omega) rfl]; omega
  have a3 : G.2.2 (c + 3) = G.2.2 c + 3 := by rw [sz_at hG (c := c + 3) (by omega) (hgr.1 3 (by decide)), sz_at hG (c := c) (by omega) rfl]; omega
  show NX _ _ [(G.2.2 c, _)] (fun _ => False) (G.2.2 c + 1) 0 0 0 [(0, .ref (G.2.2 c))] []
  have hS0 : ∀ e, False → G.2.2 c + 1 ≤ G.2.2 e ∧ G.2.2 e < G.2.2 c + 1 := fun e h => h.elim
  refine n_aload hg 0 d_Graphinit_0 rfl rfl ?_
  refine n_objInit hg k_0 k_1 k_2 d_Graphinit_1 (by decide) (by decide) ?_
  refine n_aload hg 0 d_Graphinit_4 rfl rfl ?_
  refine n_bipush hg (v := 8) d_Graphinit_5 (by decide) ?_
  refine n_newa hg (N := 8) (d := c + 1) (ty := .int) (t0 := 0) (a0 := (8, .inl (fun _ => 0))) (cA := G.2.1 0) ⟨a1, rfl, (by rw [h_cell_1 G h_μ0 (hgr.2.2.1 0 (by decide)), hgr.2.2.2.1]; rfl)⟩ rfl k_3 (fun _ h => h) (fun _ => rfl) (by decide) (by decide) (by decide) ⟨by decide, by decide⟩ d_Graphinit_7 (so1 0) (fun e h => (hS0 e h).2) ?_
  have hS1 := sz_or1 hS0 a1 (show G.2.2 c + 1 ≤ G.2.2 c + 1 from Nat.add_le_add_left (by decide) _)
  refine n_putF hg (ci := 0) (j := 1) (fs := [.int 0, .null, .null, .null]) ⟨rfl, i_Graph⟩ t_Graph_ok n_Graph rfl (by intro q hq; cases hq) (by decide) rfl rfl hin (ty := .array .int) (by decide +kernel) rfl rfl (Nat.le_of_ble_eq_true rfl) k_4 d_Graphinit_9 ⟨hz _ (Nat.le_refl _), fun e h => Nat.ne_of_gt ((hS1 e h).1)⟩ ?_
  refine n_aload hg 0 d_Graphinit_12 rfl rfl ?_
  refine n_bipush hg (v := 64) d_Graphinit_13 (by decide) ?_
  refine n_newa hg (N := 64) (d := c + 2) (ty := .int) (t0 := 0) (a0 := (64, .inl (fun _ => 0))) (cA := G.2.1 0) ⟨a2, rfl, (by rw [h_cell_1 G h_μ0 (hgr.2.2.1 1 (by decide)), hgr.2.2.2.2.1]; rfl)⟩ rfl k_3 (fun _ h => h) (fun _ => rfl) (by decide) (by decide) (by decide) ⟨by decide, by decide⟩ d_Graphinit_15 (so1 1) (fun e h => (hS1 e h).2) ?_
  have hS2 := sz_or1 hS1 a2 (show G.2.2 c + 1 ≤ G.2.2 c + 2 from Nat.add_le_add_left (by decide) _)
  refine n_putF hg (ci := 0) (j := 2) (fs := [.int 0, .ref (G.2.2 c + 1), .null, .null]) ⟨rfl, i_Graph⟩ t_Graph_ok n_Graph rfl (by intro q hq; cases hq) (by decide) rfl rfl hin (ty := .array .int) (by decide +kernel) rfl rfl (Nat.le_of_ble_eq_true rfl) k_5 d_Graphinit_17 ⟨hz _ (Nat.le_refl _), fun e h => Nat.ne_of_gt ((hS2 e h).1)⟩ ?_
  refine n_aload hg 0 d_Graphinit_20 rfl rfl ?_
  refine n_bipush hg (v := 8) d_Graphinit_21 (by decide) ?_
  refine n_newa hg (N := 8) (d := c + 3) (ty := .int) (t0 := 0) (a0 := (8, .inl (fun _ => 0))) (cA := G.2.1 0) ⟨a3, rfl, (by rw [h_cell_1 G h_μ0 (hgr.2.2.1 2 (by decide)), hgr.2.2.2.2.2.1]; rfl)⟩ rfl k_3 (fun _ h => h) (fun _ => rfl) (by decide) (by decide) (by decide) ⟨by decide, by decide⟩ d_Graphinit_23 (so1 2) (fun e h => (hS2 e h).2) ?_
  have hS3 := sz_or1 hS2 a3 (show G.2.2 c + 1 ≤ G.2.2 c + 3 from Nat.add_le_add_left (by decide) _)
  refine n_putF hg (ci := 0) (j := 3) (fs := [.int 0, .ref (G.2.2 c + 1), .ref (G.2.2 c + 2), .null]) ⟨rfl, i_Graph⟩ t_Graph_ok n_Graph rfl (by intro q hq; cases hq) (by decide) rfl rfl hin (ty := .array .int) (by decide +kernel) rfl rfl (Nat.le_of_ble_eq_true rfl) k_6 d_Graphinit_25 ⟨hz _ (Nat.le_refl _), fun e h => Nat.ne_of_gt ((hS3 e h).1)⟩ ?_
  refine n_vret hg hN d_Graphinit_28 rfl rfl rfl ?_
  intro d hd
  rcases List.mem_cons.mp hd with hd | hd
  · right
    rw [hd]
    exact ⟨_, List.mem_cons_self, rfl, fun H h => by
        rw [h_cell_o G h_μ0 (ci := 0) (hgr.2.1)]
        have e1 : (h_fl c).mapIdx (fun k q => h_fv G h_μ0 c k q) = [.int 0, .ref (G.2.2 (c + 1)), .ref (G.2.2 (c + 2)), .ref (G.2.2 (c + 3))] := by rw [hgr.2.2.2.2.2.2]; rfl
        rw [e1, a1, a2, a3]
        exact h⟩
  · left
    simp only [List.mem_cons, List.not_mem_nil, or_false] at hd
    simpa [or_assoc] using hd
theorem d_Textinit_0 : decode prog_9_method_1_code 0 = .ok (.aload_n 0, 1) := by decide +kernel
theorem d_Textinit_1 : decode prog_9_method_1_code 1 = .ok (.invokespecial 3, 3) := by decide +kernel
theorem d_Textinit_4 : decode prog_9_method_1_code 4 = .ok (.aload_n 0, 1) := by decide +kernel
theorem d_Textinit_5 : decode prog_9_method_1_code 5 = .ok (.bipush 120, 2) := by decide +kernel
theorem d_Textinit_7 : decode prog_9_method_1_code 7 = .ok (.newarray .byte, 2) := by decide +kernel
theorem d_Textinit_9 : decode prog_9_method_1_code 9 = .ok (.putfield 9, 3) := by decide +kernel
theorem d_Textinit_12 : decode prog_9_method_1_code 12 = .ok (.return_, 1) := by decide +kernel
theorem o_Text (G : HGeo) : (h_fl 88).mapIdx (fun k q => h_fv G h_μ0 88 k q) = [.ref (G.2.2 (89)), .int 0, .int 0] := by
  rw [show h_fl 88 = [(2, 89), (0, 0), (0, 0)] from by decide +kernel]
  simp only [List.mapIdx_cons, List.mapIdx_nil]
  rfl
def b_Text : List Nat := [88, 89]
theorem m_Text : ∀ d, d ∈ b_Text → d ≠ 88 → (False ∨ d = 89) := by decide +kernel
theorem cs_Text : NSpec ⟨"HomBench$Text", "<init>", "()V"⟩ prog_9_method_1_code 1 1 1 120 88 (.inr (3, [.null, .int 0, .int 0])) b_Text := by
  refine NSpec.of (by decide +kernel) rfl (by decide) fun cx base bs hN hg => ?_
  obtain ⟨p, lc, e, Rm, s, m, args, below, meth, c1, G, A⟩ := cx
  obtain ⟨hG, hA, hin, hsz⟩ := id hN
  have hz : ∀ q, G.2.2 88 ≤ q → A q := fun q hq => by rw [hA]; exact hq
  have hzz : ∀ t q, G.2.2 88 + t ≤ q → A q := fun t q h => hz q (Nat.le_trans (Nat.le_add_right _ _) h)
  have aa : G.2.2 88 = base + 72 := sz_at hG (by decide) (by decide)
  have a89 : G.2.2 89 = G.2.2 88 + 1 := by rw [sz_at hG (c := 89) (P := 73) (by decide) (by decide), aa]
  show NX _ _ [(G.2.2 88, _)] (fun _ => False) (G.2.2 88 + 1) 0 0 0 [(0, .ref (G.2.2 88))] []
  have hS0 : ∀ e, False → G.2.2 88 + 1 ≤ G.2.2 e ∧ G.2.2 e < G.2.2 88 + 1 := fun e h => h.elim
  refine n_aload hg 0 d_Textinit_0 rfl rfl ?_
  refine n_objInit hg k_7 k_1 k_2 d_Textinit_1 (by decide) (by decide) ?_
  refine n_aload hg 0 d_Textinit_4 rfl rfl ?_
  refine n_bipush hg (v := 120) d_Textinit_5 (by decide) ?_
  refine n_newa hg (N := 120) (d := 89) (ty := .byte) (t0 := 1) (a0 := (120, .inl (fun _ => 0))) (cA := G.2.1 1) ⟨a89, rfl, (by rw [h_cell_2 G h_μ0 (c := 89) (by decide)]; rfl)⟩ rfl k_8 (fun _ h => h) (fun _ => rfl) (by decide) (by decide) (by decide) ⟨by decide, by decide⟩ d_Textinit_7 (so1 0) (fun e h => (hS0 e h).2) ?_
  have hS1 := sz_or1 hS0 a89 (show G.2.2 88 + 1 ≤ G.2.2 88 + 1 from Nat.add_le_add_left (by decide) _)
  refine n_putF hg (ci := 3) (j := 0) (fs := [.null, .int 0, .int 0]) ⟨rfl, i_Text⟩ t_Text_ok n_Text rfl (by intro q hq; cases hq) (by decide) rfl rfl hin (ty := .array .byte) (by decide +kernel) rfl rfl (Nat.le_of_ble_eq_true rfl) k_9 d_Textinit_9 ⟨hz _ (Nat.le_refl _), fun e h => Nat.ne_of_gt ((hS1 e h).1)⟩ ?_
  refine n_vret hg hN d_Textinit_12 rfl rfl rfl ?_
  intro d hd
  by_cases h0 : d = 88
  · subst h0
    right
    exact ⟨_, List.mem_cons_self, rfl, fun H h => by
        rw [h_cell_o G h_μ0 (ci := 3) (by decide)]
        have e1 : (h_fl 88).mapIdx (fun k q => h_fv G h_μ0 88 k q) = [.ref (G.2.2 (89)), .int 0, .int 0] := o_Text G
        rw [e1, a89]
        exact h⟩
  left
  exact m_Text d hd h0
theorem d_Scriptinit_0 : decode prog_8_method_1_code 0 = .ok (.aload_n 0, 1) := by decide +kernel
theorem d_Scriptinit_1 : decode prog_8_method_1_code 1 = .ok (.invokespecial 3, 3) := by decide +kernel
theorem d_Scriptinit_4 : decode prog_8_method_1_code 4 = .ok (.aload_n 0, 1) := by decide +kernel
theorem d_Scriptinit_5 : decode prog_8_method_1_code 5 = .ok (.sipush 265, 3) := by decide +kernel
theorem d_Scriptinit_8 : decode prog_8_method_1_code 8 = .ok (.newarray .byte, 2) := by decide +kernel
theorem d_Scriptinit_10 : decode prog_8_method_1_code 10 = .ok (.putfield 9, 3) := by decide +kernel
theorem d_Scriptinit_13 : decode prog_8_method_1_code 13 = .ok (.return_, 1) := by decide +kernel
theorem o_Script (G : HGeo) : (h_fl 90).mapIdx (fun k q => h_fv G h_μ0 90 k q) = [.ref (G.2.2 (91)), .int 0] := by
  rw [show h_fl 90 = [(2, 91), (0, 0)] from by decide +kernel]
  simp only [List.mapIdx_cons, List.mapIdx_nil]
  rfl
def b_Script : List Nat := [90, 91]
theorem m_Script : ∀ d, d ∈ b_Script → d ≠ 90 → (False ∨ d = 91) := by decide +kernel
theorem cs_Script : NSpec ⟨"HomBench$Script", "<init>", "()V"⟩ prog_8_method_1_code 1 1 1 265 90 (.inr (4, [.null, .int 0])) b_Script := by
  refine NSpec.of (by decide +kernel) rfl (by decide) fun cx base bs hN hg => ?_
  obtain ⟨p, lc, e, Rm, s, m, args, below, meth, c1, G, A⟩ := cx
  obtain ⟨hG, hA, hin, hsz⟩ := id hN
  have hz : ∀ q, G.2.2 90 ≤ q → A q := fun q hq => by rw [hA]; exact hq
  have hzz : ∀ t q, G.2.2 90 + t ≤ q → A q := fun t q h => hz q (Nat.le_trans (Nat.le_add_right _ _) h)
  have aa : G.2.2 90 = base + 74 := sz_at hG (by decide) (by decide)
  have a91 : G.2.2 91 = G.2.2 90 + 1 := by rw [sz_at hG (c := 91) (P := 75) (by decide) (by decide), aa]
  show NX _ _ [(G.2.2 90, _)] (fun _ => False) (G.2.2 90 + 1) 0 0 0 [(0, .ref (G.2.2 90))] []
  have hS0 : ∀ e, False → G.2.2 90 + 1 ≤ G.2.2 e ∧ G.2.2 e < G.2.2 90 + 1 := fun e h => h.elim
  refine n_aload hg 0 d_Scriptinit_0 rfl rfl ?_
  refine n_objInit hg k_10 k_1 k_2 d_Scriptinit_1 (by decide) (by decide) ?_
  refine n_aload hg 0 d_Scriptinit_4 rfl rfl ?_
  refine n_sipush hg (v := 265) d_Scriptinit_5 (by decide) ?_
  refine n_newa hg (N := 265) (d := 91) (ty := .byte) (t0 := 1) (a0 := (265, .inl (fun _ => 0))) (cA := G.2.1 1) ⟨a91, rfl, (by rw [h_cell_2 G h_μ0 (c := 91) (by decide)]; rfl)⟩ rfl k_8 (fun _ h => h) (fun _ => rfl) (by decide) (by decide) (by decide) ⟨by decide, by decide⟩ d_Scriptinit_8 (so1 0) (fun e h => (hS0 e h).2) ?_
  have hS1 := sz_or1 hS0 a91 (show G.2.2 90 + 1 ≤ G.2.2 90 + 1 from Nat.add_le_add_left (by decide) _)
  refine n_putF hg (ci := 4) (j := 0) (fs := [.null, .int 0]) ⟨rfl, i_Script⟩ t_Script_ok n_Script rfl (by intro q hq; cases hq) (by decide) rfl rfl hin (ty := .array .byte) (by decide +kernel) rfl rfl (Nat.le_of_ble_eq_true rfl) k_11 d_Scriptinit_10 ⟨hz _ (Nat.le_refl _), fun e h => Nat.ne_of_gt ((hS1 e h).1)⟩ ?_
  refine n_vret hg hN d_Scriptinit_13 rfl rfl rfl ?_
  intro d hd
  by_cases h0 : d = 90
  · subst h0
    right
    exact ⟨_, List.mem_cons_self, rfl, fun H h => by
        rw [h_cell_o G h_μ0 (ci := 4) (by decide)]
        have e1 : (h_fl 90).mapIdx (fun k q => h_fv G h_μ0 90 k q) = [.ref (G.2.2 (91)), .int 0] := o_Script G
        rw [e1, a91]
        exact h⟩
  left
  exact m_Script d hd h0
theorem d_Eliminationinit_0 : decode prog_3_method_1_code 0 = .ok (.aload_n 0, 1) := by decide +kernel
theorem d_Eliminationinit_1 : decode prog_3_method_1_code 1 = .ok (.invokespecial 3, 3) := by decide +kernel
theorem d_Eliminationinit_4 : decode prog_3_method_1_code 4 = .ok (.aload_n 0, 1) := by decide +kernel
theorem d_Eliminationinit_5 : decode prog_3_method_1_code 5 = .ok (.bipush 8, 2) := by decide +kernel
theorem d_Eliminationinit_7 : decode prog_3_method_1_code 7 = .ok (.newarray .int, 2) := by decide +kernel
theorem d_Eliminationinit_9 : decode prog_3_method_1_code 9 = .ok (.putfield 9, 3) := by decide +kernel
theorem d_Eliminationinit_12 : decode prog_3_method_1_code 12 = .ok (.aload_n 0, 1) := by decide +kernel
theorem d_Eliminationinit_13 : decode prog_3_method_1_code 13 = .ok (.bipush 8, 2) := by decide +kernel
theorem d_Eliminationinit_15 : decode prog_3_method_1_code 15 = .ok (.newarray .int, 2) := by decide +kernel
theorem d_Eliminationinit_17 : decode prog_3_method_1_code 17 = .ok (.putfield 15, 3) := by decide +kernel
theorem d_Eliminationinit_20 : decode prog_3_method_1_code 20 = .ok (.aload_n 0, 1) := by decide +kernel
theorem d_Eliminationinit_21 : decode prog_3_method_1_code 21 = .ok (.bipush 8, 2) := by decide +kernel
theorem d_Eliminationinit_23 : decode prog_3_method_1_code 23 = .ok (.newarray .int, 2) := by decide +kernel
theorem d_Eliminationinit_25 : decode prog_3_method_1_code 25 = .ok (.putfield 18, 3) := by decide +kernel
theorem d_Eliminationinit_28 : decode prog_3_method_1_code 28 = .ok (.aload_n 0, 1) := by decide +kernel
theorem d_Eliminationinit_29 : decode prog_3_method_1_code 29 = .ok (.sipush 256, 3) := by decide +kernel
theorem d_Eliminationinit_32 : decode prog_3_method_1_code 32 = .ok (.newarray .int, 2) := by decide +kernel
theorem d_Eliminationinit_34 : decode prog_3_method_1_code 34 = .ok (.putfield 21, 3) := by decide +kernel
theorem d_Eliminationinit_37 : decode prog_3_method_1_code 37 = .ok (.return_, 1) := by decide +kernel
theorem o_Elimination (G : HGeo) : (h_fl 92).mapIdx (fun k q => h_fv G h_μ0 92 k q) = [.ref (G.2.2 (93)), .ref (G.2.2 (94)), .int 0, .int 0, .ref (G.2.2 (95)), .ref (G.2.2 (96))] := by
  rw [show h_fl 92 = [(2, 93), (2, 94), (0, 0), (0, 0), (2, 95), (2, 96)] from by decide +kernel]
  simp only [List.mapIdx_cons, List.mapIdx_nil]
  rfl
def b_Elimination : List Nat := [92, 93, 94, 95, 96]
theorem m_Elimination : ∀ d, d ∈ b_Elimination → d ≠ 92 → ((((False ∨ d = 93) ∨ d = 94) ∨ d = 95) ∨ d = 96) := by decide +kernel
theorem cs_Elimination : NSpec ⟨"HomBench$Elimination", "<init>", "()V"⟩ prog_3_method_1_code 1 1 4 280 92 (.inr (5, [.null, .null, .int 0, .int 0, .null, .null])) b_Elimination := by
  refine NSpec.of (by decide +kernel) rfl (by decide) fun cx base bs hN hg => ?_
  obtain ⟨p, lc, e, Rm, s, m, args, below, meth, c1, G, A⟩ := cx
  obtain ⟨hG, hA, hin, hsz⟩ := id hN
  have hz : ∀ q, G.2.2 92 ≤ q → A q := fun q hq => by rw [hA]; exact hq
  have hzz : ∀ t q, G.2.2 92 + t ≤ q → A q := fun t q h => hz q (Nat.le_trans (Nat.le_add_right _ _) h)
  have aa : G.2.2 92 = base + 76 := sz_at hG (by decide) (by decide)
  have a93 : G.2.2 93 = G.2.2 92 + 1 := by rw [sz_at hG (c := 93) (P := 77) (by decide) (by decide), aa]
  have a94 : G.2.2 94 = G.2.2 92 + 2 := by rw [sz_at hG (c := 94) (P := 78) (by decide) (by decide), aa]
  have a95 : G.2.2 95 = G.2.2 92 + 3 := by rw [sz_at hG (c := 95) (P := 79) (by decide) (by decide), aa]
  have a96 : G.2.2 96 = G.2.2 92 + 4 := by rw [sz_at hG (c := 96) (P := 80) (by decide) (by decide), aa]
  show NX _ _ [(G.2.2 92, _)] (fun _ => False) (G.2.2 92 + 1) 0 0 0 [(0, .ref (G.2.2 92))] []
  have hS0 : ∀ e, False → G.2.2 92 + 1 ≤ G.2.2 e ∧ G.2.2 e < G.2.2 92 + 1 := fun e h => h.elim
  refine n_aload hg 0 d_Eliminationinit_0 rfl rfl ?_
  refine n_objInit hg k_12 k_1 k_2 d_Eliminationinit_1 (by decide) (by decide) ?_
  refine n_aload hg 0 d_Eliminationinit_4 rfl rfl ?_
  refine n_bipush hg (v := 8) d_Eliminationinit_5 (by decide) ?_
  refine n_newa hg (N := 8) (d := 93) (ty := .int) (t0 := 0) (a0 := (8, .inl (fun _ => 0))) (cA := G.2.1 0) ⟨a93, rfl, (by rw [h_cell_1 G h_μ0 (c := 93) (by decide)]; rfl)⟩ rfl k_3 (fun _ h => h) (fun _ => rfl) (by decide) (by decide) (by decide) ⟨by decide, by decide⟩ d_Eliminationinit_7 (so1 0) (fun e h => (hS0 e h).2) ?_
  have hS1 := sz_or1 hS0 a93 (show G.2.2 92 + 1 ≤ G.2.2 92 + 1 from Nat.add_le_add_left (by decide) _)
  refine n_putF hg (ci := 5) (j := 0) (fs := [.null, .null, .int 0, .int 0, .null, .null]) ⟨rfl, i_Elimination⟩ t_Elimination_ok n_Elimination rfl (by intro q hq; cases hq) (by decide) rfl rfl hin (ty := .array .int) (by decide +kernel) rfl rfl (Nat.le_of_ble_eq_true rfl) k_13 d_Eliminationinit_9 ⟨hz _ (Nat.le_refl _), fun e h => Nat.ne_of_gt ((hS1 e h).1)⟩ ?_
  refine n_aload hg 0 d_Eliminationinit_12 rfl rfl ?_
  refine n_bipush hg (v := 8) d_Eliminationinit_13 (by decide) ?_
  refine n_newa hg (N := 8) (d := 94) (ty := .int) (t0 := 0) (a0 := (8, .inl (fun _ => 0))) (cA := G.2.1 0) ⟨a94, rfl, (by rw [h_cell_1 G h_μ0 (c := 94) (by decide)]; rfl)⟩ rfl k_3 (fun _ h => h) (fun _ => rfl) (by decide) (by decide) (by decide) ⟨by decide, by decide⟩ d_Eliminationinit_15 (so1 1) (fun e h => (hS1 e h).2) ?_
  have hS2 := sz_or1 hS1 a94 (show G.2.2 92 + 1 ≤ G.2.2 92 + 2 from Nat.add_le_add_left (by decide) _)
  refine n_putF hg (ci := 5) (j := 1) (fs := [.ref (G.2.2 92 + 1), .null, .int 0, .int 0, .null, .null]) ⟨rfl, i_Elimination⟩ t_Elimination_ok n_Elimination rfl (by intro q hq; cases hq) (by decide) rfl rfl hin (ty := .array .int) (by decide +kernel) rfl rfl (Nat.le_of_ble_eq_true rfl) k_14 d_Eliminationinit_17 ⟨hz _ (Nat.le_refl _), fun e h => Nat.ne_of_gt ((hS2 e h).1)⟩ ?_
  refine n_aload hg 0 d_Eliminationinit_20 rfl rfl ?_
  refine n_bipush hg (v := 8) d_Eliminationinit_21 (by decide) ?_
  refine n_newa hg (N := 8) (d := 95) (ty := .int) (t0 := 0) (a0 := (8, .inl (fun _ => 0))) (cA := G.2.1 0) ⟨a95, rfl, (by rw [h_cell_1 G h_μ0 (c := 95) (by decide)]; rfl)⟩ rfl k_3 (fun _ h => h) (fun _ => rfl) (by decide) (by decide) (by decide) ⟨by decide, by decide⟩ d_Eliminationinit_23 (so1 2) (fun e h => (hS2 e h).2) ?_
  have hS3 := sz_or1 hS2 a95 (show G.2.2 92 + 1 ≤ G.2.2 92 + 3 from Nat.add_le_add_left (by decide) _)
  refine n_putF hg (ci := 5) (j := 4) (fs := [.ref (G.2.2 92 + 1), .ref (G.2.2 92 + 2), .int 0, .int 0, .null, .null]) ⟨rfl, i_Elimination⟩ t_Elimination_ok n_Elimination rfl (by intro q hq; cases hq) (by decide) rfl rfl hin (ty := .array .int) (by decide +kernel) rfl rfl (Nat.le_of_ble_eq_true rfl) k_15 d_Eliminationinit_25 ⟨hz _ (Nat.le_refl _), fun e h => Nat.ne_of_gt ((hS3 e h).1)⟩ ?_
  refine n_aload hg 0 d_Eliminationinit_28 rfl rfl ?_
  refine n_sipush hg (v := 256) d_Eliminationinit_29 (by decide) ?_
  refine n_newa hg (N := 256) (d := 96) (ty := .int) (t0 := 0) (a0 := (256, .inl (fun _ => 0))) (cA := G.2.1 0) ⟨a96, rfl, (by rw [h_cell_1 G h_μ0 (c := 96) (by decide)]; rfl)⟩ rfl k_3 (fun _ h => h) (fun _ => rfl) (by decide) (by decide) (by decide) ⟨by decide, by decide⟩ d_Eliminationinit_32 (so1 3) (fun e h => (hS3 e h).2) ?_
  have hS4 := sz_or1 hS3 a96 (show G.2.2 92 + 1 ≤ G.2.2 92 + 4 from Nat.add_le_add_left (by decide) _)
  refine n_putF hg (ci := 5) (j := 5) (fs := [.ref (G.2.2 92 + 1), .ref (G.2.2 92 + 2), .int 0, .int 0, .ref (G.2.2 92 + 3), .null]) ⟨rfl, i_Elimination⟩ t_Elimination_ok n_Elimination rfl (by intro q hq; cases hq) (by decide) rfl rfl hin (ty := .array .int) (by decide +kernel) rfl rfl (Nat.le_of_ble_eq_true rfl) k_16 d_Eliminationinit_34 ⟨hz _ (Nat.le_refl _), fun e h => Nat.ne_of_gt ((hS4 e h).1)⟩ ?_
  refine n_vret hg hN d_Eliminationinit_37 rfl rfl rfl ?_
  intro d hd
  by_cases h0 : d = 92
  · subst h0
    right
    exact ⟨_, List.mem_cons_self, rfl, fun H h => by
        rw [h_cell_o G h_μ0 (ci := 5) (by decide)]
        have e1 : (h_fl 92).mapIdx (fun k q => h_fv G h_μ0 92 k q) = [.ref (G.2.2 (93)), .ref (G.2.2 (94)), .int 0, .int 0, .ref (G.2.2 (95)), .ref (G.2.2 (96))] := o_Elimination G
        rw [e1, a93, a94, a95, a96]
        exact h⟩
  left
  exact m_Elimination d hd h0
theorem d_MapSumsinit_0 : decode prog_7_method_1_code 0 = .ok (.aload_n 0, 1) := by decide +kernel
theorem d_MapSumsinit_1 : decode prog_7_method_1_code 1 = .ok (.invokespecial 3, 3) := by decide +kernel
theorem d_MapSumsinit_4 : decode prog_7_method_1_code 4 = .ok (.aload_n 0, 1) := by decide +kernel
theorem d_MapSumsinit_5 : decode prog_7_method_1_code 5 = .ok (.bipush 8, 2) := by decide +kernel
theorem d_MapSumsinit_7 : decode prog_7_method_1_code 7 = .ok (.newarray .int, 2) := by decide +kernel
theorem d_MapSumsinit_9 : decode prog_7_method_1_code 9 = .ok (.putfield 9, 3) := by decide +kernel
theorem d_MapSumsinit_12 : decode prog_7_method_1_code 12 = .ok (.aload_n 0, 1) := by decide +kernel
theorem d_MapSumsinit_13 : decode prog_7_method_1_code 13 = .ok (.bipush 64, 2) := by decide +kernel
theorem d_MapSumsinit_15 : decode prog_7_method_1_code 15 = .ok (.newarray .int, 2) := by decide +kernel
theorem d_MapSumsinit_17 : decode prog_7_method_1_code 17 = .ok (.putfield 15, 3) := by decide +kernel
theorem d_MapSumsinit_20 : decode prog_7_method_1_code 20 = .ok (.aload_n 0, 1) := by decide +kernel
theorem d_MapSumsinit_21 : decode prog_7_method_1_code 21 = .ok (.bipush 8, 2) := by decide +kernel
theorem d_MapSumsinit_23 : decode prog_7_method_1_code 23 = .ok (.newarray .int, 2) := by decide +kernel
theorem d_MapSumsinit_25 : decode prog_7_method_1_code 25 = .ok (.putfield 18, 3) := by decide +kernel
theorem d_MapSumsinit_28 : decode prog_7_method_1_code 28 = .ok (.aload_n 0, 1) := by decide +kernel
theorem d_MapSumsinit_29 : decode prog_7_method_1_code 29 = .ok (.bipush 8, 2) := by decide +kernel
theorem d_MapSumsinit_31 : decode prog_7_method_1_code 31 = .ok (.newarray .int, 2) := by decide +kernel
theorem d_MapSumsinit_33 : decode prog_7_method_1_code 33 = .ok (.putfield 21, 3) := by decide +kernel
theorem d_MapSumsinit_36 : decode prog_7_method_1_code 36 = .ok (.aload_n 0, 1) := by decide +kernel
theorem d_MapSumsinit_37 : decode prog_7_method_1_code 37 = .ok (.bipush 8, 2) := by decide +kernel
theorem d_MapSumsinit_39 : decode prog_7_method_1_code 39 = .ok (.newarray .int, 2) := by decide +kernel
theorem d_MapSumsinit_41 : decode prog_7_method_1_code 41 = .ok (.putfield 24, 3) := by decide +kernel
theorem d_MapSumsinit_44 : decode prog_7_method_1_code 44 = .ok (.return_, 1) := by decide +kernel
theorem o_MapSums (G : HGeo) : (h_fl 97).mapIdx (fun k q => h_fv G h_μ0 97 k q) = [.int 0, .int 0, .ref (G.2.2 (98)), .ref (G.2.2 (99)), .ref (G.2.2 (100)), .ref (G.2.2 (101)), .ref (G.2.2 (102))] := by
  rw [show h_fl 97 = [(0, 0), (0, 0), (2, 98), (2, 99), (2, 100), (2, 101), (2, 102)] from by decide +kernel]
  simp only [List.mapIdx_cons, List.mapIdx_nil]
  rfl
def b_MapSums : List Nat := [97, 98, 99, 100, 101, 102]
theorem m_MapSums : ∀ d, d ∈ b_MapSums → d ≠ 97 → (((((False ∨ d = 98) ∨ d = 99) ∨ d = 100) ∨ d = 101) ∨ d = 102) := by decide +kernel
theorem cs_MapSums : NSpec ⟨"HomBench$MapSums", "<init>", "()V"⟩ prog_7_method_1_code 1 1 5 96 97 (.inr (6, [.int 0, .int 0, .null, .null, .null, .null, .null])) b_MapSums := by
  refine NSpec.of (by decide +kernel) rfl (by decide) fun cx base bs hN hg => ?_
  obtain ⟨p, lc, e, Rm, s, m, args, below, meth, c1, G, A⟩ := cx
  obtain ⟨hG, hA, hin, hsz⟩ := id hN
  have hz : ∀ q, G.2.2 97 ≤ q → A q := fun q hq => by rw [hA]; exact hq
  have hzz : ∀ t q, G.2.2 97 + t ≤ q → A q := fun t q h => hz q (Nat.le_trans (Nat.le_add_right _ _) h)
  have aa : G.2.2 97 = base + 81 := sz_at hG (by decide) (by decide)
  have a98 : G.2.2 98 = G.2.2 97 + 1 := by rw [sz_at hG (c := 98) (P := 82) (by decide) (by decide), aa]
  have a99 : G.2.2 99 = G.2.2 97 + 2 := by rw [sz_at hG (c := 99) (P := 83) (by decide) (by decide), aa]
  have a100 : G.2.2 100 = G.2.2 97 + 3 := by rw [sz_at hG (c := 100) (P := 84) (by decide) (by decide), aa]
  have a101 : G.2.2 101 = G.2.2 97 + 4 := by rw [sz_at hG (c := 101) (P := 85) (by decide) (by decide), aa]
  have a102 : G.2.2 102 = G.2.2 97 + 5 := by rw [sz_at hG (c := 102) (P := 86) (by decide) (by decide), aa]
  show NX _ _ [(G.2.2 97, _)] (fun _ => False) (G.2.2 97 + 1) 0 0 0 [(0, .ref (G.2.2 97))] []
  have hS0 : ∀ e, False → G.2.2 97 + 1 ≤ G.2.2 e ∧ G.2.2 e < G.2.2 97 + 1 := fun e h => h.elim
  refine n_aload hg 0 d_MapSumsinit_0 rfl rfl ?_
  refine n_objInit hg k_17 k_1 k_2 d_MapSumsinit_1 (by decide) (by decide) ?_
  refine n_aload hg 0 d_MapSumsinit_4 rfl rfl ?_
  refine n_bipush hg (v := 8) d_MapSumsinit_5 (by decide) ?_
  refine n_newa hg (N := 8) (d := 98) (ty := .int) (t0 := 0) (a0 := (8, .inl (fun _ => 0))) (cA := G.2.1 0) ⟨a98, rfl, (by rw [h_cell_1 G h_μ0 (c := 98) (by decide)]; rfl)⟩ rfl k_3 (fun _ h => h) (fun _ => rfl) (by decide) (by decide) (by decide) ⟨by decide, by decide⟩ d_MapSumsinit_7 (so1 0) (fun e h => (hS0 e h).2) ?_
  have hS1 := sz_or1 hS0 a98 (show G.2.2 97 + 1 ≤ G.2.2 97 + 1 from Nat.add_le_add_left (by decide) _)
  refine n_putF hg (ci := 6) (j := 2) (fs := [.int 0, .int 0, .null, .null, .null, .null, .null]) ⟨rfl, i_MapSums⟩ t_MapSums_ok n_MapSums rfl (by intro q hq; cases hq) (by decide) rfl rfl hin (ty := .array .int) (by decide +kernel) rfl rfl (Nat.le_of_ble_eq_true rfl) k_18 d_MapSumsinit_9 ⟨hz _ (Nat.le_refl _), fun e h => Nat.ne_of_gt ((hS1 e h).1)⟩ ?_
  refine n_aload hg 0 d_MapSumsinit_12 rfl rfl ?_
  refine n_bipush hg (v := 64) d_MapSumsinit_13 (by decide) ?_
  refine n_newa hg (N := 64) (d := 99) (ty := .int) (t0 := 0) (a0 := (64, .inl (fun _ => 0))) (cA := G.2.1 0) ⟨a99, rfl, (by rw [h_cell_1 G h_μ0 (c := 99) (by decide)]; rfl)⟩ rfl k_3 (fun _ h => h) (fun _ => rfl) (by decide) (by decide) (by decide) ⟨by decide, by decide⟩ d_MapSumsinit_15 (so1 1) (fun e h => (hS1 e h).2) ?_
  have hS2 := sz_or1 hS1 a99 (show G.2.2 97 + 1 ≤ G.2.2 97 + 2 from Nat.add_le_add_left (by decide) _)
  refine n_putF hg (ci := 6) (j := 3) (fs := [.int 0, .int 0, .ref (G.2.2 97 + 1), .null, .null, .null, .null]) ⟨rfl, i_MapSums⟩ t_MapSums_ok n_MapSums rfl (by intro q hq; cases hq) (by decide) rfl rfl hin (ty := .array .int) (by decide +kernel) rfl rfl (Nat.le_of_ble_eq_true rfl) k_19 d_MapSumsinit_17 ⟨hz _ (Nat.le_refl _), fun e h => Nat.ne_of_gt ((hS2 e h).1)⟩ ?_
  refine n_aload hg 0 d_MapSumsinit_20 rfl rfl ?_
  refine n_bipush hg (v := 8) d_MapSumsinit_21 (by decide) ?_
  refine n_newa hg (N := 8) (d := 100) (ty := .int) (t0 := 0) (a0 := (8, .inl (fun _ => 0))) (cA := G.2.1 0) ⟨a100, rfl, (by rw [h_cell_1 G h_μ0 (c := 100) (by decide)]; rfl)⟩ rfl k_3 (fun _ h => h) (fun _ => rfl) (by decide) (by decide) (by decide) ⟨by decide, by decide⟩ d_MapSumsinit_23 (so1 2) (fun e h => (hS2 e h).2) ?_
  have hS3 := sz_or1 hS2 a100 (show G.2.2 97 + 1 ≤ G.2.2 97 + 3 from Nat.add_le_add_left (by decide) _)
  refine n_putF hg (ci := 6) (j := 4) (fs := [.int 0, .int 0, .ref (G.2.2 97 + 1), .ref (G.2.2 97 + 2), .null, .null, .null]) ⟨rfl, i_MapSums⟩ t_MapSums_ok n_MapSums rfl (by intro q hq; cases hq) (by decide) rfl rfl hin (ty := .array .int) (by decide +kernel) rfl rfl (Nat.le_of_ble_eq_true rfl) k_20 d_MapSumsinit_25 ⟨hz _ (Nat.le_refl _), fun e h => Nat.ne_of_gt ((hS3 e h).1)⟩ ?_
  refine n_aload hg 0 d_MapSumsinit_28 rfl rfl ?_
  refine n_bipush hg (v := 8) d_MapSumsinit_29 (by decide) ?_
  refine n_newa hg (N := 8) (d := 101) (ty := .int) (t0 := 0) (a0 := (8, .inl (fun _ => 0))) (cA := G.2.1 0) ⟨a101, rfl, (by rw [h_cell_1 G h_μ0 (c := 101) (by decide)]; rfl)⟩ rfl k_3 (fun _ h => h) (fun _ => rfl) (by decide) (by decide) (by decide) ⟨by decide, by decide⟩ d_MapSumsinit_31 (so1 3) (fun e h => (hS3 e h).2) ?_
  have hS4 := sz_or1 hS3 a101 (show G.2.2 97 + 1 ≤ G.2.2 97 + 4 from Nat.add_le_add_left (by decide) _)
  refine n_putF hg (ci := 6) (j := 5) (fs := [.int 0, .int 0, .ref (G.2.2 97 + 1), .ref (G.2.2 97 + 2), .ref (G.2.2 97 + 3), .null, .null]) ⟨rfl, i_MapSums⟩ t_MapSums_ok n_MapSums rfl (by intro q hq; cases hq) (by decide) rfl rfl hin (ty := .array .int) (by decide +kernel) rfl rfl (Nat.le_of_ble_eq_true rfl) k_21 d_MapSumsinit_33 ⟨hz _ (Nat.le_refl _), fun e h => Nat.ne_of_gt ((hS4 e h).1)⟩ ?_
  refine n_aload hg 0 d_MapSumsinit_36 rfl rfl ?_
  refine n_bipush hg (v := 8) d_MapSumsinit_37 (by decide) ?_
  refine n_newa hg (N := 8) (d := 102) (ty := .int) (t0 := 0) (a0 := (8, .inl (fun _ => 0))) (cA := G.2.1 0) ⟨a102, rfl, (by rw [h_cell_1 G h_μ0 (c := 102) (by decide)]; rfl)⟩ rfl k_3 (fun _ h => h) (fun _ => rfl) (by decide) (by decide) (by decide) ⟨by decide, by decide⟩ d_MapSumsinit_39 (so1 4) (fun e h => (hS4 e h).2) ?_
  have hS5 := sz_or1 hS4 a102 (show G.2.2 97 + 1 ≤ G.2.2 97 + 5 from Nat.add_le_add_left (by decide) _)
  refine n_putF hg (ci := 6) (j := 6) (fs := [.int 0, .int 0, .ref (G.2.2 97 + 1), .ref (G.2.2 97 + 2), .ref (G.2.2 97 + 3), .ref (G.2.2 97 + 4), .null]) ⟨rfl, i_MapSums⟩ t_MapSums_ok n_MapSums rfl (by intro q hq; cases hq) (by decide) rfl rfl hin (ty := .array .int) (by decide +kernel) rfl rfl (Nat.le_of_ble_eq_true rfl) k_22 d_MapSumsinit_41 ⟨hz _ (Nat.le_refl _), fun e h => Nat.ne_of_gt ((hS5 e h).1)⟩ ?_
  refine n_vret hg hN d_MapSumsinit_44 rfl rfl rfl ?_
  intro d hd
  by_cases h0 : d = 97
  · subst h0
    right
    exact ⟨_, List.mem_cons_self, rfl, fun H h => by
        rw [h_cell_o G h_μ0 (ci := 6) (by decide)]
        have e1 : (h_fl 97).mapIdx (fun k q => h_fv G h_μ0 97 k q) = [.int 0, .int 0, .ref (G.2.2 (98)), .ref (G.2.2 (99)), .ref (G.2.2 (100)), .ref (G.2.2 (101)), .ref (G.2.2 (102))] := o_MapSums G
        rw [e1, a98, a99, a100, a101, a102]
        exact h⟩
  left
  exact m_MapSums d hd h0
theorem d_HomSearchinit_0 : decode prog_6_method_1_code 0 = .ok (.aload_n 0, 1) := by decide +kernel
theorem d_HomSearchinit_1 : decode prog_6_method_1_code 1 = .ok (.invokespecial 3, 3) := by decide +kernel
theorem d_HomSearchinit_4 : decode prog_6_method_1_code 4 = .ok (.aload_n 0, 1) := by decide +kernel
theorem d_HomSearchinit_5 : decode prog_6_method_1_code 5 = .ok (.bipush 8, 2) := by decide +kernel
theorem d_HomSearchinit_7 : decode prog_6_method_1_code 7 = .ok (.newarray .int, 2) := by decide +kernel
theorem d_HomSearchinit_9 : decode prog_6_method_1_code 9 = .ok (.putfield 9, 3) := by decide +kernel
theorem d_HomSearchinit_12 : decode prog_6_method_1_code 12 = .ok (.aload_n 0, 1) := by decide +kernel
theorem d_HomSearchinit_13 : decode prog_6_method_1_code 13 = .ok (.bipush 8, 2) := by decide +kernel
theorem d_HomSearchinit_15 : decode prog_6_method_1_code 15 = .ok (.newarray .int, 2) := by decide +kernel
theorem d_HomSearchinit_17 : decode prog_6_method_1_code 17 = .ok (.putfield 15, 3) := by decide +kernel
theorem d_HomSearchinit_20 : decode prog_6_method_1_code 20 = .ok (.aload_n 0, 1) := by decide +kernel
theorem d_HomSearchinit_21 : decode prog_6_method_1_code 21 = .ok (.bipush 8, 2) := by decide +kernel
theorem d_HomSearchinit_23 : decode prog_6_method_1_code 23 = .ok (.newarray .int, 2) := by decide +kernel
theorem d_HomSearchinit_25 : decode prog_6_method_1_code 25 = .ok (.putfield 18, 3) := by decide +kernel
theorem d_HomSearchinit_28 : decode prog_6_method_1_code 28 = .ok (.aload_n 0, 1) := by decide +kernel
theorem d_HomSearchinit_29 : decode prog_6_method_1_code 29 = .ok (.bipush 9, 2) := by decide +kernel
theorem d_HomSearchinit_31 : decode prog_6_method_1_code 31 = .ok (.bipush 8, 2) := by decide +kernel
theorem d_HomSearchinit_33 : decode prog_6_method_1_code 33 = .ok (.multianewarray 21 2, 4) := by decide +kernel
theorem d_HomSearchinit_37 : decode prog_6_method_1_code 37 = .ok (.putfield 23, 3) := by decide +kernel
theorem d_HomSearchinit_40 : decode prog_6_method_1_code 40 = .ok (.return_, 1) := by decide +kernel
theorem o_HomSearch (G : HGeo) : (h_fl 103).mapIdx (fun k q => h_fv G h_μ0 103 k q) = [.int 0, .ref (G.2.2 (104)), .ref (G.2.2 (105)), .ref (G.2.2 (106)), .ref (G.2.2 (107))] := by
  rw [show h_fl 103 = [(0, 0), (2, 104), (2, 105), (2, 106), (2, 107)] from by decide +kernel]
  simp only [List.mapIdx_cons, List.mapIdx_nil]
  rfl
def b_HomSearch : List Nat := [103, 104, 105, 106, 107, 108, 109, 110, 111, 112, 113, 114, 115, 116]
theorem m_HomSearch : ∀ d, d ∈ b_HomSearch → d ≠ 103 → ((((False ∨ d = 104) ∨ d = 105) ∨ d = 106) ∨ 107 ≤ d ∧ d ≤ 116) := by decide +kernel
theorem cs_HomSearch : NSpec ⟨"HomBench$HomSearch", "<init>", "()V"⟩ prog_6_method_1_code 1 1 13 105 103 (.inr (7, [.int 0, .null, .null, .null, .null])) b_HomSearch := by
  refine NSpec.of (by decide +kernel) rfl (by decide) fun cx base bs hN hg => ?_
  obtain ⟨p, lc, e, Rm, s, m, args, below, meth, c1, G, A⟩ := cx
  obtain ⟨hG, hA, hin, hsz⟩ := id hN
  have hz : ∀ q, G.2.2 103 ≤ q → A q := fun q hq => by rw [hA]; exact hq
  have hzz : ∀ t q, G.2.2 103 + t ≤ q → A q := fun t q h => hz q (Nat.le_trans (Nat.le_add_right _ _) h)
  have aa : G.2.2 103 = base + 87 := sz_at hG (by decide) (by decide)
  have a104 : G.2.2 104 = G.2.2 103 + 1 := by rw [sz_at hG (c := 104) (P := 88) (by decide) (by decide), aa]
  have a105 : G.2.2 105 = G.2.2 103 + 2 := by rw [sz_at hG (c := 105) (P := 89) (by decide) (by decide), aa]
  have a106 : G.2.2 106 = G.2.2 103 + 3 := by rw [sz_at hG (c := 106) (P := 90) (by decide) (by decide), aa]
  have a107 : G.2.2 107 = G.2.2 103 + 4 := by rw [sz_at hG (c := 107) (P := 91) (by decide) (by decide), aa]
  have a108 : G.2.2 108 = G.2.2 103 + 5 := by rw [sz_at hG (c := 108) (P := 92) (by decide) (by decide), aa]
  have a109 : G.2.2 109 = G.2.2 103 + 6 := by rw [sz_at hG (c := 109) (P := 93) (by decide) (by decide), aa]
  have a110 : G.2.2 110 = G.2.2 103 + 7 := by rw [sz_at hG (c := 110) (P := 94) (by decide) (by decide), aa]
  have a111 : G.2.2 111 = G.2.2 103 + 8 := by rw [sz_at hG (c := 111) (P := 95) (by decide) (by decide), aa]
  have a112 : G.2.2 112 = G.2.2 103 + 9 := by rw [sz_at hG (c := 112) (P := 96) (by decide) (by decide), aa]
  have a113 : G.2.2 113 = G.2.2 103 + 10 := by rw [sz_at hG (c := 113) (P := 97) (by decide) (by decide), aa]
  have a114 : G.2.2 114 = G.2.2 103 + 11 := by rw [sz_at hG (c := 114) (P := 98) (by decide) (by decide), aa]
  have a115 : G.2.2 115 = G.2.2 103 + 12 := by rw [sz_at hG (c := 115) (P := 99) (by decide) (by decide), aa]
  have a116 : G.2.2 116 = G.2.2 103 + 13 := by rw [sz_at hG (c := 116) (P := 100) (by decide) (by decide), aa]
  show NX _ _ [(G.2.2 103, _)] (fun _ => False) (G.2.2 103 + 1) 0 0 0 [(0, .ref (G.2.2 103))] []
  have hS0 : ∀ e, False → G.2.2 103 + 1 ≤ G.2.2 e ∧ G.2.2 e < G.2.2 103 + 1 := fun e h => h.elim
  refine n_aload hg 0 d_HomSearchinit_0 rfl rfl ?_
  refine n_objInit hg k_23 k_1 k_2 d_HomSearchinit_1 (by decide) (by decide) ?_
  refine n_aload hg 0 d_HomSearchinit_4 rfl rfl ?_
  refine n_bipush hg (v := 8) d_HomSearchinit_5 (by decide) ?_
  refine n_newa hg (N := 8) (d := 104) (ty := .int) (t0 := 0) (a0 := (8, .inl (fun _ => 0))) (cA := G.2.1 0) ⟨a104, rfl, (by rw [h_cell_1 G h_μ0 (c := 104) (by decide)]; rfl)⟩ rfl k_3 (fun _ h => h) (fun _ => rfl) (by decide) (by decide) (by decide) ⟨by decide, by decide⟩ d_HomSearchinit_7 (so1 0) (fun e h => (hS0 e h).2) ?_
  have hS1 := sz_or1 hS0 a104 (show G.2.2 103 + 1 ≤ G.2.2 103 + 1 from Nat.add_le_add_left (by decide) _)
  refine n_putF hg (ci := 7) (j := 1) (fs := [.int 0, .null, .null, .null, .null]) ⟨rfl, i_HomSearch⟩ t_HomSearch_ok n_HomSearch rfl (by intro q hq; cases hq) (by decide) rfl rfl hin (ty := .array .int) (by decide +kernel) rfl rfl (Nat.le_of_ble_eq_true rfl) k_24 d_HomSearchinit_9 ⟨hz _ (Nat.le_refl _), fun e h => Nat.ne_of_gt ((hS1 e h).1)⟩ ?_
  refine n_aload hg 0 d_HomSearchinit_12 rfl rfl ?_
  refine n_bipush hg (v := 8) d_HomSearchinit_13 (by decide) ?_
  refine n_newa hg (N := 8) (d := 105) (ty := .int) (t0 := 0) (a0 := (8, .inl (fun _ => 0))) (cA := G.2.1 0) ⟨a105, rfl, (by rw [h_cell_1 G h_μ0 (c := 105) (by decide)]; rfl)⟩ rfl k_3 (fun _ h => h) (fun _ => rfl) (by decide) (by decide) (by decide) ⟨by decide, by decide⟩ d_HomSearchinit_15 (so1 1) (fun e h => (hS1 e h).2) ?_
  have hS2 := sz_or1 hS1 a105 (show G.2.2 103 + 1 ≤ G.2.2 103 + 2 from Nat.add_le_add_left (by decide) _)
  refine n_putF hg (ci := 7) (j := 2) (fs := [.int 0, .ref (G.2.2 103 + 1), .null, .null, .null]) ⟨rfl, i_HomSearch⟩ t_HomSearch_ok n_HomSearch rfl (by intro q hq; cases hq) (by decide) rfl rfl hin (ty := .array .int) (by decide +kernel) rfl rfl (Nat.le_of_ble_eq_true rfl) k_25 d_HomSearchinit_17 ⟨hz _ (Nat.le_refl _), fun e h => Nat.ne_of_gt ((hS2 e h).1)⟩ ?_
  refine n_aload hg 0 d_HomSearchinit_20 rfl rfl ?_
  refine n_bipush hg (v := 8) d_HomSearchinit_21 (by decide) ?_
  refine n_newa hg (N := 8) (d := 106) (ty := .int) (t0 := 0) (a0 := (8, .inl (fun _ => 0))) (cA := G.2.1 0) ⟨a106, rfl, (by rw [h_cell_1 G h_μ0 (c := 106) (by decide)]; rfl)⟩ rfl k_3 (fun _ h => h) (fun _ => rfl) (by decide) (by decide) (by decide) ⟨by decide, by decide⟩ d_HomSearchinit_23 (so1 2) (fun e h => (hS2 e h).2) ?_
  have hS3 := sz_or1 hS2 a106 (show G.2.2 103 + 1 ≤ G.2.2 103 + 3 from Nat.add_le_add_left (by decide) _)
  refine n_putF hg (ci := 7) (j := 3) (fs := [.int 0, .ref (G.2.2 103 + 1), .ref (G.2.2 103 + 2), .null, .null]) ⟨rfl, i_HomSearch⟩ t_HomSearch_ok n_HomSearch rfl (by intro q hq; cases hq) (by decide) rfl rfl hin (ty := .array .int) (by decide +kernel) rfl rfl (Nat.le_of_ble_eq_true rfl) k_26 d_HomSearchinit_25 ⟨hz _ (Nat.le_refl _), fun e h => Nat.ne_of_gt ((hS3 e h).1)⟩ ?_
  refine n_aload hg 0 d_HomSearchinit_28 rfl rfl ?_
  refine n_bipush hg (v := 9) d_HomSearchinit_29 (by decide) ?_
  refine n_bipush hg (v := 8) d_HomSearchinit_31 (by decide) ?_
  refine n_multi hg ⟨a107, (by intro i hi; rw [sz_at hG (c := 108 + i) (P := 92 + i) (by omega) ((by decide : ∀ i, i < 9 → h_perm (108 + i) = 92 + i) i hi)]; omega), fun q hq => hz q (by omega)⟩ k_27 ⟨by decide, by decide⟩ d_HomSearchinit_33 (so1 3) (fun e h => (hS3 e h).2) ?_
  have hS4 := sz_orb (B := fun e => 107 ≤ e ∧ e ≤ 116) (z' := G.2.2 103 + 1 + 1 + 1 + 1 + 10) hS3 (fun e he => by obtain ⟨i, rfl⟩ : ∃ i, e = 107 + i := ⟨e - 107, by omega⟩; rw [sz_at hG (c := 107 + i) (P := 91 + i) (by omega) ((by decide : ∀ i, i < 10 → h_perm (107 + i) = 91 + i) i (by omega))]; omega) (by omega) (by omega)
  refine n_putF hg (ci := 7) (j := 4) (fs := [.int 0, .ref (G.2.2 103 + 1), .ref (G.2.2 103 + 2), .ref (G.2.2 103 + 3), .null]) ⟨rfl, i_HomSearch⟩ t_HomSearch_ok n_HomSearch rfl (by intro q hq; cases hq) (by decide) rfl rfl hin (ty := .array (.array .int)) (by decide +kernel) rfl rfl (Nat.le_of_ble_eq_true rfl) k_28 d_HomSearchinit_37 ⟨hz _ (Nat.le_refl _), fun e h => Nat.ne_of_gt ((hS4 e h).1)⟩ ?_
  refine n_vret hg hN d_HomSearchinit_40 rfl rfl rfl ?_
  intro d hd
  by_cases h0 : d = 103
  · subst h0
    right
    exact ⟨_, List.mem_cons_self, rfl, fun H h => by
        rw [h_cell_o G h_μ0 (ci := 7) (by decide)]
        have e1 : (h_fl 103).mapIdx (fun k q => h_fv G h_μ0 103 k q) = [.int 0, .ref (G.2.2 (104)), .ref (G.2.2 (105)), .ref (G.2.2 (106)), .ref (G.2.2 (107))] := o_HomSearch G
        rw [e1, a104, a105, a106, a107]
        exact h⟩
  left
  exact m_HomSearch d hd h0
theorem d_Bijectionsinit_0 : decode prog_2_method_1_code 0 = .ok (.aload_n 0, 1) := by decide +kernel
theorem d_Bijectionsinit_1 : decode prog_2_method_1_code 1 = .ok (.invokespecial 3, 3) := by decide +kernel
theorem d_Bijectionsinit_4 : decode prog_2_method_1_code 4 = .ok (.aload_n 0, 1) := by decide +kernel
theorem d_Bijectionsinit_5 : decode prog_2_method_1_code 5 = .ok (.bipush 8, 2) := by decide +kernel
theorem d_Bijectionsinit_7 : decode prog_2_method_1_code 7 = .ok (.newarray .int, 2) := by decide +kernel
theorem d_Bijectionsinit_9 : decode prog_2_method_1_code 9 = .ok (.putfield 9, 3) := by decide +kernel
theorem d_Bijectionsinit_12 : decode prog_2_method_1_code 12 = .ok (.aload_n 0, 1) := by decide +kernel
theorem d_Bijectionsinit_13 : decode prog_2_method_1_code 13 = .ok (.bipush 8, 2) := by decide +kernel
theorem d_Bijectionsinit_15 : decode prog_2_method_1_code 15 = .ok (.newarray .int, 2) := by decide +kernel
theorem d_Bijectionsinit_17 : decode prog_2_method_1_code 17 = .ok (.putfield 15, 3) := by decide +kernel
theorem d_Bijectionsinit_20 : decode prog_2_method_1_code 20 = .ok (.aload_n 0, 1) := by decide +kernel
theorem d_Bijectionsinit_21 : decode prog_2_method_1_code 21 = .ok (.bipush 8, 2) := by decide +kernel
theorem d_Bijectionsinit_23 : decode prog_2_method_1_code 23 = .ok (.newarray .int, 2) := by decide +kernel
theorem d_Bijectionsinit_25 : decode prog_2_method_1_code 25 = .ok (.putfield 18, 3) := by decide +kernel
theorem d_Bijectionsinit_28 : decode prog_2_method_1_code 28 = .ok (.return_, 1) := by decide +kernel
theorem o_Bijections (G : HGeo) : (h_fl 117).mapIdx (fun k q => h_fv G h_μ0 117 k q) = [.ref (G.2.2 (118)), .ref (G.2.2 (119)), .ref (G.2.2 (120))] := by
  rw [show h_fl 117 = [(2, 118), (2, 119), (2, 120)] from by decide +kernel]
  simp only [List.mapIdx_cons, List.mapIdx_nil]
  rfl
def b_Bijections : List Nat := [117, 118, 119, 120]
theorem m_Bijections : ∀ d, d ∈ b_Bijections → d ≠ 117 → (((False ∨ d = 118) ∨ d = 119) ∨ d = 120) := by decide +kernel
theorem cs_Bijections : NSpec ⟨"HomBench$Bijections", "<init>", "()V"⟩ prog_2_method_1_code 1 1 3 24 117 (.inr (8, [.null, .null, .null])) b_Bijections := by
  refine NSpec.of (by decide +kernel) rfl (by decide) fun cx base bs hN hg => ?_
  obtain ⟨p, lc, e, Rm, s, m, args, below, meth, c1, G, A⟩ := cx
  obtain ⟨hG, hA, hin, hsz⟩ := id hN
  have hz : ∀ q, G.2.2 117 ≤ q → A q := fun q hq => by rw [hA]; exact hq
  have hzz : ∀ t q, G.2.2 117 + t ≤ q → A q := fun t q h => hz q (Nat.le_trans (Nat.le_add_right _ _) h)
  have aa : G.2.2 117 = base + 101 := sz_at hG (by decide) (by decide)
  have a118 : G.2.2 118 = G.2.2 117 + 1 := by rw [sz_at hG (c := 118) (P := 102) (by decide) (by decide), aa]
  have a119 : G.2.2 119 = G.2.2 117 + 2 := by rw [sz_at hG (c := 119) (P := 103) (by decide) (by decide), aa]
  have a120 : G.2.2 120 = G.2.2 117 + 3 := by rw [sz_at hG (c := 120) (P := 104) (by decide) (by decide), aa]
  show NX _ _ [(G.2.2 117, _)] (fun _ => False) (G.2.2 117 + 1) 0 0 0 [(0, .ref (G.2.2 117))] []
  have hS0 : ∀ e, False → G.2.2 117 + 1 ≤ G.2.2 e ∧ G.2.2 e < G.2.2 117 + 1 := fun e h => h.elim
  refine n_aload hg 0 d_Bijectionsinit_0 rfl rfl ?_
  refine n_objInit hg k_29 k_1 k_2 d_Bijectionsinit_1 (by decide) (by decide) ?_
  refine n_aload hg 0 d_Bijectionsinit_4 rfl rfl ?_
  refine n_bipush hg (v := 8) d_Bijectionsinit_5 (by decide) ?_
  refine n_newa hg (N := 8) (d := 118) (ty := .int) (t0 := 0) (a0 := (8, .inl (fun _ => 0))) (cA := G.2.1 0) ⟨a118, rfl, (by rw [h_cell_1 G h_μ0 (c := 118) (by decide)]; rfl)⟩ rfl k_3 (fun _ h => h) (fun _ => rfl) (by decide) (by decide) (by decide) ⟨by decide, by decide⟩ d_Bijectionsinit_7 (so1 0) (fun e h => (hS0 e h).2) ?_
  have hS1 := sz_or1 hS0 a118 (show G.2.2 117 + 1 ≤ G.2.2 117 + 1 from Nat.add_le_add_left (by decide) _)
  refine n_putF hg (ci := 8) (j := 0) (fs := [.null, .null, .null]) ⟨rfl, i_Bijections⟩ t_Bijections_ok n_Bijections rfl (by intro q hq; cases hq) (by decide) rfl rfl hin (ty := .array .int) (by decide +kernel) rfl rfl (Nat.le_of_ble_eq_true rfl) k_30 d_Bijectionsinit_9 ⟨hz _ (Nat.le_refl _), fun e h => Nat.ne_of_gt ((hS1 e h).1)⟩ ?_
  refine n_aload hg 0 d_Bijectionsinit_12 rfl rfl ?_
  refine n_bipush hg (v := 8) d_Bijectionsinit_13 (by decide) ?_
  refine n_newa hg (N := 8) (d := 119) (ty := .int) (t0 := 0) (a0 := (8, .inl (fun _ => 0))) (cA := G.2.1 0) ⟨a119, rfl, (by rw [h_cell_1 G h_μ0 (c := 119) (by decide)]; rfl)⟩ rfl k_3 (fun _ h => h) (fun _ => rfl) (by decide) (by decide) (by decide) ⟨by decide, by decide⟩ d_Bijectionsinit_15 (so1 1) (fun e h => (hS1 e h).2) ?_
  have hS2 := sz_or1 hS1 a119 (show G.2.2 117 + 1 ≤ G.2.2 117 + 2 from Nat.add_le_add_left (by decide) _)
  refine n_putF hg (ci := 8) (j := 1) (fs := [.ref (G.2.2 117 + 1), .null, .null]) ⟨rfl, i_Bijections⟩ t_Bijections_ok n_Bijections rfl (by intro q hq; cases hq) (by decide) rfl rfl hin (ty := .array .int) (by decide +kernel) rfl rfl (Nat.le_of_ble_eq_true rfl) k_31 d_Bijectionsinit_17 ⟨hz _ (Nat.le_refl _), fun e h => Nat.ne_of_gt ((hS2 e h).1)⟩ ?_
  refine n_aload hg 0 d_Bijectionsinit_20 rfl rfl ?_
  refine n_bipush hg (v := 8) d_Bijectionsinit_21 (by decide) ?_
  refine n_newa hg (N := 8) (d := 120) (ty := .int) (t0 := 0) (a0 := (8, .inl (fun _ => 0))) (cA := G.2.1 0) ⟨a120, rfl, (by rw [h_cell_1 G h_μ0 (c := 120) (by decide)]; rfl)⟩ rfl k_3 (fun _ h => h) (fun _ => rfl) (by decide) (by decide) (by decide) ⟨by decide, by decide⟩ d_Bijectionsinit_23 (so1 2) (fun e h => (hS2 e h).2) ?_
  have hS3 := sz_or1 hS2 a120 (show G.2.2 117 + 1 ≤ G.2.2 117 + 3 from Nat.add_le_add_left (by decide) _)
  refine n_putF hg (ci := 8) (j := 2) (fs := [.ref (G.2.2 117 + 1), .ref (G.2.2 117 + 2), .null]) ⟨rfl, i_Bijections⟩ t_Bijections_ok n_Bijections rfl (by intro q hq; cases hq) (by decide) rfl rfl hin (ty := .array .int) (by decide +kernel) rfl rfl (Nat.le_of_ble_eq_true rfl) k_32 d_Bijectionsinit_25 ⟨hz _ (Nat.le_refl _), fun e h => Nat.ne_of_gt ((hS3 e h).1)⟩ ?_
  refine n_vret hg hN d_Bijectionsinit_28 rfl rfl rfl ?_
  intro d hd
  by_cases h0 : d = 117
  · subst h0
    right
    exact ⟨_, List.mem_cons_self, rfl, fun H h => by
        rw [h_cell_o G h_μ0 (ci := 8) (by decide)]
        have e1 : (h_fl 117).mapIdx (fun k q => h_fv G h_μ0 117 k q) = [.ref (G.2.2 (118)), .ref (G.2.2 (119)), .ref (G.2.2 (120))] := o_Bijections G
        rw [e1, a118, a119, a120]
        exact h⟩
  left
  exact m_Bijections d hd h0
theorem d_Walksinit_0 : decode prog_10_method_1_code 0 = .ok (.aload_n 0, 1) := by decide +kernel
theorem d_Walksinit_1 : decode prog_10_method_1_code 1 = .ok (.invokespecial 3, 3) := by decide +kernel
theorem d_Walksinit_4 : decode prog_10_method_1_code 4 = .ok (.aload_n 0, 1) := by decide +kernel
theorem d_Walksinit_5 : decode prog_10_method_1_code 5 = .ok (.bipush 8, 2) := by decide +kernel
theorem d_Walksinit_7 : decode prog_10_method_1_code 7 = .ok (.newarray .long, 2) := by decide +kernel
theorem d_Walksinit_9 : decode prog_10_method_1_code 9 = .ok (.putfield 9, 3) := by decide +kernel
theorem d_Walksinit_12 : decode prog_10_method_1_code 12 = .ok (.aload_n 0, 1) := by decide +kernel
theorem d_Walksinit_13 : decode prog_10_method_1_code 13 = .ok (.bipush 8, 2) := by decide +kernel
theorem d_Walksinit_15 : decode prog_10_method_1_code 15 = .ok (.newarray .long, 2) := by decide +kernel
theorem d_Walksinit_17 : decode prog_10_method_1_code 17 = .ok (.putfield 15, 3) := by decide +kernel
theorem d_Walksinit_20 : decode prog_10_method_1_code 20 = .ok (.return_, 1) := by decide +kernel
theorem o_Walks (G : HGeo) : (h_fl 122).mapIdx (fun k q => h_fv G h_μ0 122 k q) = [.ref (G.2.2 (123)), .ref (G.2.2 (124))] := by
  rw [show h_fl 122 = [(2, 123), (2, 124)] from by decide +kernel]
  simp only [List.mapIdx_cons, List.mapIdx_nil]
  rfl
def b_Walks : List Nat := [122, 123, 124]
theorem m_Walks : ∀ d, d ∈ b_Walks → d ≠ 122 → ((False ∨ d = 123) ∨ d = 124) := by decide +kernel
theorem cs_Walks : NSpec ⟨"HomBench$Walks", "<init>", "()V"⟩ prog_10_method_1_code 1 1 2 16 122 (.inr (9, [.null, .null])) b_Walks := by
  refine NSpec.of (by decide +kernel) rfl (by decide) fun cx base bs hN hg => ?_
  obtain ⟨p, lc, e, Rm, s, m, args, below, meth, c1, G, A⟩ := cx
  obtain ⟨hG, hA, hin, hsz⟩ := id hN
  have hz : ∀ q, G.2.2 122 ≤ q → A q := fun q hq => by rw [hA]; exact hq
  have hzz : ∀ t q, G.2.2 122 + t ≤ q → A q := fun t q h => hz q (Nat.le_trans (Nat.le_add_right _ _) h)
  have aa : G.2.2 122 = base + 106 := sz_at hG (by decide) (by decide)
  have a123 : G.2.2 123 = G.2.2 122 + 1 := by rw [sz_at hG (c := 123) (P := 107) (by decide) (by decide), aa]
  have a124 : G.2.2 124 = G.2.2 122 + 2 := by rw [sz_at hG (c := 124) (P := 108) (by decide) (by decide), aa]
  show NX _ _ [(G.2.2 122, _)] (fun _ => False) (G.2.2 122 + 1) 0 0 0 [(0, .ref (G.2.2 122))] []
  have hS0 : ∀ e, False → G.2.2 122 + 1 ≤ G.2.2 e ∧ G.2.2 e < G.2.2 122 + 1 := fun e h => h.elim
  refine n_aload hg 0 d_Walksinit_0 rfl rfl ?_
  refine n_objInit hg k_33 k_1 k_2 d_Walksinit_1 (by decide) (by decide) ?_
  refine n_aload hg 0 d_Walksinit_4 rfl rfl ?_
  refine n_bipush hg (v := 8) d_Walksinit_5 (by decide) ?_
  refine n_newa hg (N := 8) (d := 123) (ty := .long) (t0 := 3) (a0 := (8, .inr (.inl (fun _ => 0)))) (cA := G.2.1 3) ⟨a123, rfl, (by rw [h_cell_4 G h_μ0 (c := 123) (by decide)]; rfl)⟩ rfl k_34 (fun _ h => h) (fun _ => rfl) (by decide) (by decide) (by decide) ⟨by decide, by decide⟩ d_Walksinit_7 (so1 0) (fun e h => (hS0 e h).2) ?_
  have hS1 := sz_or1 hS0 a123 (show G.2.2 122 + 1 ≤ G.2.2 122 + 1 from Nat.add_le_add_left (by decide) _)
  refine n_putF hg (ci := 9) (j := 0) (fs := [.null, .null]) ⟨rfl, i_Walks⟩ t_Walks_ok n_Walks rfl (by intro q hq; cases hq) (by decide) rfl rfl hin (ty := .array .long) (by decide +kernel) rfl rfl (Nat.le_of_ble_eq_true rfl) k_35 d_Walksinit_9 ⟨hz _ (Nat.le_refl _), fun e h => Nat.ne_of_gt ((hS1 e h).1)⟩ ?_
  refine n_aload hg 0 d_Walksinit_12 rfl rfl ?_
  refine n_bipush hg (v := 8) d_Walksinit_13 (by decide) ?_
  refine n_newa hg (N := 8) (d := 124) (ty := .long) (t0 := 3) (a0 := (8, .inr (.inl (fun _ => 0)))) (cA := G.2.1 3) ⟨a124, rfl, (by rw [h_cell_4 G h_μ0 (c := 124) (by decide)]; rfl)⟩ rfl k_34 (fun _ h => h) (fun _ => rfl) (by decide) (by decide) (by decide) ⟨by decide, by decide⟩ d_Walksinit_15 (so1 1) (fun e h => (hS1 e h).2) ?_
  have hS2 := sz_or1 hS1 a124 (show G.2.2 122 + 1 ≤ G.2.2 122 + 2 from Nat.add_le_add_left (by decide) _)
  refine n_putF hg (ci := 9) (j := 1) (fs := [.ref (G.2.2 122 + 1), .null]) ⟨rfl, i_Walks⟩ t_Walks_ok n_Walks rfl (by intro q hq; cases hq) (by decide) rfl rfl hin (ty := .array .long) (by decide +kernel) rfl rfl (Nat.le_of_ble_eq_true rfl) k_36 d_Walksinit_17 ⟨hz _ (Nat.le_refl _), fun e h => Nat.ne_of_gt ((hS2 e h).1)⟩ ?_
  refine n_vret hg hN d_Walksinit_20 rfl rfl rfl ?_
  intro d hd
  by_cases h0 : d = 122
  · subst h0
    right
    exact ⟨_, List.mem_cons_self, rfl, fun H h => by
        rw [h_cell_o G h_μ0 (ci := 9) (by decide)]
        have e1 : (h_fl 122).mapIdx (fun k q => h_fv G h_μ0 122 k q) = [.ref (G.2.2 (123)), .ref (G.2.2 (124))] := o_Walks G
        rw [e1, a123, a124]
        exact h⟩
  left
  exact m_Walks d hd h0

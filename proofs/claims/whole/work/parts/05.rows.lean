/-! Rows: arithmetic, branches, memory. -/
section HR2
variable {R : Type} {cx : HCx} {Qf : R → HMem → State → Prop} {F A B : Option (R × HMem)} {k n pc : Nat} {l : List (Nat × Value)} {st : List Value} {μ : HMem} {own : String} {b : ByteArray} {nL lv : Nat} {rt : Option FieldType}
/-- the machine's remainders and shifts -/
def h_irem (x y : Int32) : Int32 := x - x / y * y
def h_lrem (x y : Int64) : Int64 := x - x / y * y
def h_iushr (x y : Int32) : Int32 := (x.toUInt32 >>> (y.toUInt32 &&& Int32.toUInt32 31)).toInt32
def h_lushr (x : Int64) (y : Int32) : Int64 := (x.toUInt64 >>> (y.toInt64.toUInt64 &&& Int64.toUInt64 63)).toInt64
def h_ishl (x y : Int32) : Int32 := x <<< (y &&& 31)
def h_ishr (x y : Int32) : Int32 := x >>> (y &&& 31)
def h_lshl (x : Int64) (y : Int32) : Int64 := x <<< (y.toInt64 &&& 63)
def h_i2b (x : Int32) : Int32 := x.toInt8.toInt32
theorem r_iadd (hg : HGood cx own b nL lv rt) {x y : Int32} (hd : decode b pc = .ok (.iadd, 1)) (kk : HX cx Qf F k n (pc + 1) l (.int (x + y) :: st) μ) : HX cx Qf F k n pc l (.int y :: .int x :: st) μ := by
  obtain ⟨p, lc, e, Rm, s, m, args, below, meth, c, G, A⟩ := cx
  intro r μ' hF H locs ls hP hS hl hC
  exact lv_iadd hg.1 hg.2.1 hd (kk r μ' hF H locs ls hP hS hl hC)
theorem r_isub (hg : HGood cx own b nL lv rt) {x y : Int32} (hd : decode b pc = .ok (.isub, 1)) (kk : HX cx Qf F k n (pc + 1) l (.int (x - y) :: st) μ) : HX cx Qf F k n pc l (.int y :: .int x :: st) μ := by
  obtain ⟨p, lc, e, Rm, s, m, args, below, meth, c, G, A⟩ := cx
  intro r μ' hF H locs ls hP hS hl hC
  exact lv_isub hg.1 hg.2.1 hd (kk r μ' hF H locs ls hP hS hl hC)
theorem r_imul (hg : HGood cx own b nL lv rt) {x y : Int32} (hd : decode b pc = .ok (.imul, 1)) (kk : HX cx Qf F k n (pc + 1) l (.int (x * y) :: st) μ) : HX cx Qf F k n pc l (.int y :: .int x :: st) μ := by
  obtain ⟨p, lc, e, Rm, s, m, args, below, meth, c, G, A⟩ := cx
  intro r μ' hF H locs ls hP hS hl hC
  exact lv_imul hg.1 hg.2.1 hd (kk r μ' hF H locs ls hP hS hl hC)
theorem r_iand (hg : HGood cx own b nL lv rt) {x y : Int32} (hd : decode b pc = .ok (.iand, 1)) (kk : HX cx Qf F k n (pc + 1) l (.int (x &&& y) :: st) μ) : HX cx Qf F k n pc l (.int y :: .int x :: st) μ := by
  obtain ⟨p, lc, e, Rm, s, m, args, below, meth, c, G, A⟩ := cx
  intro r μ' hF H locs ls hP hS hl hC
  exact lv_iand hg.1 hg.2.1 hd (kk r μ' hF H locs ls hP hS hl hC)
theorem r_ior (hg : HGood cx own b nL lv rt) {x y : Int32} (hd : decode b pc = .ok (.ior, 1)) (kk : HX cx Qf F k n (pc + 1) l (.int (x ||| y) :: st) μ) : HX cx Qf F k n pc l (.int y :: .int x :: st) μ := by
  obtain ⟨p, lc, e, Rm, s, m, args, below, meth, c, G, A⟩ := cx
  intro r μ' hF H locs ls hP hS hl hC
  exact lv_ior hg.1 hg.2.1 hd (kk r μ' hF H locs ls hP hS hl hC)
theorem r_ixor (hg : HGood cx own b nL lv rt) {x y : Int32} (hd : decode b pc = .ok (.ixor, 1)) (kk : HX cx Qf F k n (pc + 1) l (.int (x ^^^ y) :: st) μ) : HX cx Qf F k n pc l (.int y :: .int x :: st) μ := by
  obtain ⟨p, lc, e, Rm, s, m, args, below, meth, c, G, A⟩ := cx
  intro r μ' hF H locs ls hP hS hl hC
  exact lv_ixor hg.1 hg.2.1 hd (kk r μ' hF H locs ls hP hS hl hC)
theorem r_ishl (hg : HGood cx own b nL lv rt) {x y : Int32} (hd : decode b pc = .ok (.ishl, 1)) (kk : HX cx Qf F k n (pc + 1) l (.int (h_ishl x y) :: st) μ) : HX cx Qf F k n pc l (.int y :: .int x :: st) μ := by
  obtain ⟨p, lc, e, Rm, s, m, args, below, meth, c, G, A⟩ := cx
  intro r μ' hF H locs ls hP hS hl hC
  exact lv_ishl hg.1 hg.2.1 hd (kk r μ' hF H locs ls hP hS hl hC)
theorem r_ishr (hg : HGood cx own b nL lv rt) {x y : Int32} (hd : decode b pc = .ok (.ishr, 1)) (kk : HX cx Qf F k n (pc + 1) l (.int (h_ishr x y) :: st) μ) : HX cx Qf F k n pc l (.int y :: .int x :: st) μ := by
  obtain ⟨p, lc, e, Rm, s, m, args, below, meth, c, G, A⟩ := cx
  intro r μ' hF H locs ls hP hS hl hC
  exact lv_ishr hg.1 hg.2.1 hd (kk r μ' hF H locs ls hP hS hl hC)
theorem r_iushr (hg : HGood cx own b nL lv rt) {x y : Int32} (hd : decode b pc = .ok (.iushr, 1)) (kk : HX cx Qf F k n (pc + 1) l (.int (h_iushr x y) :: st) μ) : HX cx Qf F k n pc l (.int y :: .int x :: st) μ := by
  obtain ⟨p, lc, e, Rm, s, m, args, below, meth, c, G, A⟩ := cx
  intro r μ' hF H locs ls hP hS hl hC
  exact lv_iushr hg.1 hg.2.1 hd rfl (kk r μ' hF H locs ls hP hS hl hC)
theorem r_ladd (hg : HGood cx own b nL lv rt) {x y : Int64} (hd : decode b pc = .ok (.ladd, 1)) (kk : HX cx Qf F k n (pc + 1) l (.long (x + y) :: st) μ) : HX cx Qf F k n pc l (.long y :: .long x :: st) μ := by
  obtain ⟨p, lc, e, Rm, s, m, args, below, meth, c, G, A⟩ := cx
  intro r μ' hF H locs ls hP hS hl hC
  exact lv_ladd hg.1 hg.2.1 hd (kk r μ' hF H locs ls hP hS hl hC)
theorem r_lsub (hg : HGood cx own b nL lv rt) {x y : Int64} (hd : decode b pc = .ok (.lsub, 1)) (kk : HX cx Qf F k n (pc + 1) l (.long (x - y) :: st) μ) : HX cx Qf F k n pc l (.long y :: .long x :: st) μ := by
  obtain ⟨p, lc, e, Rm, s, m, args, below, meth, c, G, A⟩ := cx
  intro r μ' hF H locs ls hP hS hl hC
  exact lv_lsub hg.1 hg.2.1 hd (kk r μ' hF H locs ls hP hS hl hC)
theorem r_lmul (hg : HGood cx own b nL lv rt) {x y : Int64} (hd : decode b pc = .ok (.lmul, 1)) (kk : HX cx Qf F k n (pc + 1) l (.long (x * y) :: st) μ) : HX cx Qf F k n pc l (.long y :: .long x :: st) μ := by
  obtain ⟨p, lc, e, Rm, s, m, args, below, meth, c, G, A⟩ := cx
  intro r μ' hF H locs ls hP hS hl hC
  exact lv_lmul hg.1 hg.2.1 hd (kk r μ' hF H locs ls hP hS hl hC)
theorem r_land (hg : HGood cx own b nL lv rt) {x y : Int64} (hd : decode b pc = .ok (.land, 1)) (kk : HX cx Qf F k n (pc + 1) l (.long (x &&& y) :: st) μ) : HX cx Qf F k n pc l (.long y :: .long x :: st) μ := by
  obtain ⟨p, lc, e, Rm, s, m, args, below, meth, c, G, A⟩ := cx
  intro r μ' hF H locs ls hP hS hl hC
  exact lv_land hg.1 hg.2.1 hd (kk r μ' hF H locs ls hP hS hl hC)
theorem r_lor (hg : HGood cx own b nL lv rt) {x y : Int64} (hd : decode b pc = .ok (.lor, 1)) (kk : HX cx Qf F k n (pc + 1) l (.long (x ||| y) :: st) μ) : HX cx Qf F k n pc l (.long y :: .long x :: st) μ := by
  obtain ⟨p, lc, e, Rm, s, m, args, below, meth, c, G, A⟩ := cx
  intro r μ' hF H locs ls hP hS hl hC
  exact lv_lor hg.1 hg.2.1 hd (kk r μ' hF H locs ls hP hS hl hC)
theorem r_idiv (hg : HGood cx own b nL lv rt) {x y : Int32} (hd : decode b pc = .ok (.idiv, 1)) (kk : HX cx Qf F k n (pc + 1) l (.int (x / y) :: st) μ) : HX cx Qf (if y = 0 then none else F) k n pc l (.int y :: .int x :: st) μ := by
  obtain ⟨p, lc, e, Rm, s, m, args, below, meth, c, G, A⟩ := cx
  intro r μ' hF H locs ls hP hS hl hC
  by_cases hy : y = 0
  · rw [if_pos hy] at hF; cases hF
  · rw [if_neg hy] at hF
    exact lv_idiv hg.1 hg.2.1 hd hy (kk r μ' hF H locs ls hP hS hl hC)
theorem r_irem (hg : HGood cx own b nL lv rt) {x y : Int32} (hd : decode b pc = .ok (.irem, 1)) (kk : HX cx Qf F k n (pc + 1) l (.int (h_irem x y) :: st) μ) : HX cx Qf (if y = 0 then none else F) k n pc l (.int y :: .int x :: st) μ := by
  obtain ⟨p, lc, e, Rm, s, m, args, below, meth, c, G, A⟩ := cx
  intro r μ' hF H locs ls hP hS hl hC
  by_cases hy : y = 0
  · rw [if_pos hy] at hF; cases hF
  · rw [if_neg hy] at hF
    exact lv_irem hg.1 hg.2.1 hd hy (kk r μ' hF H locs ls hP hS hl hC)
theorem r_ldiv (hg : HGood cx own b nL lv rt) {x y : Int64} (hd : decode b pc = .ok (.ldiv, 1)) (kk : HX cx Qf F k n (pc + 1) l (.long (x / y) :: st) μ) : HX cx Qf (if y = 0 then none else F) k n pc l (.long y :: .long x :: st) μ := by
  obtain ⟨p, lc, e, Rm, s, m, args, below, meth, c, G, A⟩ := cx
  intro r μ' hF H locs ls hP hS hl hC
  by_cases hy : y = 0
  · rw [if_pos hy] at hF; cases hF
  · rw [if_neg hy] at hF
    exact lv_ldiv hg.1 hg.2.1 hd hy (kk r μ' hF H locs ls hP hS hl hC)
theorem r_lrem (hg : HGood cx own b nL lv rt) {x y : Int64} (hd : decode b pc = .ok (.lrem, 1)) (kk : HX cx Qf F k n (pc + 1) l (.long (h_lrem x y) :: st) μ) : HX cx Qf (if y = 0 then none else F) k n pc l (.long y :: .long x :: st) μ := by
  obtain ⟨p, lc, e, Rm, s, m, args, below, meth, c, G, A⟩ := cx
  intro r μ' hF H locs ls hP hS hl hC
  by_cases hy : y = 0
  · rw [if_pos hy] at hF; cases hF
  · rw [if_neg hy] at hF
    exact lv_lrem hg.1 hg.2.1 hd hy (kk r μ' hF H locs ls hP hS hl hC)
theorem r_ineg (hg : HGood cx own b nL lv rt) {x : Int32} (hd : decode b pc = .ok (.ineg, 1)) (kk : HX cx Qf F k n (pc + 1) l (.int (-x) :: st) μ) : HX cx Qf F k n pc l (.int x :: st) μ := by
  obtain ⟨p, lc, e, Rm, s, m, args, below, meth, c, G, A⟩ := cx
  intro r μ' hF H locs ls hP hS hl hC
  exact lv_ineg hg.1 hg.2.1 hd (kk r μ' hF H locs ls hP hS hl hC)
theorem r_i2l (hg : HGood cx own b nL lv rt) {x : Int32} (hd : decode b pc = .ok (.i2l, 1)) (kk : HX cx Qf F k n (pc + 1) l (.long (x.toInt64) :: st) μ) : HX cx Qf F k n pc l (.int x :: st) μ := by
  obtain ⟨p, lc, e, Rm, s, m, args, below, meth, c, G, A⟩ := cx
  intro r μ' hF H locs ls hP hS hl hC
  exact lv_i2l hg.1 hg.2.1 hd rfl (kk r μ' hF H locs ls hP hS hl hC)
theorem r_l2i (hg : HGood cx own b nL lv rt) {x : Int64} (hd : decode b pc = .ok (.l2i, 1)) (kk : HX cx Qf F k n (pc + 1) l (.int (x.toInt32) :: st) μ) : HX cx Qf F k n pc l (.long x :: st) μ := by
  obtain ⟨p, lc, e, Rm, s, m, args, below, meth, c, G, A⟩ := cx
  intro r μ' hF H locs ls hP hS hl hC
  exact lv_l2i hg.1 hg.2.1 hd rfl (kk r μ' hF H locs ls hP hS hl hC)
theorem r_i2b (hg : HGood cx own b nL lv rt) {x : Int32} (hd : decode b pc = .ok (.i2b, 1)) (kk : HX cx Qf F k n (pc + 1) l (.int (h_i2b x) :: st) μ) : HX cx Qf F k n pc l (.int x :: st) μ := by
  obtain ⟨p, lc, e, Rm, s, m, args, below, meth, c, G, A⟩ := cx
  intro r μ' hF H locs ls hP hS hl hC
  exact lv_i2b hg.1 hg.2.1 hd rfl (kk r μ' hF H locs ls hP hS hl hC)
theorem r_lshl (hg : HGood cx own b nL lv rt) {x : Int64} {y : Int32} (hd : decode b pc = .ok (.lshl, 1)) (kk : HX cx Qf F k n (pc + 1) l (.long (h_lshl x y) :: st) μ) : HX cx Qf F k n pc l (.int y :: .long x :: st) μ := by
  obtain ⟨p, lc, e, Rm, s, m, args, below, meth, c, G, A⟩ := cx
  intro r μ' hF H locs ls hP hS hl hC
  exact lv_lshl hg.1 hg.2.1 hd rfl (kk r μ' hF H locs ls hP hS hl hC)
theorem r_lushr (hg : HGood cx own b nL lv rt) {x : Int64} {y : Int32} (hd : decode b pc = .ok (.lushr, 1)) (kk : HX cx Qf F k n (pc + 1) l (.long (h_lushr x y) :: st) μ) : HX cx Qf F k n pc l (.int y :: .long x :: st) μ := by
  obtain ⟨p, lc, e, Rm, s, m, args, below, meth, c, G, A⟩ := cx
  intro r μ' hF H locs ls hP hS hl hC
  exact lv_lushr hg.1 hg.2.1 hd rfl (kk r μ' hF H locs ls hP hS hl hC)
theorem r_lcmp (hg : HGood cx own b nL lv rt) {x y : Int64} (hd : decode b pc = .ok (.lcmp, 1)) (kk : HX cx Qf F k n (pc + 1) l (.int (lg_cmp x y) :: st) μ) : HX cx Qf F k n pc l (.long y :: .long x :: st) μ := by
  obtain ⟨p, lc, e, Rm, s, m, args, below, meth, c, G, A⟩ := cx
  intro r μ' hF H locs ls hP hS hl hC
  exact W.lcmp hg.1 hg.2.1 hd (kk r μ' hF H locs ls hP hS hl hC)
theorem r_icmp_eq (hg : HGood cx own b nL lv rt) {x y : Int32} {off : Int} {tgt : Nat} (hd : decode b pc = .ok (.if_icmp .eq off, 3)) (ht : (pc : Int) + off = (tgt : Int)) (kt : HX cx Qf A k n tgt l st μ) (kf : HX cx Qf B k n (pc + 3) l st μ) : HX cx Qf (if x = y then A else B) k n pc l (.int y :: .int x :: st) μ := by
  obtain ⟨p, lc, e, Rm, s, m, args, below, meth, c, G, A'⟩ := cx
  intro r μ' hF H locs ls hP hS hl hC
  refine lv_icmp_eq hg.1 hg.2.1 hd ht (fun h => ?_) (fun h => ?_)
  · rw [if_pos h] at hF
    exact kt r μ' hF H locs ls hP hS hl hC
  · rw [if_neg h] at hF
    exact kf r μ' hF H locs ls hP hS hl hC
theorem r_icmp_ne (hg : HGood cx own b nL lv rt) {x y : Int32} {off : Int} {tgt : Nat} (hd : decode b pc = .ok (.if_icmp .ne off, 3)) (ht : (pc : Int) + off = (tgt : Int)) (kt : HX cx Qf A k n tgt l st μ) (kf : HX cx Qf B k n (pc + 3) l st μ) : HX cx Qf (if ¬ x = y then A else B) k n pc l (.int y :: .int x :: st) μ := by
  obtain ⟨p, lc, e, Rm, s, m, args, below, meth, c, G, A'⟩ := cx
  intro r μ' hF H locs ls hP hS hl hC
  refine lv_icmp_ne hg.1 hg.2.1 hd ht (fun h => ?_) (fun h => ?_)
  · rw [if_pos h] at hF
    exact kt r μ' hF H locs ls hP hS hl hC
  · rw [if_neg (fun q => q h)] at hF
    exact kf r μ' hF H locs ls hP hS hl hC
theorem r_icmp_lt (hg : HGood cx own b nL lv rt) {x y : Int32} {off : Int} {tgt : Nat} (hd : decode b pc = .ok (.if_icmp .lt off, 3)) (ht : (pc : Int) + off = (tgt : Int)) (kt : HX cx Qf A k n tgt l st μ) (kf : HX cx Qf B k n (pc + 3) l st μ) : HX cx Qf (if x < y then A else B) k n pc l (.int y :: .int x :: st) μ := by
  obtain ⟨p, lc, e, Rm, s, m, args, below, meth, c, G, A'⟩ := cx
  intro r μ' hF H locs ls hP hS hl hC
  refine lv_icmp_lt hg.1 hg.2.1 hd ht (fun h => ?_) (fun h => ?_)
  · rw [if_pos h] at hF
    exact kt r μ' hF H locs ls hP hS hl hC
  · rw [if_neg h] at hF
    exact kf r μ' hF H locs ls hP hS hl hC
theorem r_icmp_ge (hg : HGood cx own b nL lv rt) {x y : Int32} {off : Int} {tgt : Nat} (hd : decode b pc = .ok (.if_icmp .ge off, 3)) (ht : (pc : Int) + off = (tgt : Int)) (kt : HX cx Qf A k n tgt l st μ) (kf : HX cx Qf B k n (pc + 3) l st μ) : HX cx Qf (if y ≤ x then A else B) k n pc l (.int y :: .int x :: st) μ := by
  obtain ⟨p, lc, e, Rm, s, m, args, below, meth, c, G, A'⟩ := cx
  intro r μ' hF H locs ls hP hS hl hC
  refine lv_icmp_ge hg.1 hg.2.1 hd ht (fun h => ?_) (fun h => ?_)
  · rw [if_pos h] at hF
    exact kt r μ' hF H locs ls hP hS hl hC
  · rw [if_neg h] at hF
    exact kf r μ' hF H locs ls hP hS hl hC
theorem r_icmp_gt (hg : HGood cx own b nL lv rt) {x y : Int32} {off : Int} {tgt : Nat} (hd : decode b pc = .ok (.if_icmp .gt off, 3)) (ht : (pc : Int) + off = (tgt : Int)) (kt : HX cx Qf A k n tgt l st μ) (kf : HX cx Qf B k n (pc + 3) l st μ) : HX cx Qf (if y < x then A else B) k n pc l (.int y :: .int x :: st) μ := by
  obtain ⟨p, lc, e, Rm, s, m, args, below, meth, c, G, A'⟩ := cx
  intro r μ' hF H locs ls hP hS hl hC
  refine lv_icmp_gt hg.1 hg.2.1 hd ht (fun h => ?_) (fun h => ?_)
  · rw [if_pos h] at hF
    exact kt r μ' hF H locs ls hP hS hl hC
  · rw [if_neg h] at hF
    exact kf r μ' hF H locs ls hP hS hl hC
theorem r_icmp_le (hg : HGood cx own b nL lv rt) {x y : Int32} {off : Int} {tgt : Nat} (hd : decode b pc = .ok (.if_icmp .le off, 3)) (ht : (pc : Int) + off = (tgt : Int)) (kt : HX cx Qf A k n tgt l st μ) (kf : HX cx Qf B k n (pc + 3) l st μ) : HX cx Qf (if x ≤ y then A else B) k n pc l (.int y :: .int x :: st) μ := by
  obtain ⟨p, lc, e, Rm, s, m, args, below, meth, c, G, A'⟩ := cx
  intro r μ' hF H locs ls hP hS hl hC
  refine lv_icmp_le hg.1 hg.2.1 hd ht (fun h => ?_) (fun h => ?_)
  · rw [if_pos h] at hF
    exact kt r μ' hF H locs ls hP hS hl hC
  · rw [if_neg h] at hF
    exact kf r μ' hF H locs ls hP hS hl hC
theorem r_if_eq (hg : HGood cx own b nL lv rt) {x : Int32} {off : Int} {tgt : Nat} (hd : decode b pc = .ok (.ifCond .eq off, 3)) (ht : (pc : Int) + off = (tgt : Int)) (kt : HX cx Qf A k n tgt l st μ) (kf : HX cx Qf B k n (pc + 3) l st μ) : HX cx Qf (if x = 0 then A else B) k n pc l (.int x :: st) μ := by
  obtain ⟨p, lc, e, Rm, s, m, args, below, meth, c, G, A'⟩ := cx
  intro r μ' hF H locs ls hP hS hl hC
  refine lv_if_eq hg.1 hg.2.1 hd ht (fun h => ?_) (fun h => ?_)
  · rw [if_pos h] at hF
    exact kt r μ' hF H locs ls hP hS hl hC
  · rw [if_neg h] at hF
    exact kf r μ' hF H locs ls hP hS hl hC
theorem r_if_ne (hg : HGood cx own b nL lv rt) {x : Int32} {off : Int} {tgt : Nat} (hd : decode b pc = .ok (.ifCond .ne off, 3)) (ht : (pc : Int) + off = (tgt : Int)) (kt : HX cx Qf A k n tgt l st μ) (kf : HX cx Qf B k n (pc + 3) l st μ) : HX cx Qf (if ¬ x = 0 then A else B) k n pc l (.int x :: st) μ := by
  obtain ⟨p, lc, e, Rm, s, m, args, below, meth, c, G, A'⟩ := cx
  intro r μ' hF H locs ls hP hS hl hC
  refine lv_if_ne hg.1 hg.2.1 hd ht (fun h => ?_) (fun h => ?_)
  · rw [if_pos h] at hF
    exact kt r μ' hF H locs ls hP hS hl hC
  · rw [if_neg (fun q => q h)] at hF
    exact kf r μ' hF H locs ls hP hS hl hC
theorem r_if_lt (hg : HGood cx own b nL lv rt) {x : Int32} {off : Int} {tgt : Nat} (hd : decode b pc = .ok (.ifCond .lt off, 3)) (ht : (pc : Int) + off = (tgt : Int)) (kt : HX cx Qf A k n tgt l st μ) (kf : HX cx Qf B k n (pc + 3) l st μ) : HX cx Qf (if x < 0 then A else B) k n pc l (.int x :: st) μ := by
  obtain ⟨p, lc, e, Rm, s, m, args, below, meth, c, G, A'⟩ := cx
  intro r μ' hF H locs ls hP hS hl hC
  refine lv_if_lt hg.1 hg.2.1 hd ht (fun h => ?_) (fun h => ?_)
  · rw [if_pos h] at hF
    exact kt r μ' hF H locs ls hP hS hl hC
  · rw [if_neg h] at hF
    exact kf r μ' hF H locs ls hP hS hl hC
theorem r_if_ge (hg : HGood cx own b nL lv rt) {x : Int32} {off : Int} {tgt : Nat} (hd : decode b pc = .ok (.ifCond .ge off, 3)) (ht : (pc : Int) + off = (tgt : Int)) (kt : HX cx Qf A k n tgt l st μ) (kf : HX cx Qf B k n (pc + 3) l st μ) : HX cx Qf (if 0 ≤ x then A else B) k n pc l (.int x :: st) μ := by
  obtain ⟨p, lc, e, Rm, s, m, args, below, meth, c, G, A'⟩ := cx
  intro r μ' hF H locs ls hP hS hl hC
  refine lv_if_ge hg.1 hg.2.1 hd ht (fun h => ?_) (fun h => ?_)
  · rw [if_pos h] at hF
    exact kt r μ' hF H locs ls hP hS hl hC
  · rw [if_neg h] at hF
    exact kf r μ' hF H locs ls hP hS hl hC
theorem r_if_gt (hg : HGood cx own b nL lv rt) {x : Int32} {off : Int} {tgt : Nat} (hd : decode b pc = .ok (.ifCond .gt off, 3)) (ht : (pc : Int) + off = (tgt : Int)) (kt : HX cx Qf A k n tgt l st μ) (kf : HX cx Qf B k n (pc + 3) l st μ) : HX cx Qf (if 0 < x then A else B) k n pc l (.int x :: st) μ := by
  obtain ⟨p, lc, e, Rm, s, m, args, below, meth, c, G, A'⟩ := cx
  intro r μ' hF H locs ls hP hS hl hC
  refine lv_if_gt hg.1 hg.2.1 hd ht (fun h => ?_) (fun h => ?_)
  · rw [if_pos h] at hF
    exact kt r μ' hF H locs ls hP hS hl hC
  · rw [if_neg h] at hF
    exact kf r μ' hF H locs ls hP hS hl hC
theorem r_if_le (hg : HGood cx own b nL lv rt) {x : Int32} {off : Int} {tgt : Nat} (hd : decode b pc = .ok (.ifCond .le off, 3)) (ht : (pc : Int) + off = (tgt : Int)) (kt : HX cx Qf A k n tgt l st μ) (kf : HX cx Qf B k n (pc + 3) l st μ) : HX cx Qf (if x ≤ 0 then A else B) k n pc l (.int x :: st) μ := by
  obtain ⟨p, lc, e, Rm, s, m, args, below, meth, c, G, A'⟩ := cx
  intro r μ' hF H locs ls hP hS hl hC
  refine lv_if_le hg.1 hg.2.1 hd ht (fun h => ?_) (fun h => ?_)
  · rw [if_pos h] at hF
    exact kt r μ' hF H locs ls hP hS hl hC
  · rw [if_neg h] at hF
    exact kf r μ' hF H locs ls hP hS hl hC
theorem r_iald (hg : HGood cx own b nL lv rt) {i : Int32} {a : Nat} (ha : a < h_N) (hk : h_kd a = 1) (hd : decode b pc = .ok (.iaload, 1)) (kk : HX cx Qf F k n (pc + 1) l (.int (μ.1 a i.toNatClampNeg) :: st) μ) : HX cx Qf (h_chk i (h_len a) F) k n pc l (.int i :: .ref a :: st) μ := by
  obtain ⟨p, lc, e, Rm, s, m, args, below, meth, c, G, A'⟩ := cx
  intro r μ' hF H locs ls hP hS hl hC
  obtain ⟨hi, hF⟩ := h_chk_some hF
  refine va_iald hg.1 hg.2.1 hg.2.2.2.2.2.1 hP a 0 ((h_ws_at G μ ha).trans (by rw [h_cell_1 G μ hk])) rfl hi hd ?_
  exact kk r μ' hF H locs ls hP hS hl hC
theorem r_bald (hg : HGood cx own b nL lv rt) {i : Int32} {a : Nat} (ha : a < h_N) (hk : h_kd a = 2) (hd : decode b pc = .ok (.baload, 1)) (kk : HX cx Qf F k n (pc + 1) l (.int (μ.1 a i.toNatClampNeg) :: st) μ) : HX cx Qf (h_chk i (h_len a) F) k n pc l (.int i :: .ref a :: st) μ := by
  obtain ⟨p, lc, e, Rm, s, m, args, below, meth, c, G, A'⟩ := cx
  intro r μ' hF H locs ls hP hS hl hC
  obtain ⟨hi, hF⟩ := h_chk_some hF
  refine va_bald hg.1 hg.2.1 hg.2.2.2.2.2.1 hP a 1 ((h_ws_at G μ ha).trans (by rw [h_cell_2 G μ hk])) rfl hi hd ?_
  exact kk r μ' hF H locs ls hP hS hl hC
theorem r_zald (hg : HGood cx own b nL lv rt) {i : Int32} {a : Nat} (ha : a < h_N) (hk : h_kd a = 3) (hd : decode b pc = .ok (.baload, 1)) (kk : HX cx Qf F k n (pc + 1) l (.int (μ.1 a i.toNatClampNeg) :: st) μ) : HX cx Qf (h_chk i (h_len a) F) k n pc l (.int i :: .ref a :: st) μ := by
  obtain ⟨p, lc, e, Rm, s, m, args, below, meth, c, G, A'⟩ := cx
  intro r μ' hF H locs ls hP hS hl hC
  obtain ⟨hi, hF⟩ := h_chk_some hF
  refine va_zald hg.1 hg.2.1 hg.2.2.2.2.2.1 hP a 2 ((h_ws_at G μ ha).trans (by rw [h_cell_3 G μ hk])) rfl hi hd ?_
  exact kk r μ' hF H locs ls hP hS hl hC
theorem r_lald (hg : HGood cx own b nL lv rt) {i : Int32} {a : Nat} (ha : a < h_N) (hk : h_kd a = 4) (hd : decode b pc = .ok (.laload, 1)) (kk : HX cx Qf F k n (pc + 1) l (.long (μ.2 a i.toNatClampNeg) :: st) μ) : HX cx Qf (h_chk i (h_len a) F) k n pc l (.int i :: .ref a :: st) μ := by
  obtain ⟨p, lc, e, Rm, s, m, args, below, meth, c, G, A'⟩ := cx
  intro r μ' hF H locs ls hP hS hl hC
  obtain ⟨hi, hF⟩ := h_chk_some hF
  refine va_lald hg.1 hg.2.1 hg.2.2.2.2.2.1 hP a 3 ((h_ws_at G μ ha).trans (by rw [h_cell_4 G μ hk])) rfl hi hd ?_
  exact kk r μ' hF H locs ls hP hS hl hC
theorem r_gald (hg : HGood cx own b nL lv rt) {i : Int32} {a : Nat} (ha : a < h_N) (hk : h_kd a = 5) (hd : decode b pc = .ok (.aaload, 1)) (kk : i.toNatClampNeg < h_len a → HX cx Qf F k n (pc + 1) l (.ref (h_el a i.toNatClampNeg) :: st) μ) : HX cx Qf (h_chk i (h_len a) F) k n pc l (.int i :: .ref a :: st) μ := by
  obtain ⟨p, lc, e, Rm, s, m, args, below, meth, c, G, A'⟩ := cx
  intro r μ' hF H locs ls hP hS hl hC
  obtain ⟨hi, hF⟩ := h_chk_some hF
  have hlt : i.toNatClampNeg < h_len a := Nat.not_le.mp fun q => hi (Or.inr q)
  refine va_aldq hg.1 hg.2.1 hg.2.2.2.2.2.1 hP a 4 ((h_ws_at G μ ha).trans (by rw [h_cell_5 G μ hk])) rfl hi hd ?_
  exact kk hlt r μ' hF H locs ls hP hS hl hC
theorem h_nar_z (x : Int32) : vp_nar .boolean x = x &&& 1 := rfl
theorem r_iast (hg : HGood cx own b nL lv rt) {i : Int32} {x : Int32} {a : Nat} (ha : a < h_N) (hk : h_kd a = 1) (hd : decode b pc = .ok (.iastore, 1)) (kk : HX cx Qf F k n (pc + 1) l st (h_wi μ a i.toNatClampNeg x)) : HX cx Qf (h_chk i (h_len a) F) k n pc l (.int x :: .int i :: .ref a :: st) μ := by
  obtain ⟨p, lc, e, Rm, s, m, args, below, meth, c, G, A'⟩ := cx
  intro r μ' hF H locs ls hP hS hl hC
  obtain ⟨hi, hF⟩ := h_chk_some hF
  refine va_iast hg.1 hg.2.1 hg.2.2.2.2.2.1 hP (h_D hg.2.2.2.2.2.2.1 hg.2.2.2.2.2.2.2.1 μ) hS a 0 ((h_ws_at G μ ha).trans (by rw [h_cell_1 G μ hk])) rfl hi hd (fun H1 locs1 hP1 _ hS1 => ?_)
  rw [h_ws_set G μ (h_wi μ a i.toNatClampNeg x) ha ((h_cell_1 G _ hk).trans ?_) (fun d hd => h_cell_wi G μ _ _ _ hd)] at hP1
  · exact kk r μ' hF H1 locs1 ls hP1 hS1 hl hC
  · simp [h_wi, h_wl, vp_nar_byte, h_i2b, h_nar_z]
theorem r_bast (hg : HGood cx own b nL lv rt) {i : Int32} {x : Int32} {a : Nat} (ha : a < h_N) (hk : h_kd a = 2) (hd : decode b pc = .ok (.bastore, 1)) (kk : HX cx Qf F k n (pc + 1) l st (h_wi μ a i.toNatClampNeg (h_i2b x))) : HX cx Qf (h_chk i (h_len a) F) k n pc l (.int x :: .int i :: .ref a :: st) μ := by
  obtain ⟨p, lc, e, Rm, s, m, args, below, meth, c, G, A'⟩ := cx
  intro r μ' hF H locs ls hP hS hl hC
  obtain ⟨hi, hF⟩ := h_chk_some hF
  refine va_bast hg.1 hg.2.1 hg.2.2.2.2.2.1 hP (h_D hg.2.2.2.2.2.2.1 hg.2.2.2.2.2.2.2.1 μ) hS a 1 ((h_ws_at G μ ha).trans (by rw [h_cell_2 G μ hk])) rfl hi hd (fun H1 locs1 hP1 _ hS1 => ?_)
  rw [h_ws_set G μ (h_wi μ a i.toNatClampNeg (h_i2b x)) ha ((h_cell_2 G _ hk).trans ?_) (fun d hd => h_cell_wi G μ _ _ _ hd)] at hP1
  · exact kk r μ' hF H1 locs1 ls hP1 hS1 hl hC
  · simp [h_wi, h_wl, vp_nar_byte, h_i2b, h_nar_z]
theorem r_zast (hg : HGood cx own b nL lv rt) {i : Int32} {x : Int32} {a : Nat} (ha : a < h_N) (hk : h_kd a = 3) (hd : decode b pc = .ok (.bastore, 1)) (kk : HX cx Qf F k n (pc + 1) l st (h_wi μ a i.toNatClampNeg (x &&& 1))) : HX cx Qf (h_chk i (h_len a) F) k n pc l (.int x :: .int i :: .ref a :: st) μ := by
  obtain ⟨p, lc, e, Rm, s, m, args, below, meth, c, G, A'⟩ := cx
  intro r μ' hF H locs ls hP hS hl hC
  obtain ⟨hi, hF⟩ := h_chk_some hF
  refine va_zast hg.1 hg.2.1 hg.2.2.2.2.2.1 hP (h_D hg.2.2.2.2.2.2.1 hg.2.2.2.2.2.2.2.1 μ) hS a 2 ((h_ws_at G μ ha).trans (by rw [h_cell_3 G μ hk])) rfl hi hd (fun H1 locs1 hP1 _ hS1 => ?_)
  rw [h_ws_set G μ (h_wi μ a i.toNatClampNeg (x &&& 1)) ha ((h_cell_3 G _ hk).trans ?_) (fun d hd => h_cell_wi G μ _ _ _ hd)] at hP1
  · exact kk r μ' hF H1 locs1 ls hP1 hS1 hl hC
  · simp [h_wi, h_wl, vp_nar_byte, h_i2b, h_nar_z]
theorem r_last (hg : HGood cx own b nL lv rt) {i : Int32} {x : Int64} {a : Nat} (ha : a < h_N) (hk : h_kd a = 4) (hd : decode b pc = .ok (.lastore, 1)) (kk : HX cx Qf F k n (pc + 1) l st (h_wl μ a i.toNatClampNeg x)) : HX cx Qf (h_chk i (h_len a) F) k n pc l (.long x :: .int i :: .ref a :: st) μ := by
  obtain ⟨p, lc, e, Rm, s, m, args, below, meth, c, G, A'⟩ := cx
  intro r μ' hF H locs ls hP hS hl hC
  obtain ⟨hi, hF⟩ := h_chk_some hF
  refine va_last hg.1 hg.2.1 hg.2.2.2.2.2.1 hP (h_D hg.2.2.2.2.2.2.1 hg.2.2.2.2.2.2.2.1 μ) hS a 3 ((h_ws_at G μ ha).trans (by rw [h_cell_4 G μ hk])) rfl hi hd (fun H1 locs1 hP1 _ hS1 => ?_)
  rw [h_ws_set G μ (h_wl μ a i.toNatClampNeg x) ha ((h_cell_4 G _ hk).trans ?_) (fun d hd => h_cell_wl G μ _ _ _ hd)] at hP1
  · exact kk r μ' hF H1 locs1 ls hP1 hS1 hl hC
  · simp [h_wi, h_wl, vp_nar_byte, h_i2b, h_nar_z]
theorem r_alen1 (hg : HGood cx own b nL lv rt) {a : Nat} (ha : a < h_N) (hk : h_kd a = 1) (hd : decode b pc = .ok (.arraylength, 1)) (kk : HX cx Qf F k n (pc + 1) l (.int (nI (h_len a)) :: st) μ) : HX cx Qf F k n pc l (.ref a :: st) μ := by
  obtain ⟨p, lc, e, Rm, s, m, args, below, meth, c, G, A'⟩ := cx
  intro r μ' hF H locs ls hP hS hl hC
  refine va_alen hg.1 hg.2.1 hg.2.2.2.2.2.1 hP a 0 ((h_ws_at G μ ha).trans (by rw [h_cell_1 G μ hk])) rfl rfl hd ?_
  exact kk r μ' hF H locs ls hP hS hl hC
theorem r_alen2 (hg : HGood cx own b nL lv rt) {a : Nat} (ha : a < h_N) (hk : h_kd a = 2) (hd : decode b pc = .ok (.arraylength, 1)) (kk : HX cx Qf F k n (pc + 1) l (.int (nI (h_len a)) :: st) μ) : HX cx Qf F k n pc l (.ref a :: st) μ := by
  obtain ⟨p, lc, e, Rm, s, m, args, below, meth, c, G, A'⟩ := cx
  intro r μ' hF H locs ls hP hS hl hC
  refine va_alen hg.1 hg.2.1 hg.2.2.2.2.2.1 hP a 1 ((h_ws_at G μ ha).trans (by rw [h_cell_2 G μ hk])) rfl rfl hd ?_
  exact kk r μ' hF H locs ls hP hS hl hC
theorem r_alen3 (hg : HGood cx own b nL lv rt) {a : Nat} (ha : a < h_N) (hk : h_kd a = 3) (hd : decode b pc = .ok (.arraylength, 1)) (kk : HX cx Qf F k n (pc + 1) l (.int (nI (h_len a)) :: st) μ) : HX cx Qf F k n pc l (.ref a :: st) μ := by
  obtain ⟨p, lc, e, Rm, s, m, args, below, meth, c, G, A'⟩ := cx
  intro r μ' hF H locs ls hP hS hl hC
  refine va_alen hg.1 hg.2.1 hg.2.2.2.2.2.1 hP a 2 ((h_ws_at G μ ha).trans (by rw [h_cell_3 G μ hk])) rfl rfl hd ?_
  exact kk r μ' hF H locs ls hP hS hl hC
theorem r_alen4 (hg : HGood cx own b nL lv rt) {a : Nat} (ha : a < h_N) (hk : h_kd a = 4) (hd : decode b pc = .ok (.arraylength, 1)) (kk : HX cx Qf F k n (pc + 1) l (.int (nI (h_len a)) :: st) μ) : HX cx Qf F k n pc l (.ref a :: st) μ := by
  obtain ⟨p, lc, e, Rm, s, m, args, below, meth, c, G, A'⟩ := cx
  intro r μ' hF H locs ls hP hS hl hC
  refine va_alen hg.1 hg.2.1 hg.2.2.2.2.2.1 hP a 3 ((h_ws_at G μ ha).trans (by rw [h_cell_4 G μ hk])) rfl rfl hd ?_
  exact kk r μ' hF H locs ls hP hS hl hC
theorem r_alen5 (hg : HGood cx own b nL lv rt) {a : Nat} (ha : a < h_N) (hk : h_kd a = 5) (hd : decode b pc = .ok (.arraylength, 1)) (kk : HX cx Qf F k n (pc + 1) l (.int (nI (h_len a)) :: st) μ) : HX cx Qf F k n pc l (.ref a :: st) μ := by
  obtain ⟨p, lc, e, Rm, s, m, args, below, meth, c, G, A'⟩ := cx
  intro r μ' hF H locs ls hP hS hl hC
  refine va_alen hg.1 hg.2.1 hg.2.2.2.2.2.1 hP a 4 ((h_ws_at G μ ha).trans (by rw [h_cell_5 G μ hk])) rfl rfl hd ?_
  exact kk r μ' hF H locs ls hP hS hl hC
theorem r_alen6 (hg : HGood cx own b nL lv rt) {a : Nat} (ha : a < h_N) (hk : h_kd a = 6) (hd : decode b pc = .ok (.arraylength, 1)) (kk : HX cx Qf F k n (pc + 1) l (.int (nI (h_len a)) :: st) μ) : HX cx Qf F k n pc l (.ref a :: st) μ := by
  obtain ⟨p, lc, e, Rm, s, m, args, below, meth, c, G, A'⟩ := cx
  intro r μ' hF H locs ls hP hS hl hC
  refine va_alen hg.1 hg.2.1 hg.2.2.2.2.2.1 hP a 5 ((h_ws_at G μ ha).trans (by rw [h_cell_6 G μ hk])) rfl rfl hd ?_
  exact kk r μ' hF H locs ls hP hS hl hC
theorem r_rald (hg : HGood cx own b nL lv rt) {i : Int32} {a : Nat} (ha : a < h_N) (hk : h_kd a = 6) (hd : decode b pc = .ok (.aaload, 1)) (kk : i.toNatClampNeg < h_len a → HX cx Qf F k n (pc + 1) l (.ref (h_el a i.toNatClampNeg) :: st) μ) : HX cx Qf (h_chk i (h_len a) F) k n pc l (.int i :: .ref a :: st) μ := by
  obtain ⟨p, lc, e, Rm, s, m, args, below, meth, c, G, A'⟩ := cx
  intro r μ' hF H locs ls hP hS hl hC
  obtain ⟨hi, hF⟩ := h_chk_some hF
  have hlt : i.toNatClampNeg < h_len a := Nat.not_le.mp fun q => hi (Or.inr q)
  have hP0 := hP a _ (h_ws_at G μ ha)
  rw [h_cell_6 G μ hk] at hP0
  refine W.aald (v := .ref (G.2.2 (h_el a i.toNatClampNeg))) (ty := .array .int) hg.1 hg.2.1 hP0 ((hg.2.2.2.2.2.1.2 5 _ rfl).1 (h_len a) (fun j => va_rf (some (G.2.2 (h_el a j))))) rfl (fun q => by cases q) (by show ¬ (i < 0 ∨ (arrV _ _ _).slots.size ≤ _); rw [arrV_size]; exact hi) (by show (arrV _ _ _).slots[_]? = _; rw [arrV_read _ _ hlt]; rfl) rfl rfl hd ?_
  exact kk hlt r μ' hF H locs ls hP hS hl hC
theorem h_fl_at (G : HGeo) (μ : HMem) (c k : Nat) {q : Nat × Nat} (hf : (h_fl c)[k]? = some q) : ((h_fl c).mapIdx (fun k q => h_fv G μ c k q))[k]? = some (h_fv G μ c k q) := by rw [List.getElem?_mapIdx, hf]; rfl
/-- what a class of the world needs: its place, its fields' words -/
def h_cls (ci : Nat) (C : String) (T : u_T) (N : Nat) : Prop := h_cl[ci]? = some (C, T, N) ∧ ∀ w ∈ u_ws C T N, w ∈ h_tb
theorem r_get (hg : HGood cx own b nL lv rt) {a ci j idx t id N : Nat} {C : String} {T : u_T} (hc : h_cls ci C T N) (ha : a < h_N) (hk : h_kd a = 10 + ci) (hj : j < N) (hf : (h_fl a)[j]? = some (t, id)) (hw : Cond.fieldLink own idx (T j).1 (T j).2.1 (T j).2.2.1 ∈ h_tb) (hd : decode b pc = .ok (.getfield idx, 3)) {v : Value} (hv : (match t with | 0 => Value.int (μ.1 a j) | 1 => .long (μ.2 a j) | _ => .ref id) = v) (kk : HX cx Qf F k n (pc + 3) l (v :: st) μ) : HX cx Qf F k n pc l (.ref a :: st) μ := by
  obtain ⟨p, lc, e, Rm, s, m, args, below, meth, c, G, A'⟩ := cx
  intro r μ' hF H locs ls hP hS hl hC
  refine va_get hg.1 hg.2.1 hg.2.2.2.2.1 hc.2 hg.2.2.2.1 hg.2.2.2.2.2.1 hP a ((h_ws_at G μ ha).trans (by rw [h_cell_o G μ hk])) hc.1 j hj (hg.2.2.2.2.1 _ hw) (fun x h => h) (h_fl_at G μ a j hf) hd ?_
  have e : h_fv G μ a j (t, id) = h_tr G v := by
    rw [← hv]
    match t with
    | 0 => rfl
    | 1 => rfl
    | t + 2 => simp [h_fv, h_tr]
  rw [e]
  exact kk r μ' hF H locs ls hP hS hl hC
theorem r_put (hg : HGood cx own b nL lv rt) {a ci j idx id N : Nat} {x : Int32} {C : String} {T : u_T} {ty0 : Nat → FieldType} (hc : h_cls ci C T N) (hty : ∀ k, k < N → parseFieldDescriptor (T k).2.2.1 = some (ty0 k)) (hnm : ∀ a, a < N → ∀ b, b < N → a ≠ b → (T a).2.1 ≠ (T b).2.1) (ha : a < h_N) (hk : h_kd a = 10 + ci) (hj : j < N) (hf : (h_fl a)[j]? = some (0, id)) (hfin : (T j).2.2.2 = false) (hdt : parseFieldDescriptor (T j).2.2.1 = some .int) (hw : Cond.fieldLink own idx (T j).1 (T j).2.1 (T j).2.2.1 ∈ h_tb) (hd : decode b pc = .ok (.putfield idx, 3)) (kk : HX cx Qf F k n (pc + 3) l st (h_wi μ a j x)) : HX cx Qf F k n pc l (.int x :: .ref a :: st) μ := by
  obtain ⟨p, lc, e, Rm, s, m, args, below, meth, c, G, A'⟩ := cx
  intro r μ' hF H locs ls hP hS hl hC
  refine va_put (ty := .int) (v := .int x) hg.1 hg.2.1 hg.2.2.2.2.1 hc.2 ty0 hty hnm hg.2.2.2.1 hg.2.2.2.2.2.1 hP (h_D hg.2.2.2.2.2.2.1 hg.2.2.2.2.2.2.2.1 μ) hS a ((h_ws_at G μ ha).trans (by rw [h_cell_o G μ hk])) hc.1 j hj (hg.2.2.2.2.1 _ hw) (fun x h => h) hfin hdt rfl rfl (by have := (List.getElem?_eq_some_iff.mp hf).1; simpa using this) hd (fun H1 locs1 hP1 _ hS1 => ?_)
  rw [h_ws_set G μ (h_wi μ a j x) ha ((h_cell_o G _ hk).trans ?_) (fun d hd => h_cell_wi G μ _ _ _ hd)] at hP1
  · exact kk r μ' hF H1 locs1 ls hP1 hS1 hl hC
  · rw [h_set_i G μ a j x hf]
theorem r_putJ (hg : HGood cx own b nL lv rt) {a ci j idx id N : Nat} {x : Int64} {C : String} {T : u_T} {ty0 : Nat → FieldType} (hc : h_cls ci C T N) (hty : ∀ k, k < N → parseFieldDescriptor (T k).2.2.1 = some (ty0 k)) (hnm : ∀ a, a < N → ∀ b, b < N → a ≠ b → (T a).2.1 ≠ (T b).2.1) (ha : a < h_N) (hk : h_kd a = 10 + ci) (hj : j < N) (hf : (h_fl a)[j]? = some (1, id)) (hfin : (T j).2.2.2 = false) (hdt : parseFieldDescriptor (T j).2.2.1 = some .long) (hw : Cond.fieldLink own idx (T j).1 (T j).2.1 (T j).2.2.1 ∈ h_tb) (hd : decode b pc = .ok (.putfield idx, 3)) (kk : HX cx Qf F k n (pc + 3) l st (h_wl μ a j x)) : HX cx Qf F k n pc l (.long x :: .ref a :: st) μ := by
  obtain ⟨p, lc, e, Rm, s, m, args, below, meth, c, G, A'⟩ := cx
  intro r μ' hF H locs ls hP hS hl hC
  refine va_put (ty := .long) (v := .long x) hg.1 hg.2.1 hg.2.2.2.2.1 hc.2 ty0 hty hnm hg.2.2.2.1 hg.2.2.2.2.2.1 hP (h_D hg.2.2.2.2.2.2.1 hg.2.2.2.2.2.2.2.1 μ) hS a ((h_ws_at G μ ha).trans (by rw [h_cell_o G μ hk])) hc.1 j hj (hg.2.2.2.2.1 _ hw) (fun x h => h) hfin hdt rfl rfl (by have := (List.getElem?_eq_some_iff.mp hf).1; simpa using this) hd (fun H1 locs1 hP1 _ hS1 => ?_)
  rw [h_ws_set G μ (h_wl μ a j x) ha ((h_cell_o G _ hk).trans ?_) (fun d hd => h_cell_wl G μ _ _ _ hd)] at hP1
  · exact kk r μ' hF H1 locs1 ls hP1 hS1 hl hC
  · rw [h_set_l G μ a j x hf]
/-- names in a program -/
def h_let {α β : Type} (x : α) (f : α → β) : β := f x
def h_bd {R R' : Type} (F : Option (R' × HMem)) (K : R' → HMem → Option (R × HMem)) : Option (R × HMem) := F.bind (fun o => K o.1 o.2)
theorem r_letI {e : Int32} {F : Int32 → Option (R × HMem)} (kk : ∀ v : Int32, HX cx Qf (F v) k n pc l (.int v :: st) μ) : HX cx Qf (h_let e F) k n pc l (.int e :: st) μ := kk e
theorem r_letJ {e : Int64} {F : Int64 → Option (R × HMem)} (kk : ∀ v : Int64, HX cx Qf (F v) k n pc l (.long v :: st) μ) : HX cx Qf (h_let e F) k n pc l (.long e :: st) μ := kk e
theorem r_letE {e : Int32} {F : Int32 → Option (R × HMem)} (kk : ∀ v : Int32, e = v → HX cx Qf (F v) k n pc l st μ) : HX cx Qf (h_let e F) k n pc l st μ := kk e rfl
theorem r_letM {F : HMem → Option (R × HMem)} (kk : ∀ μ1 : HMem, HX cx Qf (F μ1) k n pc l st μ1) : HX cx Qf (h_let μ F) k n pc l st μ := kk μ
theorem h_ite {C : Prop} [Decidable C] (kt : C → HX cx Qf A k n pc l st μ) (kf : ¬ C → HX cx Qf B k n pc l st μ) : HX cx Qf (if C then A else B) k n pc l st μ := by
  by_cases h : C
  · rw [if_pos h]; exact kt h
  · rw [if_neg h]; exact kf h
theorem r_tswOut (hg : HGood cx own b nL lv rt) {dflt lo hi : Int} {offs : Array Int} {len : Nat} {x : Int32} {tgt : Nat} (hd : decode b pc = .ok (.tableswitch dflt lo hi offs, len)) (h : x.toInt < lo ∨ hi < x.toInt) (ht : (pc : Int) + dflt = (tgt : Int)) (kk : HX cx Qf F k n tgt l st μ) : HX cx Qf F k n pc l (.int x :: st) μ := by
  obtain ⟨p, lc, e, Rm, s, m, args, below, meth, c, G, A'⟩ := cx
  intro r μ' hF H locs ls hP hS hl hC
  exact lv_tableOut hg.1 hg.2.1 hd h ht (kk r μ' hF H locs ls hP hS hl hC)
theorem r_tswIn (hg : HGood cx own b nL lv rt) {dflt lo hi off : Int} {offs : Array Int} {len : Nat} {x y : Int32} {tgt : Nat} (hd : decode b pc = .ok (.tableswitch dflt lo hi offs, len)) (he : x = y) (h1 : ¬ y.toInt < lo) (h2 : ¬ hi < y.toInt) (ho : offs[(y.toInt - lo).toNat]? = some off) (ht : (pc : Int) + off = (tgt : Int)) (kk : HX cx Qf F k n tgt l st μ) : HX cx Qf F k n pc l (.int x :: st) μ := by
  obtain ⟨p, lc, e, Rm, s, m, args, below, meth, c, G, A'⟩ := cx
  subst he
  intro r μ' hF H locs ls hP hS hl hC
  exact lv_tableIn hg.1 hg.2.1 hd h1 h2 ho ht (kk r μ' hF H locs ls hP hS hl hC)
theorem r_lswIn (hg : HGood cx own b nL lv rt) {dflt off : Int} {ps : Array (Int × Int)} {len : Nat} {x y : Int32} {tgt : Nat} (hd : decode b pc = .ok (.lookupswitch dflt ps, len)) (he : x = y) (hp : (ps.toList.zip (ps.toList.drop 1)).all (fun (a, next) => a.1 < next.1) = true) (ho : Op.lookupswitch.offset ps.toList dflt y.toInt = off) (ht : (pc : Int) + off = (tgt : Int)) (kk : HX cx Qf F k n tgt l st μ) : HX cx Qf F k n pc l (.int x :: st) μ := by
  obtain ⟨p, lc, e, Rm, s, m, args, below, meth, c, G, A'⟩ := cx
  subst he
  intro r μ' hF H locs ls hP hS hl hC
  exact lv_lookup hg.1 hg.2.1 hd hp ho ht (kk r μ' hF H locs ls hP hS hl hC)
theorem r_lswOut (hg : HGood cx own b nL lv rt) {dflt off : Int} {ps : Array (Int × Int)} {len : Nat} {x : Int32} {tgt : Nat} (hd : decode b pc = .ok (.lookupswitch dflt ps, len)) (hp : (ps.toList.zip (ps.toList.drop 1)).all (fun (a, next) => a.1 < next.1) = true) (ho : Op.lookupswitch.offset ps.toList dflt x.toInt = off) (ht : (pc : Int) + off = (tgt : Int)) (kk : HX cx Qf F k n tgt l st μ) : HX cx Qf F k n pc l (.int x :: st) μ := by
  obtain ⟨p, lc, e, Rm, s, m, args, below, meth, c, G, A'⟩ := cx
  intro r μ' hF H locs ls hP hS hl hC
  exact lv_lookup hg.1 hg.2.1 hd hp ho ht (kk r μ' hF H locs ls hP hS hl hC)
/-- refs of a kind -/
def HIsG (g : Nat) : Prop := g < 84 ∧ g % 4 = 0
def HIsI (a : Nat) : Prop := a < h_N ∧ h_kd a = 1
def HIsL (a : Nat) : Prop := a < h_N ∧ h_kd a = 4
theorem h_G_c (n : Nat) (h : n < 84 ∧ n % 4 = 0) : HIsG n := h
theorem h_G_lt {g : Nat} (h : HIsG g) : g < h_N := by have := h.1; unfold h_N; omega
theorem h_G_lt1 {g : Nat} (h : HIsG g) : g + 1 < h_N := by have := h.1; unfold h_N; omega
theorem h_G_lt2 {g : Nat} (h : HIsG g) : g + 2 < h_N := by have := h.1; unfold h_N; omega
theorem h_G_lt3 {g : Nat} (h : HIsG g) : g + 3 < h_N := by have := h.1; unfold h_N; omega
theorem h_G_kd {g : Nat} (h : HIsG g) : h_kd g = 10 := by
  obtain ⟨h1, h2⟩ := h
  simp [h_kd, h1, h2]
theorem h_G_kd1 {g : Nat} (h : HIsG g) : h_kd (g + 1) = 1 := by
  obtain ⟨h1, h2⟩ := h
  have h3 : g + 1 < 84 := by omega
  have h4 : ¬ (g + 1) % 4 = 0 := by omega
  simp [h_kd, h3, h4]
theorem h_G_kd2 {g : Nat} (h : HIsG g) : h_kd (g + 2) = 1 := by
  obtain ⟨h1, h2⟩ := h
  have h3 : g + 2 < 84 := by omega
  have h4 : ¬ (g + 2) % 4 = 0 := by omega
  simp [h_kd, h3, h4]
theorem h_G_kd3 {g : Nat} (h : HIsG g) : h_kd (g + 3) = 1 := by
  obtain ⟨h1, h2⟩ := h
  have h3 : g + 3 < 84 := by omega
  have h4 : ¬ (g + 3) % 4 = 0 := by omega
  simp [h_kd, h3, h4]
theorem h_G_fl {g : Nat} (h : HIsG g) : h_fl g = [(0, 0), (2, g + 1), (2, g + 2), (2, g + 3)] := by simp [h_fl, h.1]
theorem h_G_fl0 {g : Nat} (h : HIsG g) : (h_fl g)[0]? = some (0, 0) := by rw [h_G_fl h]; rfl
theorem h_G_fl1 {g : Nat} (h : HIsG g) : (h_fl g)[1]? = some (2, g + 1) := by rw [h_G_fl h]; rfl
theorem h_G_fl2 {g : Nat} (h : HIsG g) : (h_fl g)[2]? = some (2, g + 2) := by rw [h_G_fl h]; rfl
theorem h_G_fl3 {g : Nat} (h : HIsG g) : (h_fl g)[3]? = some (2, g + 3) := by rw [h_G_fl h]; rfl
theorem h_G_len1 {g : Nat} (h : HIsG g) : h_len (g + 1) = 8 := by
  obtain ⟨h1, h2⟩ := h
  have h3 : g + 1 < 84 := by omega
  have h4 : ¬ (g + 1) % 4 = 2 := by omega
  simp [h_len, h3, h4]
theorem h_G_len2 {g : Nat} (h : HIsG g) : h_len (g + 2) = 64 := by
  obtain ⟨h1, h2⟩ := h
  have h3 : g + 2 < 84 := by omega
  have h4 : (g + 2) % 4 = 2 := by omega
  simp [h_len, h3, h4]
theorem h_G_len3 {g : Nat} (h : HIsG g) : h_len (g + 3) = 8 := by
  obtain ⟨h1, h2⟩ := h
  have h3 : g + 3 < 84 := by omega
  have h4 : ¬ (g + 3) % 4 = 2 := by omega
  simp [h_len, h3, h4]
theorem h_el_G85 {i : Nat} (h : i < h_len 85) : HIsG (h_el 85 i) := by
  have h1 : i < 4 := h
  unfold HIsG h_el
  simp only [if_true]
  omega
theorem h_el_G87 {i : Nat} (h : i < h_len 87) : HIsG (h_el 87 i) := by
  have h1 : i < 16 := h
  have e : h_el 87 i = 20 + 4 * i := rfl
  unfold HIsG
  rw [e]
  omega
theorem h_el_A {i : Nat} (h : i < h_len 107) : HIsI (h_el 107 i) := by
  have h1 : i < 9 := h
  have e : h_el 107 i = 108 + i := rfl
  rw [e]
  have k : ∀ i, i < 9 → HIsI (108 + i) := by unfold HIsI; decide
  exact k i h1
theorem h_w4 {a b c d : Cond} (ha : a ∈ h_tb) (hb : b ∈ h_tb) (hc : c ∈ h_tb) (hd : d ∈ h_tb) : ∀ w ∈ ([a, b, c, d] : List Cond), w ∈ h_tb := by
  intro w hw
  simp only [List.mem_cons, List.not_mem_nil, or_false] at hw
  rcases hw with rfl | rfl | rfl | rfl <;> assumption
def h_fuel : Nat := 1000000000000
abbrev h_deep : Nat := 16
def h_eI : Int32 → Option Value := fun r => some (.int r)
def h_eJ : Int64 → Option Value := fun r => some (.long r)
def h_eV : Unit → Option Value := fun _ => none
def h_eR : Nat → Option Value := fun r => some (.ref r)
theorem c_Graph : h_cls 0 R_Graph F_Graph 4 := ⟨rfl, i_Graph⟩
theorem c_Bench : h_cls 1 R_Bench F_Bench 11 := ⟨rfl, i_Bench⟩
theorem c_History : h_cls 2 R_History F_History 3 := ⟨rfl, i_History⟩
theorem c_Text : h_cls 3 R_Text F_Text 3 := ⟨rfl, i_Text⟩
theorem c_Script : h_cls 4 R_Script F_Script 2 := ⟨rfl, i_Script⟩
theorem c_Elimination : h_cls 5 R_Elimination F_Elimination 6 := ⟨rfl, i_Elimination⟩
theorem c_MapSums : h_cls 6 R_MapSums F_MapSums 7 := ⟨rfl, i_MapSums⟩
theorem c_HomSearch : h_cls 7 R_HomSearch F_HomSearch 5 := ⟨rfl, i_HomSearch⟩
theorem c_Bijections : h_cls 8 R_Bijections F_Bijections 3 := ⟨rfl, i_Bijections⟩
theorem c_Walks : h_cls 9 R_Walks F_Walks 2 := ⟨rfl, i_Walks⟩
theorem c_Model : h_cls 10 R_Model F_Model 26 := ⟨rfl, i_Model⟩
def R_Integer : String := "java/lang/Integer"
def R_Long : String := "java/lang/Long"
def R_Math : String := "java/lang/Math"
def R_Arrays : String := "java/util/Arrays"
def R_Law : String := "HomBenchLaw"
end HR2

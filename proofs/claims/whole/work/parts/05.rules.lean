section Rules2
variable {l : Launch} {C : Ct} {mi : Nat} {M : Mi} {d pc : Nat} {ls : List (Nat × Tv)} {st : List Tv} {h h' : Hp} {r : Option Tv}
theorem z_iadd {x y : Int32} (hd : decode M.2.1 pc = .ok (.iadd, 1)) (k : Z l C mi M d (pc + 1) ls (vi (x + y) :: st) h r h') : Z l C mi M d pc ls (vi y :: vi x :: st) h r h' :=
  z_of k fun p e R s m args below meth c H locs cells slots lv Q X P S L kk => lv_iadd X.1 X.2.1 hd (kk lv L)
theorem z_isub {x y : Int32} (hd : decode M.2.1 pc = .ok (.isub, 1)) (k : Z l C mi M d (pc + 1) ls (vi (x - y) :: st) h r h') : Z l C mi M d pc ls (vi y :: vi x :: st) h r h' :=
  z_of k fun p e R s m args below meth c H locs cells slots lv Q X P S L kk => lv_isub X.1 X.2.1 hd (kk lv L)
theorem z_imul {x y : Int32} (hd : decode M.2.1 pc = .ok (.imul, 1)) (k : Z l C mi M d (pc + 1) ls (vi (x * y) :: st) h r h') : Z l C mi M d pc ls (vi y :: vi x :: st) h r h' :=
  z_of k fun p e R s m args below meth c H locs cells slots lv Q X P S L kk => lv_imul X.1 X.2.1 hd (kk lv L)
theorem z_iand {x y : Int32} (hd : decode M.2.1 pc = .ok (.iand, 1)) (k : Z l C mi M d (pc + 1) ls (vi (x &&& y) :: st) h r h') : Z l C mi M d pc ls (vi y :: vi x :: st) h r h' :=
  z_of k fun p e R s m args below meth c H locs cells slots lv Q X P S L kk => lv_iand X.1 X.2.1 hd (kk lv L)
theorem z_ior {x y : Int32} (hd : decode M.2.1 pc = .ok (.ior, 1)) (k : Z l C mi M d (pc + 1) ls (vi (x ||| y) :: st) h r h') : Z l C mi M d pc ls (vi y :: vi x :: st) h r h' :=
  z_of k fun p e R s m args below meth c H locs cells slots lv Q X P S L kk => lv_ior X.1 X.2.1 hd (kk lv L)
theorem z_ixor {x y : Int32} (hd : decode M.2.1 pc = .ok (.ixor, 1)) (k : Z l C mi M d (pc + 1) ls (vi (x ^^^ y) :: st) h r h') : Z l C mi M d pc ls (vi y :: vi x :: st) h r h' :=
  z_of k fun p e R s m args below meth c H locs cells slots lv Q X P S L kk => lv_ixor X.1 X.2.1 hd (kk lv L)
theorem z_ishl {x y : Int32} (hd : decode M.2.1 pc = .ok (.ishl, 1)) (k : Z l C mi M d (pc + 1) ls (vi (x <<< (y &&& 31)) :: st) h r h') : Z l C mi M d pc ls (vi y :: vi x :: st) h r h' :=
  z_of k fun p e R s m args below meth c H locs cells slots lv Q X P S L kk => lv_ishl X.1 X.2.1 hd (kk lv L)
theorem z_ishr {x y : Int32} (hd : decode M.2.1 pc = .ok (.ishr, 1)) (k : Z l C mi M d (pc + 1) ls (vi (x >>> (y &&& 31)) :: st) h r h') : Z l C mi M d pc ls (vi y :: vi x :: st) h r h' :=
  z_of k fun p e R s m args below meth c H locs cells slots lv Q X P S L kk => lv_ishr X.1 X.2.1 hd (kk lv L)
def ushr (x y : Int32) : Int32 := (x.toUInt32 >>> (y.toUInt32 &&& Int32.toUInt32 31)).toInt32
theorem z_iushr {x y : Int32} (hd : decode M.2.1 pc = .ok (.iushr, 1)) (k : Z l C mi M d (pc + 1) ls (vi (ushr x y) :: st) h r h') : Z l C mi M d pc ls (vi y :: vi x :: st) h r h' :=
  z_of k fun p e R s m args below meth c H locs cells slots lv Q X P S L kk => lv_iushr X.1 X.2.1 hd rfl (kk lv L)
theorem z_idiv {x y : Int32} (hd : decode M.2.1 pc = .ok (.idiv, 1)) (hne : ¬ y = 0) (k : Z l C mi M d (pc + 1) ls (vi (x / y) :: st) h r h') : Z l C mi M d pc ls (vi y :: vi x :: st) h r h' :=
  z_of k fun p e R s m args below meth c H locs cells slots lv Q X P S L kk => lv_idiv X.1 X.2.1 hd hne (kk lv L)
theorem z_irem {x y : Int32} (hd : decode M.2.1 pc = .ok (.irem, 1)) (hne : ¬ y = 0) (k : Z l C mi M d (pc + 1) ls (vi (x - x / y * y) :: st) h r h') : Z l C mi M d pc ls (vi y :: vi x :: st) h r h' :=
  z_of k fun p e R s m args below meth c H locs cells slots lv Q X P S L kk => lv_irem X.1 X.2.1 hd hne (kk lv L)
theorem z_i2l {x : Int32} (hd : decode M.2.1 pc = .ok (.i2l, 1)) (k : Z l C mi M d (pc + 1) ls (vl x.toInt64 :: st) h r h') : Z l C mi M d pc ls (vi x :: st) h r h' :=
  z_of k fun p e R s m args below meth c H locs cells slots lv Q X P S L kk => lv_i2l X.1 X.2.1 hd rfl (kk lv L)
theorem z_l2i {x : Int64} (hd : decode M.2.1 pc = .ok (.l2i, 1)) (k : Z l C mi M d (pc + 1) ls (vi x.toInt32 :: st) h r h') : Z l C mi M d pc ls (vl x :: st) h r h' :=
  z_of k fun p e R s m args below meth c H locs cells slots lv Q X P S L kk => lv_l2i X.1 X.2.1 hd rfl (kk lv L)
theorem z_lcmp {x y : Int64} (hd : decode M.2.1 pc = .ok (.lcmp, 1)) (k : Z l C mi M d (pc + 1) ls (vi (lg_cmp x y) :: st) h r h') : Z l C mi M d pc ls (vl y :: vl x :: st) h r h' :=
  z_of k fun p e R s m args below meth c H locs cells slots lv Q X P S L kk => W.lcmp X.1 X.2.1 hd (kk lv L)
theorem z_dup {x : Tv} (hd : decode M.2.1 pc = .ok (.dup, 1)) (hx : cat2 x = false) (k : Z l C mi M d (pc + 1) ls (x :: x :: st) h r h') : Z l C mi M d pc ls (x :: st) h r h' :=
  z_of k fun p e R s m args below meth c H locs cells slots lv Q X P S L kk => lv_dup X.1 X.2.1 hd (tv_cat1 hx) (kk lv L)
theorem z_pop {x : Tv} (hd : decode M.2.1 pc = .ok (.pop, 1)) (hx : cat2 x = false) (k : Z l C mi M d (pc + 1) ls st h r h') : Z l C mi M d pc ls (x :: st) h r h' :=
  z_of k fun p e R s m args below meth c H locs cells slots lv Q X P S L kk => lv_pop X.1 X.2.1 hd (tv_cat1 hx) (kk lv L)
theorem z_dup_x1 {x y : Tv} (hd : decode M.2.1 pc = .ok (.dup_x1, 1)) (hx : cat2 x = false) (hy : cat2 y = false) (k : Z l C mi M d (pc + 1) ls (x :: y :: x :: st) h r h') : Z l C mi M d pc ls (x :: y :: st) h r h' :=
  z_of k fun p e R s m args below meth c H locs cells slots lv Q X P S L kk => lv_dup_x1 X.1 X.2.1 hd (tv_cat1 hx) (tv_cat1 hy) (kk lv L)
theorem z_dup2 {x y : Tv} (hd : decode M.2.1 pc = .ok (.dup2, 1)) (hx : cat2 x = false) (hy : cat2 y = false) (k : Z l C mi M d (pc + 1) ls (x :: y :: x :: y :: st) h r h') : Z l C mi M d pc ls (x :: y :: st) h r h' :=
  z_of k fun p e R s m args below meth c H locs cells slots lv Q X P S L kk => lv_dup2_11 X.1 X.2.1 hd (tv_cat1 hx) (tv_cat1 hy) (kk lv L)
theorem z_goto {off : Int} {tgt : Nat} (hd : decode M.2.1 pc = .ok (.goto off, 3)) (ht : (pc : Int) + off = (tgt : Int)) (k : Z l C mi M d tgt ls st h r h') : Z l C mi M d pc ls st h r h' :=
  z_of k fun p e R s m args below meth c H locs cells slots lv Q X P S L kk => lv_goto X.1 X.2.1 hd ht (kk lv L)
theorem z_if_eq {x : Int32} {off : Int} {tgt : Nat} (hd : decode M.2.1 pc = .ok (.ifCond .eq off, 3)) (ht : (pc : Int) + off = (tgt : Int)) (kt : (x = 0) → Z l C mi M d tgt ls st h r h') (kf : ¬ x = 0 → Z l C mi M d (pc + 3) ls st h r h') : Z l C mi M d pc ls (vi x :: st) h r h' := by
  by_cases q : (x = 0)
  · have k := kt q
    exact ⟨k.1, k.2.1, fun p e R s m args below meth c H locs lv Q n0 s0 X P S z1 z2 L a1 a2 a3 a4 hend => lv_if_eq X.1 X.2.1 hd ht (fun q2 => k.2.2 p e R s m args below meth c H locs lv Q n0 s0 X P S z1 z2 L a1 a2 a3 a4 hend) (fun q2 => absurd q q2)⟩
  · have k := kf q
    exact ⟨k.1, k.2.1, fun p e R s m args below meth c H locs lv Q n0 s0 X P S z1 z2 L a1 a2 a3 a4 hend => lv_if_eq X.1 X.2.1 hd ht (fun q2 => absurd q2 q) (fun q2 => k.2.2 p e R s m args below meth c H locs lv Q n0 s0 X P S z1 z2 L a1 a2 a3 a4 hend)⟩
theorem z_if_ne {x : Int32} {off : Int} {tgt : Nat} (hd : decode M.2.1 pc = .ok (.ifCond .ne off, 3)) (ht : (pc : Int) + off = (tgt : Int)) (kt : ¬ x = 0 → Z l C mi M d tgt ls st h r h') (kf : (x = 0) → Z l C mi M d (pc + 3) ls st h r h') : Z l C mi M d pc ls (vi x :: st) h r h' := by
  by_cases q : (x = 0)
  · have k := kf q
    exact ⟨k.1, k.2.1, fun p e R s m args below meth c H locs lv Q n0 s0 X P S z1 z2 L a1 a2 a3 a4 hend => lv_if_ne X.1 X.2.1 hd ht (fun q2 => absurd q q2) (fun q2 => k.2.2 p e R s m args below meth c H locs lv Q n0 s0 X P S z1 z2 L a1 a2 a3 a4 hend)⟩
  · have k := kt q
    exact ⟨k.1, k.2.1, fun p e R s m args below meth c H locs lv Q n0 s0 X P S z1 z2 L a1 a2 a3 a4 hend => lv_if_ne X.1 X.2.1 hd ht (fun q2 => k.2.2 p e R s m args below meth c H locs lv Q n0 s0 X P S z1 z2 L a1 a2 a3 a4 hend) (fun q2 => absurd q2 q)⟩
theorem z_if_lt {x : Int32} {off : Int} {tgt : Nat} (hd : decode M.2.1 pc = .ok (.ifCond .lt off, 3)) (ht : (pc : Int) + off = (tgt : Int)) (kt : (x < 0) → Z l C mi M d tgt ls st h r h') (kf : ¬ x < 0 → Z l C mi M d (pc + 3) ls st h r h') : Z l C mi M d pc ls (vi x :: st) h r h' := by
  by_cases q : (x < 0)
  · have k := kt q
    exact ⟨k.1, k.2.1, fun p e R s m args below meth c H locs lv Q n0 s0 X P S z1 z2 L a1 a2 a3 a4 hend => lv_if_lt X.1 X.2.1 hd ht (fun q2 => k.2.2 p e R s m args below meth c H locs lv Q n0 s0 X P S z1 z2 L a1 a2 a3 a4 hend) (fun q2 => absurd q q2)⟩
  · have k := kf q
    exact ⟨k.1, k.2.1, fun p e R s m args below meth c H locs lv Q n0 s0 X P S z1 z2 L a1 a2 a3 a4 hend => lv_if_lt X.1 X.2.1 hd ht (fun q2 => absurd q2 q) (fun q2 => k.2.2 p e R s m args below meth c H locs lv Q n0 s0 X P S z1 z2 L a1 a2 a3 a4 hend)⟩
theorem z_if_ge {x : Int32} {off : Int} {tgt : Nat} (hd : decode M.2.1 pc = .ok (.ifCond .ge off, 3)) (ht : (pc : Int) + off = (tgt : Int)) (kt : (0 ≤ x) → Z l C mi M d tgt ls st h r h') (kf : ¬ 0 ≤ x → Z l C mi M d (pc + 3) ls st h r h') : Z l C mi M d pc ls (vi x :: st) h r h' := by
  by_cases q : (0 ≤ x)
  · have k := kt q
    exact ⟨k.1, k.2.1, fun p e R s m args below meth c H locs lv Q n0 s0 X P S z1 z2 L a1 a2 a3 a4 hend => lv_if_ge X.1 X.2.1 hd ht (fun q2 => k.2.2 p e R s m args below meth c H locs lv Q n0 s0 X P S z1 z2 L a1 a2 a3 a4 hend) (fun q2 => absurd q q2)⟩
  · have k := kf q
    exact ⟨k.1, k.2.1, fun p e R s m args below meth c H locs lv Q n0 s0 X P S z1 z2 L a1 a2 a3 a4 hend => lv_if_ge X.1 X.2.1 hd ht (fun q2 => absurd q2 q) (fun q2 => k.2.2 p e R s m args below meth c H locs lv Q n0 s0 X P S z1 z2 L a1 a2 a3 a4 hend)⟩
theorem z_if_gt {x : Int32} {off : Int} {tgt : Nat} (hd : decode M.2.1 pc = .ok (.ifCond .gt off, 3)) (ht : (pc : Int) + off = (tgt : Int)) (kt : (0 < x) → Z l C mi M d tgt ls st h r h') (kf : ¬ 0 < x → Z l C mi M d (pc + 3) ls st h r h') : Z l C mi M d pc ls (vi x :: st) h r h' := by
  by_cases q : (0 < x)
  · have k := kt q
    exact ⟨k.1, k.2.1, fun p e R s m args below meth c H locs lv Q n0 s0 X P S z1 z2 L a1 a2 a3 a4 hend => lv_if_gt X.1 X.2.1 hd ht (fun q2 => k.2.2 p e R s m args below meth c H locs lv Q n0 s0 X P S z1 z2 L a1 a2 a3 a4 hend) (fun q2 => absurd q q2)⟩
  · have k := kf q
    exact ⟨k.1, k.2.1, fun p e R s m args below meth c H locs lv Q n0 s0 X P S z1 z2 L a1 a2 a3 a4 hend => lv_if_gt X.1 X.2.1 hd ht (fun q2 => absurd q2 q) (fun q2 => k.2.2 p e R s m args below meth c H locs lv Q n0 s0 X P S z1 z2 L a1 a2 a3 a4 hend)⟩
theorem z_if_le {x : Int32} {off : Int} {tgt : Nat} (hd : decode M.2.1 pc = .ok (.ifCond .le off, 3)) (ht : (pc : Int) + off = (tgt : Int)) (kt : (x ≤ 0) → Z l C mi M d tgt ls st h r h') (kf : ¬ x ≤ 0 → Z l C mi M d (pc + 3) ls st h r h') : Z l C mi M d pc ls (vi x :: st) h r h' := by
  by_cases q : (x ≤ 0)
  · have k := kt q
    exact ⟨k.1, k.2.1, fun p e R s m args below meth c H locs lv Q n0 s0 X P S z1 z2 L a1 a2 a3 a4 hend => lv_if_le X.1 X.2.1 hd ht (fun q2 => k.2.2 p e R s m args below meth c H locs lv Q n0 s0 X P S z1 z2 L a1 a2 a3 a4 hend) (fun q2 => absurd q q2)⟩
  · have k := kf q
    exact ⟨k.1, k.2.1, fun p e R s m args below meth c H locs lv Q n0 s0 X P S z1 z2 L a1 a2 a3 a4 hend => lv_if_le X.1 X.2.1 hd ht (fun q2 => absurd q2 q) (fun q2 => k.2.2 p e R s m args below meth c H locs lv Q n0 s0 X P S z1 z2 L a1 a2 a3 a4 hend)⟩
theorem z_icmp_eq {x y : Int32} {off : Int} {tgt : Nat} (hd : decode M.2.1 pc = .ok (.if_icmp .eq off, 3)) (ht : (pc : Int) + off = (tgt : Int)) (kt : (x = y) → Z l C mi M d tgt ls st h r h') (kf : ¬ x = y → Z l C mi M d (pc + 3) ls st h r h') : Z l C mi M d pc ls (vi y :: vi x :: st) h r h' := by
  by_cases q : (x = y)
  · have k := kt q
    exact ⟨k.1, k.2.1, fun p e R s m args below meth c H locs lv Q n0 s0 X P S z1 z2 L a1 a2 a3 a4 hend => lv_icmp_eq X.1 X.2.1 hd ht (fun q2 => k.2.2 p e R s m args below meth c H locs lv Q n0 s0 X P S z1 z2 L a1 a2 a3 a4 hend) (fun q2 => absurd q q2)⟩
  · have k := kf q
    exact ⟨k.1, k.2.1, fun p e R s m args below meth c H locs lv Q n0 s0 X P S z1 z2 L a1 a2 a3 a4 hend => lv_icmp_eq X.1 X.2.1 hd ht (fun q2 => absurd q2 q) (fun q2 => k.2.2 p e R s m args below meth c H locs lv Q n0 s0 X P S z1 z2 L a1 a2 a3 a4 hend)⟩
theorem z_icmp_ne {x y : Int32} {off : Int} {tgt : Nat} (hd : decode M.2.1 pc = .ok (.if_icmp .ne off, 3)) (ht : (pc : Int) + off = (tgt : Int)) (kt : ¬ x = y → Z l C mi M d tgt ls st h r h') (kf : (x = y) → Z l C mi M d (pc + 3) ls st h r h') : Z l C mi M d pc ls (vi y :: vi x :: st) h r h' := by
  by_cases q : (x = y)
  · have k := kf q
    exact ⟨k.1, k.2.1, fun p e R s m args below meth c H locs lv Q n0 s0 X P S z1 z2 L a1 a2 a3 a4 hend => lv_icmp_ne X.1 X.2.1 hd ht (fun q2 => absurd q q2) (fun q2 => k.2.2 p e R s m args below meth c H locs lv Q n0 s0 X P S z1 z2 L a1 a2 a3 a4 hend)⟩
  · have k := kt q
    exact ⟨k.1, k.2.1, fun p e R s m args below meth c H locs lv Q n0 s0 X P S z1 z2 L a1 a2 a3 a4 hend => lv_icmp_ne X.1 X.2.1 hd ht (fun q2 => k.2.2 p e R s m args below meth c H locs lv Q n0 s0 X P S z1 z2 L a1 a2 a3 a4 hend) (fun q2 => absurd q2 q)⟩
theorem z_icmp_lt {x y : Int32} {off : Int} {tgt : Nat} (hd : decode M.2.1 pc = .ok (.if_icmp .lt off, 3)) (ht : (pc : Int) + off = (tgt : Int)) (kt : (x < y) → Z l C mi M d tgt ls st h r h') (kf : ¬ x < y → Z l C mi M d (pc + 3) ls st h r h') : Z l C mi M d pc ls (vi y :: vi x :: st) h r h' := by
  by_cases q : (x < y)
  · have k := kt q
    exact ⟨k.1, k.2.1, fun p e R s m args below meth c H locs lv Q n0 s0 X P S z1 z2 L a1 a2 a3 a4 hend => lv_icmp_lt X.1 X.2.1 hd ht (fun q2 => k.2.2 p e R s m args below meth c H locs lv Q n0 s0 X P S z1 z2 L a1 a2 a3 a4 hend) (fun q2 => absurd q q2)⟩
  · have k := kf q
    exact ⟨k.1, k.2.1, fun p e R s m args below meth c H locs lv Q n0 s0 X P S z1 z2 L a1 a2 a3 a4 hend => lv_icmp_lt X.1 X.2.1 hd ht (fun q2 => absurd q2 q) (fun q2 => k.2.2 p e R s m args below meth c H locs lv Q n0 s0 X P S z1 z2 L a1 a2 a3 a4 hend)⟩
theorem z_icmp_ge {x y : Int32} {off : Int} {tgt : Nat} (hd : decode M.2.1 pc = .ok (.if_icmp .ge off, 3)) (ht : (pc : Int) + off = (tgt : Int)) (kt : (y ≤ x) → Z l C mi M d tgt ls st h r h') (kf : ¬ y ≤ x → Z l C mi M d (pc + 3) ls st h r h') : Z l C mi M d pc ls (vi y :: vi x :: st) h r h' := by
  by_cases q : (y ≤ x)
  · have k := kt q
    exact ⟨k.1, k.2.1, fun p e R s m args below meth c H locs lv Q n0 s0 X P S z1 z2 L a1 a2 a3 a4 hend => lv_icmp_ge X.1 X.2.1 hd ht (fun q2 => k.2.2 p e R s m args below meth c H locs lv Q n0 s0 X P S z1 z2 L a1 a2 a3 a4 hend) (fun q2 => absurd q q2)⟩
  · have k := kf q
    exact ⟨k.1, k.2.1, fun p e R s m args below meth c H locs lv Q n0 s0 X P S z1 z2 L a1 a2 a3 a4 hend => lv_icmp_ge X.1 X.2.1 hd ht (fun q2 => absurd q2 q) (fun q2 => k.2.2 p e R s m args below meth c H locs lv Q n0 s0 X P S z1 z2 L a1 a2 a3 a4 hend)⟩
theorem z_icmp_gt {x y : Int32} {off : Int} {tgt : Nat} (hd : decode M.2.1 pc = .ok (.if_icmp .gt off, 3)) (ht : (pc : Int) + off = (tgt : Int)) (kt : (y < x) → Z l C mi M d tgt ls st h r h') (kf : ¬ y < x → Z l C mi M d (pc + 3) ls st h r h') : Z l C mi M d pc ls (vi y :: vi x :: st) h r h' := by
  by_cases q : (y < x)
  · have k := kt q
    exact ⟨k.1, k.2.1, fun p e R s m args below meth c H locs lv Q n0 s0 X P S z1 z2 L a1 a2 a3 a4 hend => lv_icmp_gt X.1 X.2.1 hd ht (fun q2 => k.2.2 p e R s m args below meth c H locs lv Q n0 s0 X P S z1 z2 L a1 a2 a3 a4 hend) (fun q2 => absurd q q2)⟩
  · have k := kf q
    exact ⟨k.1, k.2.1, fun p e R s m args below meth c H locs lv Q n0 s0 X P S z1 z2 L a1 a2 a3 a4 hend => lv_icmp_gt X.1 X.2.1 hd ht (fun q2 => absurd q2 q) (fun q2 => k.2.2 p e R s m args below meth c H locs lv Q n0 s0 X P S z1 z2 L a1 a2 a3 a4 hend)⟩
theorem z_icmp_le {x y : Int32} {off : Int} {tgt : Nat} (hd : decode M.2.1 pc = .ok (.if_icmp .le off, 3)) (ht : (pc : Int) + off = (tgt : Int)) (kt : (x ≤ y) → Z l C mi M d tgt ls st h r h') (kf : ¬ x ≤ y → Z l C mi M d (pc + 3) ls st h r h') : Z l C mi M d pc ls (vi y :: vi x :: st) h r h' := by
  by_cases q : (x ≤ y)
  · have k := kt q
    exact ⟨k.1, k.2.1, fun p e R s m args below meth c H locs lv Q n0 s0 X P S z1 z2 L a1 a2 a3 a4 hend => lv_icmp_le X.1 X.2.1 hd ht (fun q2 => k.2.2 p e R s m args below meth c H locs lv Q n0 s0 X P S z1 z2 L a1 a2 a3 a4 hend) (fun q2 => absurd q q2)⟩
  · have k := kf q
    exact ⟨k.1, k.2.1, fun p e R s m args below meth c H locs lv Q n0 s0 X P S z1 z2 L a1 a2 a3 a4 hend => lv_icmp_le X.1 X.2.1 hd ht (fun q2 => absurd q2 q) (fun q2 => k.2.2 p e R s m args below meth c H locs lv Q n0 s0 X P S z1 z2 L a1 a2 a3 a4 hend)⟩
theorem z_acmp_eq {x y : Option Nat} {off : Int} {tgt : Nat} (hd : decode M.2.1 pc = .ok (.if_acmp .eq off, 3)) (ht : (pc : Int) + off = (tgt : Int)) (kt : (x = y) → Z l C mi M d tgt ls st h r h') (kf : ¬ x = y → Z l C mi M d (pc + 3) ls st h r h') : Z l C mi M d pc ls (vr y :: vr x :: st) h r h' := by
  by_cases q : (x = y)
  · have k := kt q
    exact ⟨k.1, k.2.1, fun p e R s m args below meth c H locs lv Q n0 s0 X P S z1 z2 L a1 a2 a3 a4 hend => lv_acmp_eq X.1 X.2.1 hd ht (fun q2 => k.2.2 p e R s m args below meth c H locs lv Q n0 s0 X P S z1 z2 L a1 a2 a3 a4 hend) (fun q2 => absurd q q2)⟩
  · have k := kf q
    exact ⟨k.1, k.2.1, fun p e R s m args below meth c H locs lv Q n0 s0 X P S z1 z2 L a1 a2 a3 a4 hend => lv_acmp_eq X.1 X.2.1 hd ht (fun q2 => absurd q2 q) (fun q2 => k.2.2 p e R s m args below meth c H locs lv Q n0 s0 X P S z1 z2 L a1 a2 a3 a4 hend)⟩
theorem z_acmp_ne {x y : Option Nat} {off : Int} {tgt : Nat} (hd : decode M.2.1 pc = .ok (.if_acmp .ne off, 3)) (ht : (pc : Int) + off = (tgt : Int)) (kt : ¬ x = y → Z l C mi M d tgt ls st h r h') (kf : (x = y) → Z l C mi M d (pc + 3) ls st h r h') : Z l C mi M d pc ls (vr y :: vr x :: st) h r h' := by
  by_cases q : (x = y)
  · have k := kf q
    exact ⟨k.1, k.2.1, fun p e R s m args below meth c H locs lv Q n0 s0 X P S z1 z2 L a1 a2 a3 a4 hend => lv_acmp_ne X.1 X.2.1 hd ht (fun q2 => absurd q q2) (fun q2 => k.2.2 p e R s m args below meth c H locs lv Q n0 s0 X P S z1 z2 L a1 a2 a3 a4 hend)⟩
  · have k := kt q
    exact ⟨k.1, k.2.1, fun p e R s m args below meth c H locs lv Q n0 s0 X P S z1 z2 L a1 a2 a3 a4 hend => lv_acmp_ne X.1 X.2.1 hd ht (fun q2 => k.2.2 p e R s m args below meth c H locs lv Q n0 s0 X P S z1 z2 L a1 a2 a3 a4 hend) (fun q2 => absurd q2 q)⟩
theorem z_ifnull {x : Option Nat} {off : Int} {tgt : Nat} (hd : decode M.2.1 pc = .ok (.ifnull off, 3)) (ht : (pc : Int) + off = (tgt : Int)) (kt : x = none → Z l C mi M d tgt ls st h r h') (kf : ¬ x = none → Z l C mi M d (pc + 3) ls st h r h') : Z l C mi M d pc ls (vr x :: st) h r h' := by
  cases x with
  | none => exact z_of (kt rfl) (fun p e R s m args below meth c H locs cells slots lv Q X P S L kk => lv_ifnullN X.1 X.2.1 hd ht (kk lv L))
  | some a => exact z_of (kf (fun q => by cases q)) (fun p e R s m args below meth c H locs cells slots lv Q X P S L kk => lv_ifnull X.1 X.2.1 hd (kk lv L))
theorem z_ifnonnull {x : Option Nat} {off : Int} {tgt : Nat} (hd : decode M.2.1 pc = .ok (.ifnonnull off, 3)) (ht : (pc : Int) + off = (tgt : Int)) (kt : ¬ x = none → Z l C mi M d tgt ls st h r h') (kf : x = none → Z l C mi M d (pc + 3) ls st h r h') : Z l C mi M d pc ls (vr x :: st) h r h' := by
  cases x with
  | none => exact z_of (kf rfl) (fun p e R s m args below meth c H locs cells slots lv Q X P S L kk => lv_ifnonnullN X.1 X.2.1 hd (kk lv L))
  | some a => exact z_of (kt (fun q => by cases q)) (fun p e R s m args below meth c H locs cells slots lv Q X P S L kk => lv_ifnonnull X.1 X.2.1 hd ht (kk lv L))
theorem z_tabIn {dflt lo hi : Int} {offs : Array Int} {len : Nat} {x : Int32} {off : Int} {tgt : Nat} (hd : decode M.2.1 pc = .ok (.tableswitch dflt lo hi offs, len)) (h1 : ¬ x.toInt < lo) (h2 : ¬ hi < x.toInt) (ho : offs[(x.toInt - lo).toNat]? = some off) (ht : (pc : Int) + off = (tgt : Int)) (k : Z l C mi M d tgt ls st h r h') : Z l C mi M d pc ls (vi x :: st) h r h' :=
  z_of k fun p e R s m args below meth c H locs cells slots lv Q X P S L kk => lv_tableIn X.1 X.2.1 hd h1 h2 ho ht (kk lv L)
theorem z_tabOut {dflt lo hi : Int} {offs : Array Int} {len : Nat} {x : Int32} {tgt : Nat} (hd : decode M.2.1 pc = .ok (.tableswitch dflt lo hi offs, len)) (hx : x.toInt < lo ∨ hi < x.toInt) (ht : (pc : Int) + dflt = (tgt : Int)) (k : Z l C mi M d tgt ls st h r h') : Z l C mi M d pc ls (vi x :: st) h r h' :=
  z_of k fun p e R s m args below meth c H locs cells slots lv Q X P S L kk => lv_tableOut X.1 X.2.1 hd hx ht (kk lv L)
/-- the return -/
theorem z_ret (hd : decode M.2.1 pc = .ok (M.2.2.2.2, 1)) (hst : st = r.toList) : Z l C mi M d pc ls st h r h :=
  ⟨Nat.le_refl _, Nat.le_refl _, fun p e R s m args below meth c H locs lv Q n0 s0 X P S z1 z2 L a1 a2 a3 a4 hend => by
    have k := hend pc H locs lv hd P S
    have e1 : (r.map tv).toList = st.map tv := by subst hst; cases r <;> rfl
    rw [e1] at k
    exact k⟩
theorem z_lload_n {j : Fin 4} {i : Nat} {x : Int64} (q : Nat) (hd : decode M.2.1 pc = .ok (.lload_n j, 1)) (hi : (j : Nat) = i) (hq : ls[q]? = some (i, vl x)) (k : Z l C mi M d (pc + 1) ls (vl x :: st) h r h') : Z l C mi M d pc ls st h r h' :=
  z_of k fun p e R s m args below meth c H locs cells slots lv Q X P S L kk => lv_lload_n X.1 X.2.1 hd hi (L.at q hq) (kk lv L)
def lf2 (i : Nat) (ls : List (Nat × Tv)) : List (Nat × Tv) := ls.filter (fun q => !(q.1 == i) && (!(q.1 == i + 1) && !(q.1 + 1 == i && cat2 q.2)))
theorem lf2_map (i : Nat) (ls : List (Nat × Tv)) : (ls.map fun q => (q.1, tv q.2)).filter (fun q => !(q.1 == i) && (!(q.1 == i + 1) && !(q.1 + 1 == i && q.2.category == 2))) = (lf2 i ls).map fun q => (q.1, tv q.2) := by
  unfold lf2
  rw [List.filter_map]
  congr 1
  apply List.filter_congr
  intro q _
  show (!(q.1 == i) && (!(q.1 == i + 1) && !(q.1 + 1 == i && ((tv q.2).category == 2)))) = _
  rw [tv_cat]
theorem z_lstore_n {j : Fin 4} {i : Nat} {x : Int64} {ls2 : List (Nat × Tv)} (hd : decode M.2.1 pc = .ok (.lstore_n j, 1)) (hi : (j : Nat) = i) (hn : i + 1 < M.2.2.1) (hl : (i, vl x) :: lf2 i ls = ls2) (k : Z l C mi M d (pc + 1) ls2 st h r h') : Z l C mi M d pc ls (vl x :: st) h r h' :=
  z_of k fun p e R s m args below meth c H locs cells slots lv Q X P S L kk => lv_lstore_n X.1 X.2.1 hd hi L hn rfl (fun lv2 L2 => kk lv2 (by rw [lf2_map] at L2; rw [← hl]; exact L2))
end Rules2

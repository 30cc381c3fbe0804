-- java/util/AbstractCollection.<init>()V
def m_AC_init : Mi := (⟨"java/util/AbstractCollection", "<init>", "()V"⟩, prog_18_method_1_code, 1, (Option.none : Option Jvm.ClassFile.FieldType), .return_)
theorem cw_AC_init : cw_ok m_AC_init 0 := ⟨by decide +kernel, by decide +kernel, by decide +kernel, by decide +kernel⟩
theorem im_AC_init : Cond.instanceMethod m_AC_init.1 ∈ lw_w := by decide +kernel
theorem d_AC_init_0 : decode prog_18_method_1_code 0 = .ok (.aload_n 0, 1) := by decide +kernel
theorem d_AC_init_1 : decode prog_18_method_1_code 1 = .ok (.invokespecial 1, 3) := by decide +kernel
theorem d_AC_init_4 : decode prog_18_method_1_code 4 = .ok (.return_, 1) := by decide +kernel
def W_AC_init : Wl := ([], [])
def f_AC_init (a0 : Nat) (h : Hp) : Option Hp :=
  some h
set_option maxRecDepth 100000 in
set_option maxHeartbeats 4000000 in
theorem zf_AC_init {l : Launch} {C : Ct} {mi : Nat} {a0 : Nat} {h h' : Hp} (hf : f_AC_init a0 h = some h') : Z l C mi m_AC_init 1 0 [(0, vr (some a0))] [] h none h' := by
  unfold f_AC_init at hf
  refine z_aload_n 0 d_AC_init_0 rfl rfl ?_
  refine z_oinit d_AC_init_1 (by decide +kernel) rfl (by decide) (Nat.le_of_ble_eq_true rfl) ?_
  cases (Option.some.inj hf)
  exact z_ret d_AC_init_4 rfl
set_option maxRecDepth 100000 in
set_option maxHeartbeats 4000000 in
theorem fr_AC_init {C : Ct} {mi : Nat} {a0 : Nat} {h h' : Hp} (hf : f_AC_init a0 h = some h') : Keep W_AC_init h h' := by
  unfold f_AC_init at hf
  cases (Option.some.inj hf)
  exact (Keep.refl W_AC_init _)
theorem c_AC_init {l : Launch} {C : Ct} {mi : Nat} {a0 : Nat} {h h' : Hp} (hf : f_AC_init a0 h = some h') : Mt l C mi m_AC_init 1 [vr (some a0)] h none h' := mt_V rfl rfl (by decide) (Nat.le_of_ble_eq_true rfl) (zf_AC_init hf)
-- java/util/AbstractList.<init>()V
def m_AL_init : Mi := (⟨"java/util/AbstractList", "<init>", "()V"⟩, prog_19_method_1_code, 1, (Option.none : Option Jvm.ClassFile.FieldType), .return_)
theorem cw_AL_init : cw_ok m_AL_init 0 := ⟨by decide +kernel, by decide +kernel, by decide +kernel, by decide +kernel⟩
theorem im_AL_init : Cond.instanceMethod m_AL_init.1 ∈ lw_w := by decide +kernel
theorem d_AL_init_0 : decode prog_19_method_1_code 0 = .ok (.aload_n 0, 1) := by decide +kernel
theorem d_AL_init_1 : decode prog_19_method_1_code 1 = .ok (.invokespecial 1, 3) := by decide +kernel
theorem d_AL_init_4 : decode prog_19_method_1_code 4 = .ok (.aload_n 0, 1) := by decide +kernel
theorem d_AL_init_5 : decode prog_19_method_1_code 5 = .ok (.iconst 0, 1) := by decide +kernel
theorem d_AL_init_6 : decode prog_19_method_1_code 6 = .ok (.putfield 7, 3) := by decide +kernel
theorem d_AL_init_9 : decode prog_19_method_1_code 9 = .ok (.return_, 1) := by decide +kernel
def W_AL_init : Wl := ([(9, 2)], [])
def f_AL_init (a0 : Nat) (h : Hp) : Option Hp :=
  cv (f_AC_init a0 h) fun h1 => gd (isK h1 a0 9) (nm (wI h1 a0 2 (0 : Int32)) fun h5 => some h5)
set_option maxRecDepth 100000 in
set_option maxHeartbeats 4000000 in
theorem zf_AL_init {l : Launch} {C : Ct} {mi : Nat} {a0 : Nat} {h h' : Hp} (hf : f_AL_init a0 h = some h') : Z l C mi m_AL_init 2 0 [(0, vr (some a0))] [] h none h' := by
  unfold f_AL_init at hf
  refine z_aload_n 0 d_AL_init_0 rfl rfl ?_
  obtain ⟨h1, ec2, hf⟩ := cv_some hf
  refine z_callI (c_AC_init ec2) d_AL_init_1 rfl cw_AC_init lk_AL_1 im_AC_init rfl ⟨by decide, by decide⟩ (Nat.le_of_ble_eq_true rfl) rfl ?_
  refine z_aload_n 0 d_AL_init_4 rfl rfl ?_
  refine z_iconst (v := (0 : Int32)) d_AL_init_5 (by decide) ?_
  obtain ⟨g4, hf⟩ := gd_some hf
  obtain ⟨h5, eh6, hf⟩ := nm_some hf
  refine z_putI d_AL_init_6 (fl_K (isK_eq g4) fl_AL_7_9) (pu_K (isK_eq g4) (fun q hq => by cases (Option.some.inj hq); exact Or.inl rfl)) (fi_K (isK_eq g4) rfl) rfl ?_
  refine z_hp eh6 ?_
  cases (Option.some.inj hf)
  exact z_ret d_AL_init_9 rfl
set_option maxRecDepth 100000 in
set_option maxHeartbeats 4000000 in
theorem fr_AL_init {C : Ct} {mi : Nat} {a0 : Nat} {h h' : Hp} (hf : f_AL_init a0 h = some h') : Keep W_AL_init h h' := by
  unfold f_AL_init at hf
  obtain ⟨h1, ec2, hf⟩ := cv_some hf
  have K3 := (Keep.refl W_AL_init _).trans ((fr_AC_init (C := C) (mi := mi) ec2).mono (by decide) (by decide))
  obtain ⟨g4, hf⟩ := gd_some hf
  obtain ⟨h5, eh6, hf⟩ := nm_some hf
  have K7 := K3.trans (kw_I eh6 (isK_eq g4) (Or.inl (by decide)))
  cases (Option.some.inj hf)
  exact K7
theorem c_AL_init {l : Launch} {C : Ct} {mi : Nat} {a0 : Nat} {h h' : Hp} (hf : f_AL_init a0 h = some h') : Mt l C mi m_AL_init 2 [vr (some a0)] h none h' := mt_V rfl rfl (by decide) (Nat.le_of_ble_eq_true rfl) (zf_AL_init hf)
-- java/util/ArrayList.<init>()V
def m_A_init : Mi := (⟨"java/util/ArrayList", "<init>", "()V"⟩, prog_20_method_2_code, 1, (Option.none : Option Jvm.ClassFile.FieldType), .return_)
theorem cw_A_init : cw_ok m_A_init 0 := ⟨by decide +kernel, by decide +kernel, by decide +kernel, by decide +kernel⟩
theorem im_A_init : Cond.instanceMethod m_A_init.1 ∈ lw_w := by decide +kernel
theorem d_A_init_0 : decode prog_20_method_2_code 0 = .ok (.aload_n 0, 1) := by decide +kernel
theorem d_A_init_1 : decode prog_20_method_2_code 1 = .ok (.invokespecial 1, 3) := by decide +kernel
theorem d_A_init_4 : decode prog_20_method_2_code 4 = .ok (.aload_n 0, 1) := by decide +kernel
theorem d_A_init_5 : decode prog_20_method_2_code 5 = .ok (.getstatic 39, 3) := by decide +kernel
theorem d_A_init_8 : decode prog_20_method_2_code 8 = .ok (.putfield 9, 3) := by decide +kernel
theorem d_A_init_11 : decode prog_20_method_2_code 11 = .ok (.return_, 1) := by decide +kernel
def W_A_init : Wl := ([(9, 0), (9, 2)], [])
def f_A_init (E : Nat × Nat) (a0 : Nat) (h : Hp) : Option Hp :=
  cv (f_AL_init a0 h) fun h1 => gd (isK h1 a0 9) (nm (wR h1 a0 0 (some E.1)) fun h5 => some h5)
set_option maxRecDepth 100000 in
set_option maxHeartbeats 4000000 in
theorem zf_A_init {l : Launch} {C : Ct} {mi : Nat} {a0 : Nat} {h h' : Hp} (hf : f_A_init (cE C, mi) a0 h = some h') : Z l C mi m_A_init 3 0 [(0, vr (some a0))] [] h none h' := by
  unfold f_A_init at hf
  refine z_aload_n 0 d_A_init_0 rfl rfl ?_
  obtain ⟨h1, ec2, hf⟩ := cv_some hf
  refine z_callI (c_AL_init ec2) d_A_init_1 rfl cw_AL_init lk_A_1 im_AL_init rfl ⟨by decide, by decide⟩ (Nat.le_of_ble_eq_true rfl) rfl ?_
  refine z_aload_n 0 d_A_init_4 rfl rfl ?_
  refine z_gets d_A_init_5 (by decide +kernel) ?_
  obtain ⟨g4, hf⟩ := gd_some hf
  obtain ⟨h5, eh6, hf⟩ := nm_some hf
  refine z_putR d_A_init_8 (fl_K (isK_eq g4) fl_A_9_9) (pu_K (isK_eq g4) (fun q hq => by cases (Option.some.inj hq); exact Or.inl rfl)) (fi_K (isK_eq g4) rfl) rfl ?_
  refine z_hp eh6 ?_
  cases (Option.some.inj hf)
  exact z_ret d_A_init_11 rfl
set_option maxRecDepth 100000 in
set_option maxHeartbeats 4000000 in
theorem fr_A_init {C : Ct} {mi : Nat} {a0 : Nat} {h h' : Hp} (hf : f_A_init (cE C, mi) a0 h = some h') : Keep W_A_init h h' := by
  unfold f_A_init at hf
  obtain ⟨h1, ec2, hf⟩ := cv_some hf
  have K3 := (Keep.refl W_A_init _).trans ((fr_AL_init (C := C) (mi := mi) ec2).mono (by decide) (by decide))
  obtain ⟨g4, hf⟩ := gd_some hf
  obtain ⟨h5, eh6, hf⟩ := nm_some hf
  have K7 := K3.trans (kw_R eh6 (isK_eq g4) (Or.inl (by decide)))
  cases (Option.some.inj hf)
  exact K7
theorem c_A_init {l : Launch} {C : Ct} {mi : Nat} {a0 : Nat} {h h' : Hp} (hf : f_A_init (cE C, mi) a0 h = some h') : Mt l C mi m_A_init 3 [vr (some a0)] h none h' := mt_V rfl rfl (by decide) (Nat.le_of_ble_eq_true rfl) (zf_A_init hf)
-- jdk/internal/util/ArraysSupport.hugeLength(II)I
def m_AS_hugeLength : Mi := (⟨"jdk/internal/util/ArraysSupport", "hugeLength", "(II)I"⟩, prog_27_method_28_code, 3, (Option.some Jvm.ClassFile.FieldType.int), .ireturn)
theorem cw_AS_hugeLength : cw_ok m_AS_hugeLength 2 := ⟨by decide +kernel, by decide +kernel, by decide +kernel, by decide +kernel⟩
theorem d_AS_hugeLength_0 : decode prog_27_method_28_code 0 = .ok (.iload_n 0, 1) := by decide +kernel
theorem d_AS_hugeLength_1 : decode prog_27_method_28_code 1 = .ok (.iload_n 1, 1) := by decide +kernel
theorem d_AS_hugeLength_2 : decode prog_27_method_28_code 2 = .ok (.iadd, 1) := by decide +kernel
theorem d_AS_hugeLength_3 : decode prog_27_method_28_code 3 = .ok (.istore_n 2, 1) := by decide +kernel
theorem d_AS_hugeLength_4 : decode prog_27_method_28_code 4 = .ok (.iload_n 2, 1) := by decide +kernel
theorem d_AS_hugeLength_5 : decode prog_27_method_28_code 5 = .ok (.ifCond .ge 44, 3) := by decide +kernel
theorem d_AS_hugeLength_8 : decode prog_27_method_28_code 8 = .ok (.new 204, 3) := by decide +kernel
theorem d_AS_hugeLength_11 : decode prog_27_method_28_code 11 = .ok (.dup, 1) := by decide +kernel
theorem d_AS_hugeLength_12 : decode prog_27_method_28_code 12 = .ok (.new 89, 3) := by decide +kernel
theorem d_AS_hugeLength_15 : decode prog_27_method_28_code 15 = .ok (.dup, 1) := by decide +kernel
theorem d_AS_hugeLength_16 : decode prog_27_method_28_code 16 = .ok (.invokespecial 91, 3) := by decide +kernel
theorem d_AS_hugeLength_19 : decode prog_27_method_28_code 19 = .ok (.ldc 206, 2) := by decide +kernel
theorem d_AS_hugeLength_21 : decode prog_27_method_28_code 21 = .ok (.invokevirtual 94, 3) := by decide +kernel
theorem d_AS_hugeLength_24 : decode prog_27_method_28_code 24 = .ok (.iload_n 0, 1) := by decide +kernel
theorem d_AS_hugeLength_25 : decode prog_27_method_28_code 25 = .ok (.invokevirtual 98, 3) := by decide +kernel
theorem d_AS_hugeLength_28 : decode prog_27_method_28_code 28 = .ok (.ldc 208, 2) := by decide +kernel
theorem d_AS_hugeLength_30 : decode prog_27_method_28_code 30 = .ok (.invokevirtual 94, 3) := by decide +kernel
theorem d_AS_hugeLength_33 : decode prog_27_method_28_code 33 = .ok (.iload_n 1, 1) := by decide +kernel
theorem d_AS_hugeLength_34 : decode prog_27_method_28_code 34 = .ok (.invokevirtual 98, 3) := by decide +kernel
theorem d_AS_hugeLength_37 : decode prog_27_method_28_code 37 = .ok (.ldc 210, 2) := by decide +kernel
theorem d_AS_hugeLength_39 : decode prog_27_method_28_code 39 = .ok (.invokevirtual 94, 3) := by decide +kernel
theorem d_AS_hugeLength_42 : decode prog_27_method_28_code 42 = .ok (.invokevirtual 101, 3) := by decide +kernel
theorem d_AS_hugeLength_45 : decode prog_27_method_28_code 45 = .ok (.invokespecial 212, 3) := by decide +kernel
theorem d_AS_hugeLength_49 : decode prog_27_method_28_code 49 = .ok (.iload_n 2, 1) := by decide +kernel
theorem d_AS_hugeLength_50 : decode prog_27_method_28_code 50 = .ok (.ldc 200, 2) := by decide +kernel
theorem d_AS_hugeLength_52 : decode prog_27_method_28_code 52 = .ok (.if_icmp .gt 6, 3) := by decide +kernel
theorem d_AS_hugeLength_55 : decode prog_27_method_28_code 55 = .ok (.ldc 200, 2) := by decide +kernel
theorem d_AS_hugeLength_57 : decode prog_27_method_28_code 57 = .ok (.ireturn, 1) := by decide +kernel
theorem d_AS_hugeLength_58 : decode prog_27_method_28_code 58 = .ok (.iload_n 2, 1) := by decide +kernel
theorem d_AS_hugeLength_59 : decode prog_27_method_28_code 59 = .ok (.ireturn, 1) := by decide +kernel
def W_AS_hugeLength : Wl := ([], [])
def f_AS_hugeLength (p1 : Int32) (p2 : Int32) (h : Hp) : Option (Int32 × Hp) :=
  if 0 ≤ (p1 + p2) then (if (nI 2147483639) < (p1 + p2) then (some ((p1 + p2), h)) else (some ((nI 2147483639), h))) else (none)
set_option maxRecDepth 100000 in
set_option maxHeartbeats 4000000 in
theorem zf_AS_hugeLength {l : Launch} {C : Ct} {mi : Nat} {p1 : Int32} {p2 : Int32} {h h' : Hp} {v : Int32} (hf : f_AS_hugeLength p1 p2 h = some (v, h')) : Z l C mi m_AS_hugeLength 0 0 [(0, vi p1), (1, vi p2)] [] h (some (vi v)) h' := by
  unfold f_AS_hugeLength at hf
  refine z_iload_n 0 d_AS_hugeLength_0 rfl rfl ?_
  refine z_iload_n 1 d_AS_hugeLength_1 rfl rfl ?_
  refine z_iadd d_AS_hugeLength_2 ?_
  refine z_istore_n (ls2 := [(2, vi (p1 + p2)), (0, vi p1), (1, vi p2)]) d_AS_hugeLength_3 rfl (by decide) rfl ?_
  refine z_iload_n 0 d_AS_hugeLength_4 rfl rfl ?_
  refine z_if_ge (tgt := 49) d_AS_hugeLength_5 (by decide) (fun c1 => ?_) (fun c1 => ?_)
  · rw [if_pos c1] at hf
    refine z_iload_n 0 d_AS_hugeLength_49 rfl rfl ?_
    refine z_ldc (v := (nI 2147483639)) d_AS_hugeLength_50 (by decide +kernel) ?_
    refine z_icmp_gt (tgt := 58) d_AS_hugeLength_52 (by decide) (fun c2 => ?_) (fun c2 => ?_)
    · rw [if_pos c2] at hf
      refine z_iload_n 0 d_AS_hugeLength_58 rfl rfl ?_
      obtain ⟨rfl, rfl⟩ := Prod.mk.inj (Option.some.inj hf)
      exact z_ret d_AS_hugeLength_59 rfl
    · rw [if_neg c2] at hf
      refine z_ldc (v := (nI 2147483639)) d_AS_hugeLength_55 (by decide +kernel) ?_
      obtain ⟨rfl, rfl⟩ := Prod.mk.inj (Option.some.inj hf)
      exact z_ret d_AS_hugeLength_57 rfl
  · rw [if_neg c1] at hf
    cases hf
set_option maxRecDepth 100000 in
set_option maxHeartbeats 4000000 in
theorem fr_AS_hugeLength {C : Ct} {mi : Nat} {p1 : Int32} {p2 : Int32} {h h' : Hp} {v : Int32} (hf : f_AS_hugeLength p1 p2 h = some (v, h')) : Keep W_AS_hugeLength h h' := by
  unfold f_AS_hugeLength at hf
  rcases Classical.em (0 ≤ (p1 + p2)) with c1 | c1
  · rw [if_pos c1] at hf
    rcases Classical.em ((nI 2147483639) < (p1 + p2)) with c2 | c2
    · rw [if_pos c2] at hf
      obtain ⟨rfl, rfl⟩ := Prod.mk.inj (Option.some.inj hf)
      exact (Keep.refl W_AS_hugeLength _)
    · rw [if_neg c2] at hf
      obtain ⟨rfl, rfl⟩ := Prod.mk.inj (Option.some.inj hf)
      exact (Keep.refl W_AS_hugeLength _)
  · rw [if_neg c1] at hf
    cases hf
theorem c_AS_hugeLength {l : Launch} {C : Ct} {mi : Nat} {p1 : Int32} {p2 : Int32} {h h' : Hp} {v : Int32} (hf : f_AS_hugeLength p1 p2 h = some (v, h')) : Mt l C mi m_AS_hugeLength 0 [vi p1, vi p2] h (some (vi v)) h' := mt_I (ty := .int) rfl rfl rfl (by decide) (Nat.le_of_ble_eq_true rfl) (zf_AS_hugeLength hf)
-- jdk/internal/util/ArraysSupport.newLength(III)I
def m_AS_newLength : Mi := (⟨"jdk/internal/util/ArraysSupport", "newLength", "(III)I"⟩, prog_27_method_27_code, 4, (Option.some Jvm.ClassFile.FieldType.int), .ireturn)
theorem cw_AS_newLength : cw_ok m_AS_newLength 3 := ⟨by decide +kernel, by decide +kernel, by decide +kernel, by decide +kernel⟩
theorem d_AS_newLength_0 : decode prog_27_method_27_code 0 = .ok (.iload_n 0, 1) := by decide +kernel
theorem d_AS_newLength_1 : decode prog_27_method_27_code 1 = .ok (.iload_n 1, 1) := by decide +kernel
theorem d_AS_newLength_2 : decode prog_27_method_27_code 2 = .ok (.iload_n 2, 1) := by decide +kernel
theorem d_AS_newLength_3 : decode prog_27_method_27_code 3 = .ok (.invokestatic 194, 3) := by decide +kernel
theorem d_AS_newLength_6 : decode prog_27_method_27_code 6 = .ok (.iadd, 1) := by decide +kernel
theorem d_AS_newLength_7 : decode prog_27_method_27_code 7 = .ok (.istore_n 3, 1) := by decide +kernel
theorem d_AS_newLength_8 : decode prog_27_method_27_code 8 = .ok (.iconst 0, 1) := by decide +kernel
theorem d_AS_newLength_9 : decode prog_27_method_27_code 9 = .ok (.iload_n 3, 1) := by decide +kernel
theorem d_AS_newLength_10 : decode prog_27_method_27_code 10 = .ok (.if_icmp .ge 11, 3) := by decide +kernel
theorem d_AS_newLength_13 : decode prog_27_method_27_code 13 = .ok (.iload_n 3, 1) := by decide +kernel
theorem d_AS_newLength_14 : decode prog_27_method_27_code 14 = .ok (.ldc 200, 2) := by decide +kernel
theorem d_AS_newLength_16 : decode prog_27_method_27_code 16 = .ok (.if_icmp .gt 5, 3) := by decide +kernel
theorem d_AS_newLength_19 : decode prog_27_method_27_code 19 = .ok (.iload_n 3, 1) := by decide +kernel
theorem d_AS_newLength_20 : decode prog_27_method_27_code 20 = .ok (.ireturn, 1) := by decide +kernel
theorem d_AS_newLength_21 : decode prog_27_method_27_code 21 = .ok (.iload_n 0, 1) := by decide +kernel
theorem d_AS_newLength_22 : decode prog_27_method_27_code 22 = .ok (.iload_n 1, 1) := by decide +kernel
theorem d_AS_newLength_23 : decode prog_27_method_27_code 23 = .ok (.invokestatic 201, 3) := by decide +kernel
theorem d_AS_newLength_26 : decode prog_27_method_27_code 26 = .ok (.ireturn, 1) := by decide +kernel
def W_AS_newLength : Wl := ([], [])
def j_AS_newLength_21_M (y0 : Int32) (y1 : Int32) (h : Hp) : Option (Int32 × Hp) :=
  cl (f_AS_hugeLength y0 y1 h) fun v4 h2 => some (v4, h2)
set_option maxRecDepth 100000 in
set_option maxHeartbeats 4000000 in
theorem zj_AS_newLength_21_M {l : Launch} {C : Ct} {mi : Nat} {y0 : Int32} {y1 : Int32} {h h' : Hp} {v : Int32} (hf : j_AS_newLength_21_M y0 y1 h = some (v, h')) : Z l C mi m_AS_newLength 1 21 [(0, vi y0), (1, vi y1)] [] h (some (vi v)) h' := by
  unfold j_AS_newLength_21_M at hf
  refine z_iload_n 0 d_AS_newLength_21 rfl rfl ?_
  refine z_iload_n 1 d_AS_newLength_22 rfl rfl ?_
  obtain ⟨v4, h2, ec3, hf⟩ := cl_some hf
  refine z_callS (c_AS_hugeLength ec3) d_AS_newLength_23 cw_AS_hugeLength lk_AS_201 (by decide +kernel) ⟨by decide, by decide⟩ (Nat.le_of_ble_eq_true rfl) rfl ?_
  obtain ⟨rfl, rfl⟩ := Prod.mk.inj (Option.some.inj hf)
  exact z_ret d_AS_newLength_26 rfl
set_option maxRecDepth 100000 in
set_option maxHeartbeats 4000000 in
theorem kj_AS_newLength_21_M {C : Ct} {mi : Nat} {y0 : Int32} {y1 : Int32} {h h' : Hp} {v : Int32} (hf : j_AS_newLength_21_M y0 y1 h = some (v, h')) : Keep W_AS_newLength h h' := by
  unfold j_AS_newLength_21_M at hf
  obtain ⟨v4, h2, ec3, hf⟩ := cl_some hf
  have K5 := (Keep.refl W_AS_newLength _).trans ((fr_AS_hugeLength (C := C) (mi := mi) ec3).mono (by decide) (by decide))
  obtain ⟨rfl, rfl⟩ := Prod.mk.inj (Option.some.inj hf)
  exact K5
def f_AS_newLength (p1 : Int32) (p2 : Int32) (p3 : Int32) (h : Hp) : Option (Int32 × Hp) :=
  if (p1 + (if p2 < p3 then p3 else p2)) ≤ (0 : Int32) then (j_AS_newLength_21_M p1 p2 h) else (if (nI 2147483639) < (p1 + (if p2 < p3 then p3 else p2)) then (j_AS_newLength_21_M p1 p2 h) else (some ((p1 + (if p2 < p3 then p3 else p2)), h)))
set_option maxRecDepth 100000 in
set_option maxHeartbeats 4000000 in
theorem zf_AS_newLength {l : Launch} {C : Ct} {mi : Nat} {p1 : Int32} {p2 : Int32} {p3 : Int32} {h h' : Hp} {v : Int32} (hf : f_AS_newLength p1 p2 p3 h = some (v, h')) : Z l C mi m_AS_newLength 1 0 [(0, vi p1), (1, vi p2), (2, vi p3)] [] h (some (vi v)) h' := by
  unfold f_AS_newLength at hf
  refine z_iload_n 0 d_AS_newLength_0 rfl rfl ?_
  refine z_iload_n 1 d_AS_newLength_1 rfl rfl ?_
  refine z_iload_n 2 d_AS_newLength_2 rfl rfl ?_
  refine z_mmax d_AS_newLength_3 (by decide +kernel) (by decide) (Nat.le_of_ble_eq_true rfl) ?_
  refine z_iadd d_AS_newLength_6 ?_
  refine z_istore_n (ls2 := [(3, vi (p1 + (if p2 < p3 then p3 else p2))), (0, vi p1), (1, vi p2), (2, vi p3)]) d_AS_newLength_7 rfl (by decide) rfl ?_
  refine z_iconst (v := (0 : Int32)) d_AS_newLength_8 (by decide) ?_
  refine z_iload_n 0 d_AS_newLength_9 rfl rfl ?_
  refine z_icmp_ge (tgt := 21) d_AS_newLength_10 (by decide) (fun c1 => ?_) (fun c1 => ?_)
  · rw [if_pos c1] at hf
    refine z_ls [1, 2] rfl ?_
    exact zj_AS_newLength_21_M hf
  · rw [if_neg c1] at hf
    refine z_iload_n 0 d_AS_newLength_13 rfl rfl ?_
    refine z_ldc (v := (nI 2147483639)) d_AS_newLength_14 (by decide +kernel) ?_
    refine z_icmp_gt (tgt := 21) d_AS_newLength_16 (by decide) (fun c6 => ?_) (fun c6 => ?_)
    · rw [if_pos c6] at hf
      refine z_ls [1, 2] rfl ?_
      exact zj_AS_newLength_21_M hf
    · rw [if_neg c6] at hf
      refine z_iload_n 0 d_AS_newLength_19 rfl rfl ?_
      obtain ⟨rfl, rfl⟩ := Prod.mk.inj (Option.some.inj hf)
      exact z_ret d_AS_newLength_20 rfl
set_option maxRecDepth 100000 in
set_option maxHeartbeats 4000000 in
theorem fr_AS_newLength {C : Ct} {mi : Nat} {p1 : Int32} {p2 : Int32} {p3 : Int32} {h h' : Hp} {v : Int32} (hf : f_AS_newLength p1 p2 p3 h = some (v, h')) : Keep W_AS_newLength h h' := by
  unfold f_AS_newLength at hf
  rcases Classical.em ((p1 + (if p2 < p3 then p3 else p2)) ≤ (0 : Int32)) with c1 | c1
  · rw [if_pos c1] at hf
    exact (Keep.refl W_AS_newLength _).trans (kj_AS_newLength_21_M (C := C) (mi := mi) hf)
  · rw [if_neg c1] at hf
    rcases Classical.em ((nI 2147483639) < (p1 + (if p2 < p3 then p3 else p2))) with c6 | c6
    · rw [if_pos c6] at hf
      exact (Keep.refl W_AS_newLength _).trans (kj_AS_newLength_21_M (C := C) (mi := mi) hf)
    · rw [if_neg c6] at hf
      obtain ⟨rfl, rfl⟩ := Prod.mk.inj (Option.some.inj hf)
      exact (Keep.refl W_AS_newLength _)
theorem c_AS_newLength {l : Launch} {C : Ct} {mi : Nat} {p1 : Int32} {p2 : Int32} {p3 : Int32} {h h' : Hp} {v : Int32} (hf : f_AS_newLength p1 p2 p3 h = some (v, h')) : Mt l C mi m_AS_newLength 1 [vi p1, vi p2, vi p3] h (some (vi v)) h' := mt_I (ty := .int) rfl rfl rfl (by decide) (Nat.le_of_ble_eq_true rfl) (zf_AS_newLength hf)
-- java/util/Arrays.copyOf([Ljava/lang/Object;ILjava/lang/Class;)[Ljava/lang/Object;
def m_Ar_copyOf2 : Mi := (⟨"java/util/Arrays", "copyOf", "([Ljava/lang/Object;ILjava/lang/Class;)[Ljava/lang/Object;"⟩, prog_21_method_120_code, 4, (Option.some (Jvm.ClassFile.FieldType.array (Jvm.ClassFile.FieldType.object "java/lang/Object"))), .areturn)
theorem cw_Ar_copyOf2 : cw_ok m_Ar_copyOf2 3 := ⟨by decide +kernel, by decide +kernel, by decide +kernel, by decide +kernel⟩
theorem d_Ar_copyOf2_0 : decode prog_21_method_120_code 0 = .ok (.aload_n 2, 1) := by decide +kernel
theorem d_Ar_copyOf2_1 : decode prog_21_method_120_code 1 = .ok (.ldc 110, 2) := by decide +kernel
theorem d_Ar_copyOf2_3 : decode prog_21_method_120_code 3 = .ok (.if_acmp .ne 10, 3) := by decide +kernel
theorem d_Ar_copyOf2_6 : decode prog_21_method_120_code 6 = .ok (.iload_n 1, 1) := by decide +kernel
theorem d_Ar_copyOf2_7 : decode prog_21_method_120_code 7 = .ok (.anewarray 2, 3) := by decide +kernel
theorem d_Ar_copyOf2_10 : decode prog_21_method_120_code 10 = .ok (.goto 14, 3) := by decide +kernel
theorem d_Ar_copyOf2_13 : decode prog_21_method_120_code 13 = .ok (.aload_n 2, 1) := by decide +kernel
theorem d_Ar_copyOf2_14 : decode prog_21_method_120_code 14 = .ok (.invokevirtual 90, 3) := by decide +kernel
theorem d_Ar_copyOf2_17 : decode prog_21_method_120_code 17 = .ok (.iload_n 1, 1) := by decide +kernel
theorem d_Ar_copyOf2_18 : decode prog_21_method_120_code 18 = .ok (.invokestatic 95, 3) := by decide +kernel
theorem d_Ar_copyOf2_21 : decode prog_21_method_120_code 21 = .ok (.checkcast 110, 3) := by decide +kernel
theorem d_Ar_copyOf2_24 : decode prog_21_method_120_code 24 = .ok (.astore_n 3, 1) := by decide +kernel
theorem d_Ar_copyOf2_25 : decode prog_21_method_120_code 25 = .ok (.aload_n 0, 1) := by decide +kernel
theorem d_Ar_copyOf2_26 : decode prog_21_method_120_code 26 = .ok (.iconst 0, 1) := by decide +kernel
theorem d_Ar_copyOf2_27 : decode prog_21_method_120_code 27 = .ok (.aload_n 3, 1) := by decide +kernel
theorem d_Ar_copyOf2_28 : decode prog_21_method_120_code 28 = .ok (.iconst 0, 1) := by decide +kernel
theorem d_Ar_copyOf2_29 : decode prog_21_method_120_code 29 = .ok (.aload_n 0, 1) := by decide +kernel
theorem d_Ar_copyOf2_30 : decode prog_21_method_120_code 30 = .ok (.arraylength, 1) := by decide +kernel
theorem d_Ar_copyOf2_31 : decode prog_21_method_120_code 31 = .ok (.iload_n 1, 1) := by decide +kernel
theorem d_Ar_copyOf2_32 : decode prog_21_method_120_code 32 = .ok (.invokestatic 304, 3) := by decide +kernel
theorem d_Ar_copyOf2_35 : decode prog_21_method_120_code 35 = .ok (.invokestatic 150, 3) := by decide +kernel
theorem d_Ar_copyOf2_38 : decode prog_21_method_120_code 38 = .ok (.aload_n 3, 1) := by decide +kernel
theorem d_Ar_copyOf2_39 : decode prog_21_method_120_code 39 = .ok (.areturn, 1) := by decide +kernel
def W_Ar_copyOf2 : Wl := ([], [73, 74])
def j_Ar_copyOf2_24_M (E : Nat × Nat) (y0 : Option Nat) (y1 : Int32) (w0 : Nat) (h : Hp) : Option (Option Nat × Hp) :=
  dr y0 fun a6 => gd (isA h a6 6) (gd (isO h a6 6) (gd (isO h w0 6) (gd (cpB h a6 w0 (0 : Int32) (0 : Int32) (if y1 < (Int32.ofNat (hpL h a6)) then y1 else (Int32.ofNat (hpL h a6)))) (gd (cpE h a6 (0 : Int32) (if y1 < (Int32.ofNat (hpL h a6)) then y1 else (Int32.ofNat (hpL h a6)))) (nm (cpR h a6 (0 : Int32).toNatClampNeg w0 (0 : Int32).toNatClampNeg (if y1 < (Int32.ofNat (hpL h a6)) then y1 else (Int32.ofNat (hpL h a6))).toNatClampNeg) fun h13 => some ((some w0), h13))))))
set_option maxRecDepth 100000 in
set_option maxHeartbeats 4000000 in
theorem zj_Ar_copyOf2_24_M {l : Launch} {C : Ct} {mi : Nat} {y0 : Option Nat} {y1 : Int32} {w0 : Nat} {h h' : Hp} {v : Option Nat} (hf : j_Ar_copyOf2_24_M (cE C, mi) y0 y1 w0 h = some (v, h')) : Z l C mi m_Ar_copyOf2 1 24 [(0, vr y0), (1, vi y1)] [vr (some w0)] h (some (vr v)) h' := by
  unfold j_Ar_copyOf2_24_M at hf
  refine z_astore_n (ls2 := [(3, vr (some w0)), (0, vr y0), (1, vi y1)]) d_Ar_copyOf2_24 rfl (by decide) rfl ?_
  refine z_aload_n 1 d_Ar_copyOf2_25 rfl rfl ?_
  refine z_iconst (v := (0 : Int32)) d_Ar_copyOf2_26 (by decide) ?_
  refine z_aload_n 0 d_Ar_copyOf2_27 rfl rfl ?_
  refine z_iconst (v := (0 : Int32)) d_Ar_copyOf2_28 (by decide) ?_
  refine z_aload_n 1 d_Ar_copyOf2_29 rfl rfl ?_
  obtain ⟨a6, e7, hf⟩ := dr_some hf
  obtain ⟨g8, hf⟩ := gd_some hf
  refine z_alen d_Ar_copyOf2_30 e7 (isA_eq g8).1 ?_
  refine z_iload_n 2 d_Ar_copyOf2_31 rfl rfl ?_
  refine z_mmin d_Ar_copyOf2_32 (by decide +kernel) (by decide) (Nat.le_of_ble_eq_true rfl) ?_
  obtain ⟨g9, hf⟩ := gd_some hf
  obtain ⟨g10, hf⟩ := gd_some hf
  obtain ⟨g11, hf⟩ := gd_some hf
  obtain ⟨g12, hf⟩ := gd_some hf
  obtain ⟨h13, eh14, hf⟩ := nm_some hf
  refine z_copyR d_Ar_copyOf2_35 (show Cond.methodLink _ _ _ ∈ lw_w by decide +kernel) (by decide) (Nat.le_of_ble_eq_true rfl) e7 rfl (isO_eq g9).1 (isO_eq g9).2 (isO_eq g10).1 (isO_eq g10).2 (cpB_eq g11).1 (cpB_eq g11).2.1 (cpB_eq g11).2.2.1 (cpB_eq g11).2.2.2.1 (cpB_eq g11).2.2.2.2 (cpE_ok g12) ?_
  refine z_hp eh14 ?_
  refine z_aload_n 0 d_Ar_copyOf2_38 rfl rfl ?_
  obtain ⟨rfl, rfl⟩ := Prod.mk.inj (Option.some.inj hf)
  exact z_ret d_Ar_copyOf2_39 rfl
set_option maxRecDepth 100000 in
set_option maxHeartbeats 4000000 in
theorem kj_Ar_copyOf2_24_M {C : Ct} {mi : Nat} {y0 : Option Nat} {y1 : Int32} {w0 : Nat} {h h' : Hp} {v : Option Nat} (hf : j_Ar_copyOf2_24_M (cE C, mi) y0 y1 w0 h = some (v, h')) : Keep W_Ar_copyOf2 h h' := by
  unfold j_Ar_copyOf2_24_M at hf
  obtain ⟨a6, e7, hf⟩ := dr_some hf
  obtain ⟨g8, hf⟩ := gd_some hf
  obtain ⟨g9, hf⟩ := gd_some hf
  obtain ⟨g10, hf⟩ := gd_some hf
  obtain ⟨g11, hf⟩ := gd_some hf
  obtain ⟨g12, hf⟩ := gd_some hf
  obtain ⟨h13, eh14, hf⟩ := nm_some hf
  have K15 := (Keep.refl W_Ar_copyOf2 _).trans (kw_cO eh14 g10 (by decide) (by decide))
  obtain ⟨rfl, rfl⟩ := Prod.mk.inj (Option.some.inj hf)
  exact K15
def f_Ar_copyOf2 (E : Nat × Nat) (p1 : Option Nat) (p2 : Int32) (p3 : Option Nat) (h : Hp) : Option (Option Nat × Hp) :=
  if p3 = (some E.2) then (gd (lnB p2) (nm (nw h 73 p2.toNatClampNeg p2.toNatClampNeg) fun h3 => j_Ar_copyOf2_24_M E p1 p2 (hpN h) h3)) else (none)
set_option maxRecDepth 100000 in
set_option maxHeartbeats 4000000 in
theorem zf_Ar_copyOf2 {l : Launch} {C : Ct} {mi : Nat} {p1 : Option Nat} {p2 : Int32} {p3 : Option Nat} {h h' : Hp} {v : Option Nat} (hf : f_Ar_copyOf2 (cE C, mi) p1 p2 p3 h = some (v, h')) : Z l C mi m_Ar_copyOf2 1 0 [(0, vr p1), (1, vi p2), (2, vr p3)] [] h (some (vr v)) h' := by
  unfold f_Ar_copyOf2 at hf
  refine z_aload_n 2 d_Ar_copyOf2_0 rfl rfl ?_
  refine z_ldcM d_Ar_copyOf2_1 (by decide +kernel) ?_
  refine z_acmp_ne (tgt := 13) d_Ar_copyOf2_3 (by decide) (fun c1 => ?_) (fun c1 => ?_)
  · rw [if_neg c1] at hf
    refine z_aload_n 2 d_Ar_copyOf2_13 rfl rfl ?_
    cases hf
  · rw [if_pos c1] at hf
    refine z_iload_n 1 d_Ar_copyOf2_6 rfl rfl ?_
    obtain ⟨g2, hf⟩ := gd_some hf
    obtain ⟨h3, eh4, hf⟩ := nm_some hf
    refine z_newR (N := p2.toNatClampNeg) (κ := 73) (t := 6) d_Ar_copyOf2_7 (by decide +kernel) (by decide +kernel) (by decide) (by decide) rfl (lnB_eq g2).1 rfl (lnB_eq g2).2 ?_
    refine z_hp eh4 ?_
    refine z_goto (tgt := 24) d_Ar_copyOf2_10 (by decide) ?_
    refine z_ls [0, 1] rfl ?_
    exact zj_Ar_copyOf2_24_M hf
set_option maxRecDepth 100000 in
set_option maxHeartbeats 4000000 in
theorem fr_Ar_copyOf2 {C : Ct} {mi : Nat} {p1 : Option Nat} {p2 : Int32} {p3 : Option Nat} {h h' : Hp} {v : Option Nat} (hf : f_Ar_copyOf2 (cE C, mi) p1 p2 p3 h = some (v, h')) : Keep W_Ar_copyOf2 h h' := by
  unfold f_Ar_copyOf2 at hf
  rcases (Classical.em (p3 = (some mi))).symm with c1 | c1
  · rw [if_neg c1] at hf
    cases hf
  · rw [if_pos c1] at hf
    obtain ⟨g2, hf⟩ := gd_some hf
    obtain ⟨h3, eh4, hf⟩ := nm_some hf
    have K5 := (Keep.refl W_Ar_copyOf2 _).trans (kw_N eh4)
    exact K5.trans (kj_Ar_copyOf2_24_M (C := C) (mi := mi) hf)
theorem c_Ar_copyOf2 {l : Launch} {C : Ct} {mi : Nat} {p1 : Option Nat} {p2 : Int32} {p3 : Option Nat} {h h' : Hp} {v : Option Nat} (hf : f_Ar_copyOf2 (cE C, mi) p1 p2 p3 h = some (v, h')) : Mt l C mi m_Ar_copyOf2 1 [vr p1, vi p2, vr p3] h (some (vr v)) h' := mt_R rfl (Or.inr ⟨_, rfl⟩) rfl (by decide) (Nat.le_of_ble_eq_true rfl) (zf_Ar_copyOf2 hf)
-- java/util/Arrays.copyOf([Ljava/lang/Object;I)[Ljava/lang/Object;
def m_Ar_copyOf1 : Mi := (⟨"java/util/Arrays", "copyOf", "([Ljava/lang/Object;I)[Ljava/lang/Object;"⟩, prog_21_method_119_code, 2, (Option.some (Jvm.ClassFile.FieldType.array (Jvm.ClassFile.FieldType.object "java/lang/Object"))), .areturn)
theorem cw_Ar_copyOf1 : cw_ok m_Ar_copyOf1 2 := ⟨by decide +kernel, by decide +kernel, by decide +kernel, by decide +kernel⟩
theorem d_Ar_copyOf1_0 : decode prog_21_method_119_code 0 = .ok (.aload_n 0, 1) := by decide +kernel
theorem d_Ar_copyOf1_1 : decode prog_21_method_119_code 1 = .ok (.iload_n 1, 1) := by decide +kernel
theorem d_Ar_copyOf1_2 : decode prog_21_method_119_code 2 = .ok (.aload_n 0, 1) := by decide +kernel
theorem d_Ar_copyOf1_3 : decode prog_21_method_119_code 3 = .ok (.invokevirtual 86, 3) := by decide +kernel
theorem d_Ar_copyOf1_6 : decode prog_21_method_119_code 6 = .ok (.invokestatic 300, 3) := by decide +kernel
theorem d_Ar_copyOf1_9 : decode prog_21_method_119_code 9 = .ok (.areturn, 1) := by decide +kernel
def W_Ar_copyOf1 : Wl := ([], [73, 74])
def f_Ar_copyOf1 (E : Nat × Nat) (p1 : Option Nat) (p2 : Int32) (h : Hp) : Option (Option Nat × Hp) :=
  dr p1 fun a1 => gd (isO h a1 6) (cl (f_Ar_copyOf2 E p1 p2 (some E.2) h) fun v6 h4 => some (v6, h4))
set_option maxRecDepth 100000 in
set_option maxHeartbeats 4000000 in
theorem zf_Ar_copyOf1 {l : Launch} {C : Ct} {mi : Nat} {p1 : Option Nat} {p2 : Int32} {h h' : Hp} {v : Option Nat} (hf : f_Ar_copyOf1 (cE C, mi) p1 p2 h = some (v, h')) : Z l C mi m_Ar_copyOf1 2 0 [(0, vr p1), (1, vi p2)] [] h (some (vr v)) h' := by
  unfold f_Ar_copyOf1 at hf
  refine z_aload_n 0 d_Ar_copyOf1_0 rfl rfl ?_
  refine z_iload_n 1 d_Ar_copyOf1_1 rfl rfl ?_
  refine z_aload_n 0 d_Ar_copyOf1_2 rfl rfl ?_
  obtain ⟨a1, e2, hf⟩ := dr_some hf
  obtain ⟨g3, hf⟩ := gd_some hf
  refine z_getC d_Ar_copyOf1_3 (by decide +kernel) (by decide +kernel) e2 (isO_eq g3).1 (isO_eq g3).2 (by decide) (Nat.le_of_ble_eq_true rfl) ?_
  obtain ⟨v6, h4, ec5, hf⟩ := cl_some hf
  refine z_callS (c_Ar_copyOf2 ec5) d_Ar_copyOf1_6 cw_Ar_copyOf2 lk_Ar_300 (by decide +kernel) ⟨by decide, by decide⟩ (Nat.le_of_ble_eq_true rfl) rfl ?_
  obtain ⟨rfl, rfl⟩ := Prod.mk.inj (Option.some.inj hf)
  exact z_ret d_Ar_copyOf1_9 rfl
set_option maxRecDepth 100000 in
set_option maxHeartbeats 4000000 in
theorem fr_Ar_copyOf1 {C : Ct} {mi : Nat} {p1 : Option Nat} {p2 : Int32} {h h' : Hp} {v : Option Nat} (hf : f_Ar_copyOf1 (cE C, mi) p1 p2 h = some (v, h')) : Keep W_Ar_copyOf1 h h' := by
  unfold f_Ar_copyOf1 at hf
  obtain ⟨a1, e2, hf⟩ := dr_some hf
  obtain ⟨g3, hf⟩ := gd_some hf
  obtain ⟨v6, h4, ec5, hf⟩ := cl_some hf
  have K7 := (Keep.refl W_Ar_copyOf1 _).trans ((fr_Ar_copyOf2 (C := C) (mi := mi) ec5).mono (by decide) (by decide))
  obtain ⟨rfl, rfl⟩ := Prod.mk.inj (Option.some.inj hf)
  exact K7
theorem c_Ar_copyOf1 {l : Launch} {C : Ct} {mi : Nat} {p1 : Option Nat} {p2 : Int32} {h h' : Hp} {v : Option Nat} (hf : f_Ar_copyOf1 (cE C, mi) p1 p2 h = some (v, h')) : Mt l C mi m_Ar_copyOf1 2 [vr p1, vi p2] h (some (vr v)) h' := mt_R rfl (Or.inr ⟨_, rfl⟩) rfl (by decide) (Nat.le_of_ble_eq_true rfl) (zf_Ar_copyOf1 hf)
-- java/util/ArrayList.grow(I)[Ljava/lang/Object;
def m_A_grow2 : Mi := (⟨"java/util/ArrayList", "grow", "(I)[Ljava/lang/Object;"⟩, prog_20_method_6_code, 4, (Option.some (Jvm.ClassFile.FieldType.array (Jvm.ClassFile.FieldType.object "java/lang/Object"))), .areturn)
theorem cw_A_grow2 : cw_ok m_A_grow2 1 := ⟨by decide +kernel, by decide +kernel, by decide +kernel, by decide +kernel⟩
theorem im_A_grow2 : Cond.instanceMethod m_A_grow2.1 ∈ lw_w := by decide +kernel
theorem se_A_grow2 : Cond.selects "java/util/ArrayList" m_A_grow2.1 m_A_grow2.1 ∈ lw_w := by decide +kernel
theorem d_A_grow2_0 : decode prog_20_method_6_code 0 = .ok (.aload_n 0, 1) := by decide +kernel
theorem d_A_grow2_1 : decode prog_20_method_6_code 1 = .ok (.getfield 9, 3) := by decide +kernel
theorem d_A_grow2_4 : decode prog_20_method_6_code 4 = .ok (.arraylength, 1) := by decide +kernel
theorem d_A_grow2_5 : decode prog_20_method_6_code 5 = .ok (.istore_n 2, 1) := by decide +kernel
theorem d_A_grow2_6 : decode prog_20_method_6_code 6 = .ok (.iload_n 2, 1) := by decide +kernel
theorem d_A_grow2_7 : decode prog_20_method_6_code 7 = .ok (.ifCond .gt 13, 3) := by decide +kernel
theorem d_A_grow2_10 : decode prog_20_method_6_code 10 = .ok (.aload_n 0, 1) := by decide +kernel
theorem d_A_grow2_11 : decode prog_20_method_6_code 11 = .ok (.getfield 9, 3) := by decide +kernel
theorem d_A_grow2_14 : decode prog_20_method_6_code 14 = .ok (.getstatic 39, 3) := by decide +kernel
theorem d_A_grow2_17 : decode prog_20_method_6_code 17 = .ok (.if_acmp .eq 28, 3) := by decide +kernel
theorem d_A_grow2_20 : decode prog_20_method_6_code 20 = .ok (.iload_n 2, 1) := by decide +kernel
theorem d_A_grow2_21 : decode prog_20_method_6_code 21 = .ok (.iload_n 1, 1) := by decide +kernel
theorem d_A_grow2_22 : decode prog_20_method_6_code 22 = .ok (.iload_n 2, 1) := by decide +kernel
theorem d_A_grow2_23 : decode prog_20_method_6_code 23 = .ok (.isub, 1) := by decide +kernel
theorem d_A_grow2_24 : decode prog_20_method_6_code 24 = .ok (.iload_n 2, 1) := by decide +kernel
theorem d_A_grow2_25 : decode prog_20_method_6_code 25 = .ok (.iconst 1, 1) := by decide +kernel
theorem d_A_grow2_26 : decode prog_20_method_6_code 26 = .ok (.ishr, 1) := by decide +kernel
theorem d_A_grow2_27 : decode prog_20_method_6_code 27 = .ok (.invokestatic 73, 3) := by decide +kernel
theorem d_A_grow2_30 : decode prog_20_method_6_code 30 = .ok (.istore_n 3, 1) := by decide +kernel
theorem d_A_grow2_31 : decode prog_20_method_6_code 31 = .ok (.aload_n 0, 1) := by decide +kernel
theorem d_A_grow2_32 : decode prog_20_method_6_code 32 = .ok (.aload_n 0, 1) := by decide +kernel
theorem d_A_grow2_33 : decode prog_20_method_6_code 33 = .ok (.getfield 9, 3) := by decide +kernel
theorem d_A_grow2_36 : decode prog_20_method_6_code 36 = .ok (.iload_n 3, 1) := by decide +kernel
theorem d_A_grow2_37 : decode prog_20_method_6_code 37 = .ok (.invokestatic 66, 3) := by decide +kernel
theorem d_A_grow2_40 : decode prog_20_method_6_code 40 = .ok (.dup_x1, 1) := by decide +kernel
theorem d_A_grow2_41 : decode prog_20_method_6_code 41 = .ok (.putfield 9, 3) := by decide +kernel
theorem d_A_grow2_44 : decode prog_20_method_6_code 44 = .ok (.areturn, 1) := by decide +kernel
theorem d_A_grow2_45 : decode prog_20_method_6_code 45 = .ok (.aload_n 0, 1) := by decide +kernel
theorem d_A_grow2_46 : decode prog_20_method_6_code 46 = .ok (.bipush 10, 2) := by decide +kernel
theorem d_A_grow2_48 : decode prog_20_method_6_code 48 = .ok (.iload_n 1, 1) := by decide +kernel
theorem d_A_grow2_49 : decode prog_20_method_6_code 49 = .ok (.invokestatic 79, 3) := by decide +kernel
theorem d_A_grow2_52 : decode prog_20_method_6_code 52 = .ok (.anewarray 7, 3) := by decide +kernel
theorem d_A_grow2_55 : decode prog_20_method_6_code 55 = .ok (.dup_x1, 1) := by decide +kernel
theorem d_A_grow2_56 : decode prog_20_method_6_code 56 = .ok (.putfield 9, 3) := by decide +kernel
theorem d_A_grow2_59 : decode prog_20_method_6_code 59 = .ok (.areturn, 1) := by decide +kernel
def W_A_grow2 : Wl := ([(9, 0)], [73, 74])
def j_A_grow2_20_M (E : Nat × Nat) (y0 : Nat) (y1 : Int32) (y2 : Int32) (h : Hp) : Option (Option Nat × Hp) :=
  cl (f_AS_newLength y2 (y1 - y2) (y2 >>> ((1 : Int32) &&& 31)) h) fun v8 h6 => gd (isK h6 y0 9) (cl (f_Ar_copyOf1 E (hpR h6 y0 0) v8 h6) fun v13 h11 => gd (isK h11 y0 9) (nm (wR h11 y0 0 v13) fun h16 => some (v13, h16)))
set_option maxRecDepth 100000 in
set_option maxHeartbeats 4000000 in
theorem zj_A_grow2_20_M {l : Launch} {C : Ct} {mi : Nat} {y0 : Nat} {y1 : Int32} {y2 : Int32} {h h' : Hp} {v : Option Nat} (hf : j_A_grow2_20_M (cE C, mi) y0 y1 y2 h = some (v, h')) : Z l C mi m_A_grow2 3 20 [(0, vr (some y0)), (1, vi y1), (2, vi y2)] [] h (some (vr v)) h' := by
  unfold j_A_grow2_20_M at hf
  refine z_iload_n 2 d_A_grow2_20 rfl rfl ?_
  refine z_iload_n 1 d_A_grow2_21 rfl rfl ?_
  refine z_iload_n 2 d_A_grow2_22 rfl rfl ?_
  refine z_isub d_A_grow2_23 ?_
  refine z_iload_n 2 d_A_grow2_24 rfl rfl ?_
  refine z_iconst (v := (1 : Int32)) d_A_grow2_25 (by decide) ?_
  refine z_ishr d_A_grow2_26 ?_
  obtain ⟨v8, h6, ec7, hf⟩ := cl_some hf
  refine z_callS (c_AS_newLength ec7) d_A_grow2_27 cw_AS_newLength lk_A_73 (by decide +kernel) ⟨by decide, by decide⟩ (Nat.le_of_ble_eq_true rfl) rfl ?_
  refine z_istore_n (ls2 := [(3, vi v8), (0, vr (some y0)), (1, vi y1), (2, vi y2)]) d_A_grow2_30 rfl (by decide) rfl ?_
  refine z_aload_n 1 d_A_grow2_31 rfl rfl ?_
  refine z_aload_n 1 d_A_grow2_32 rfl rfl ?_
  obtain ⟨g10, hf⟩ := gd_some hf
  refine z_getR d_A_grow2_33 (fl_K (isK_eq g10) fl_A_9_9) (fi_K (isK_eq g10) rfl) rfl ?_
  refine z_iload_n 0 d_A_grow2_36 rfl rfl ?_
  obtain ⟨v13, h11, ec12, hf⟩ := cl_some hf
  refine z_callS (c_Ar_copyOf1 ec12) d_A_grow2_37 cw_Ar_copyOf1 lk_A_66 (by decide +kernel) ⟨by decide, by decide⟩ (Nat.le_of_ble_eq_true rfl) rfl ?_
  refine z_dup_x1 d_A_grow2_40 rfl rfl ?_
  obtain ⟨g15, hf⟩ := gd_some hf
  obtain ⟨h16, eh17, hf⟩ := nm_some hf
  refine z_putR d_A_grow2_41 (fl_K (isK_eq g15) fl_A_9_9) (pu_K (isK_eq g15) (fun q hq => by cases (Option.some.inj hq); exact Or.inl rfl)) (fi_K (isK_eq g15) rfl) rfl ?_
  refine z_hp eh17 ?_
  obtain ⟨rfl, rfl⟩ := Prod.mk.inj (Option.some.inj hf)
  exact z_ret d_A_grow2_44 rfl
set_option maxRecDepth 100000 in
set_option maxHeartbeats 4000000 in
theorem kj_A_grow2_20_M {C : Ct} {mi : Nat} {y0 : Nat} {y1 : Int32} {y2 : Int32} {h h' : Hp} {v : Option Nat} (hf : j_A_grow2_20_M (cE C, mi) y0 y1 y2 h = some (v, h')) : Keep W_A_grow2 h h' := by
  unfold j_A_grow2_20_M at hf
  obtain ⟨v8, h6, ec7, hf⟩ := cl_some hf
  have K9 := (Keep.refl W_A_grow2 _).trans ((fr_AS_newLength (C := C) (mi := mi) ec7).mono (by decide) (by decide))
  obtain ⟨g10, hf⟩ := gd_some hf
  obtain ⟨v13, h11, ec12, hf⟩ := cl_some hf
  have K14 := K9.trans ((fr_Ar_copyOf1 (C := C) (mi := mi) ec12).mono (by decide) (by decide))
  obtain ⟨g15, hf⟩ := gd_some hf
  obtain ⟨h16, eh17, hf⟩ := nm_some hf
  have K18 := K14.trans (kw_R eh17 (isK_eq g15) (Or.inl (by decide)))
  obtain ⟨rfl, rfl⟩ := Prod.mk.inj (Option.some.inj hf)
  exact K18
def f_A_grow2 (E : Nat × Nat) (a0 : Nat) (p1 : Int32) (h : Hp) : Option (Option Nat × Hp) :=
  gd (isK h a0 9) (dr (hpR h a0 0) fun a2 => gd (isA h a2 6) (if 0 < (Int32.ofNat (hpL h a2)) then (j_A_grow2_20_M E a0 p1 (Int32.ofNat (hpL h a2)) h) else (if (hpR h a0 0) = (some E.1) then (gd (lnB (if (nI 10) < p1 then p1 else (nI 10))) (nm (nw h 74 (if (nI 10) < p1 then p1 else (nI 10)).toNatClampNeg (if (nI 10) < p1 then p1 else (nI 10)).toNatClampNeg) fun h21 => gd (isK h21 a0 9) (nm (wR h21 a0 0 (some (hpN h))) fun h25 => some ((some (hpN h)), h25)))) else (j_A_grow2_20_M E a0 p1 (Int32.ofNat (hpL h a2)) h))))
set_option maxRecDepth 100000 in
set_option maxHeartbeats 4000000 in
theorem zf_A_grow2 {l : Launch} {C : Ct} {mi : Nat} {a0 : Nat} {p1 : Int32} {h h' : Hp} {v : Option Nat} (hf : f_A_grow2 (cE C, mi) a0 p1 h = some (v, h')) : Z l C mi m_A_grow2 3 0 [(0, vr (some a0)), (1, vi p1)] [] h (some (vr v)) h' := by
  unfold f_A_grow2 at hf
  refine z_aload_n 0 d_A_grow2_0 rfl rfl ?_
  obtain ⟨g1, hf⟩ := gd_some hf
  refine z_getR d_A_grow2_1 (fl_K (isK_eq g1) fl_A_9_9) (fi_K (isK_eq g1) rfl) rfl ?_
  obtain ⟨a2, e3, hf⟩ := dr_some hf
  obtain ⟨g4, hf⟩ := gd_some hf
  refine z_alen d_A_grow2_4 e3 (isA_eq g4).1 ?_
  refine z_istore_n (ls2 := [(2, vi (Int32.ofNat (hpL h a2))), (0, vr (some a0)), (1, vi p1)]) d_A_grow2_5 rfl (by decide) rfl ?_
  refine z_iload_n 0 d_A_grow2_6 rfl rfl ?_
  refine z_if_gt (tgt := 20) d_A_grow2_7 (by decide) (fun c5 => ?_) (fun c5 => ?_)
  · rw [if_pos c5] at hf
    refine z_ls [1, 2, 0] rfl ?_
    exact zj_A_grow2_20_M hf
  · rw [if_neg c5] at hf
    refine z_aload_n 1 d_A_grow2_10 rfl rfl ?_
    refine z_getR d_A_grow2_11 (fl_K (isK_eq g1) fl_A_9_9) (fi_K (isK_eq g1) rfl) rfl ?_
    refine z_gets d_A_grow2_14 (by decide +kernel) ?_
    refine z_acmp_eq (tgt := 45) d_A_grow2_17 (by decide) (fun c19 => ?_) (fun c19 => ?_)
    · rw [if_pos c19] at hf
      refine z_aload_n 1 d_A_grow2_45 rfl rfl ?_
      refine z_bipush (v := (nI 10)) d_A_grow2_46 (by decide) ?_
      refine z_iload_n 2 d_A_grow2_48 rfl rfl ?_
      refine z_mmax d_A_grow2_49 (by decide +kernel) (by decide) (Nat.le_of_ble_eq_true rfl) ?_
      obtain ⟨g20, hf⟩ := gd_some hf
      obtain ⟨h21, eh22, hf⟩ := nm_some hf
      refine z_newR (N := (if (nI 10) < p1 then p1 else (nI 10)).toNatClampNeg) (κ := 74) (t := 6) d_A_grow2_52 (by decide +kernel) (by decide +kernel) (by decide) (by decide) rfl (lnB_eq g20).1 rfl (lnB_eq g20).2 ?_
      refine z_hp eh22 ?_
      refine z_dup_x1 d_A_grow2_55 rfl rfl ?_
      obtain ⟨g24, hf⟩ := gd_some hf
      obtain ⟨h25, eh26, hf⟩ := nm_some hf
      refine z_putR d_A_grow2_56 (fl_K (isK_eq g24) fl_A_9_9) (pu_K (isK_eq g24) (fun q hq => by cases (Option.some.inj hq); exact Or.inl rfl)) (fi_K (isK_eq g24) rfl) rfl ?_
      refine z_hp eh26 ?_
      obtain ⟨rfl, rfl⟩ := Prod.mk.inj (Option.some.inj hf)
      exact z_ret d_A_grow2_59 rfl
    · rw [if_neg c19] at hf
      refine z_ls [1, 2, 0] rfl ?_
      exact zj_A_grow2_20_M hf
set_option maxRecDepth 100000 in
set_option maxHeartbeats 4000000 in
theorem fr_A_grow2 {C : Ct} {mi : Nat} {a0 : Nat} {p1 : Int32} {h h' : Hp} {v : Option Nat} (hf : f_A_grow2 (cE C, mi) a0 p1 h = some (v, h')) : Keep W_A_grow2 h h' := by
  unfold f_A_grow2 at hf
  obtain ⟨g1, hf⟩ := gd_some hf
  obtain ⟨a2, e3, hf⟩ := dr_some hf
  obtain ⟨g4, hf⟩ := gd_some hf
  rcases Classical.em (0 < (Int32.ofNat (hpL h a2))) with c5 | c5
  · rw [if_pos c5] at hf
    exact (Keep.refl W_A_grow2 _).trans (kj_A_grow2_20_M (C := C) (mi := mi) hf)
  · rw [if_neg c5] at hf
    rcases Classical.em ((hpR h a0 0) = (some (cE C))) with c19 | c19
    · rw [if_pos c19] at hf
      obtain ⟨g20, hf⟩ := gd_some hf
      obtain ⟨h21, eh22, hf⟩ := nm_some hf
      have K23 := (Keep.refl W_A_grow2 _).trans (kw_N eh22)
      obtain ⟨g24, hf⟩ := gd_some hf
      obtain ⟨h25, eh26, hf⟩ := nm_some hf
      have K27 := K23.trans (kw_R eh26 (isK_eq g24) (Or.inl (by decide)))
      obtain ⟨rfl, rfl⟩ := Prod.mk.inj (Option.some.inj hf)
      exact K27
    · rw [if_neg c19] at hf
      exact (Keep.refl W_A_grow2 _).trans (kj_A_grow2_20_M (C := C) (mi := mi) hf)
theorem c_A_grow2 {l : Launch} {C : Ct} {mi : Nat} {a0 : Nat} {p1 : Int32} {h h' : Hp} {v : Option Nat} (hf : f_A_grow2 (cE C, mi) a0 p1 h = some (v, h')) : Mt l C mi m_A_grow2 3 [vr (some a0), vi p1] h (some (vr v)) h' := mt_R rfl (Or.inr ⟨_, rfl⟩) rfl (by decide) (Nat.le_of_ble_eq_true rfl) (zf_A_grow2 hf)
-- java/util/ArrayList.grow()[Ljava/lang/Object;
def m_A_grow1 : Mi := (⟨"java/util/ArrayList", "grow", "()[Ljava/lang/Object;"⟩, prog_20_method_7_code, 1, (Option.some (Jvm.ClassFile.FieldType.array (Jvm.ClassFile.FieldType.object "java/lang/Object"))), .areturn)
theorem cw_A_grow1 : cw_ok m_A_grow1 0 := ⟨by decide +kernel, by decide +kernel, by decide +kernel, by decide +kernel⟩
theorem im_A_grow1 : Cond.instanceMethod m_A_grow1.1 ∈ lw_w := by decide +kernel
theorem se_A_grow1 : Cond.selects "java/util/ArrayList" m_A_grow1.1 m_A_grow1.1 ∈ lw_w := by decide +kernel
theorem d_A_grow1_0 : decode prog_20_method_7_code 0 = .ok (.aload_n 0, 1) := by decide +kernel
theorem d_A_grow1_1 : decode prog_20_method_7_code 1 = .ok (.aload_n 0, 1) := by decide +kernel
theorem d_A_grow1_2 : decode prog_20_method_7_code 2 = .ok (.getfield 48, 3) := by decide +kernel
theorem d_A_grow1_5 : decode prog_20_method_7_code 5 = .ok (.iconst 1, 1) := by decide +kernel
theorem d_A_grow1_6 : decode prog_20_method_7_code 6 = .ok (.iadd, 1) := by decide +kernel
theorem d_A_grow1_7 : decode prog_20_method_7_code 7 = .ok (.invokevirtual 69, 3) := by decide +kernel
theorem d_A_grow1_10 : decode prog_20_method_7_code 10 = .ok (.areturn, 1) := by decide +kernel
def W_A_grow1 : Wl := ([(9, 0)], [73, 74])
def f_A_grow1 (E : Nat × Nat) (a0 : Nat) (h : Hp) : Option (Option Nat × Hp) :=
  gd (isK h a0 9) (cl (f_A_grow2 E a0 ((hpI h a0 1) + (1 : Int32)) h) fun v4 h2 => some (v4, h2))
set_option maxRecDepth 100000 in
set_option maxHeartbeats 4000000 in
theorem zf_A_grow1 {l : Launch} {C : Ct} {mi : Nat} {a0 : Nat} {h h' : Hp} {v : Option Nat} (hf : f_A_grow1 (cE C, mi) a0 h = some (v, h')) : Z l C mi m_A_grow1 4 0 [(0, vr (some a0))] [] h (some (vr v)) h' := by
  unfold f_A_grow1 at hf
  refine z_aload_n 0 d_A_grow1_0 rfl rfl ?_
  refine z_aload_n 0 d_A_grow1_1 rfl rfl ?_
  obtain ⟨g1, hf⟩ := gd_some hf
  refine z_getI d_A_grow1_2 (fl_K (isK_eq g1) fl_A_48_9) (fi_K (isK_eq g1) rfl) rfl ?_
  refine z_iconst (v := (1 : Int32)) d_A_grow1_5 (by decide) ?_
  refine z_iadd d_A_grow1_6 ?_
  obtain ⟨v4, h2, ec3, hf⟩ := cl_some hf
  refine z_callVx rfl (c_A_grow2 ec3) d_A_grow1_7 cw_A_grow2 lk_A_69 im_A_grow2 se_A_grow2 (kc_K (isK_eq g1) kc_9) ⟨by decide, by decide⟩ (Nat.le_of_ble_eq_true rfl) rfl ?_
  obtain ⟨rfl, rfl⟩ := Prod.mk.inj (Option.some.inj hf)
  exact z_ret d_A_grow1_10 rfl
set_option maxRecDepth 100000 in
set_option maxHeartbeats 4000000 in
theorem fr_A_grow1 {C : Ct} {mi : Nat} {a0 : Nat} {h h' : Hp} {v : Option Nat} (hf : f_A_grow1 (cE C, mi) a0 h = some (v, h')) : Keep W_A_grow1 h h' := by
  unfold f_A_grow1 at hf
  obtain ⟨g1, hf⟩ := gd_some hf
  obtain ⟨v4, h2, ec3, hf⟩ := cl_some hf
  have K5 := (Keep.refl W_A_grow1 _).trans ((fr_A_grow2 (C := C) (mi := mi) ec3).mono (by decide) (by decide))
  obtain ⟨rfl, rfl⟩ := Prod.mk.inj (Option.some.inj hf)
  exact K5
theorem c_A_grow1 {l : Launch} {C : Ct} {mi : Nat} {a0 : Nat} {h h' : Hp} {v : Option Nat} (hf : f_A_grow1 (cE C, mi) a0 h = some (v, h')) : Mt l C mi m_A_grow1 4 [vr (some a0)] h (some (vr v)) h' := mt_R rfl (Or.inr ⟨_, rfl⟩) rfl (by decide) (Nat.le_of_ble_eq_true rfl) (zf_A_grow1 hf)
-- java/util/ArrayList.add(Ljava/lang/Object;[Ljava/lang/Object;I)V
def m_A_add2 : Mi := (⟨"java/util/ArrayList", "add", "(Ljava/lang/Object;[Ljava/lang/Object;I)V"⟩, prog_20_method_24_code, 4, (Option.none : Option Jvm.ClassFile.FieldType), .return_)
theorem cw_A_add2 : cw_ok m_A_add2 3 := ⟨by decide +kernel, by decide +kernel, by decide +kernel, by decide +kernel⟩
theorem im_A_add2 : Cond.instanceMethod m_A_add2.1 ∈ lw_w := by decide +kernel
theorem se_A_add2 : Cond.selects "java/util/ArrayList" m_A_add2.1 m_A_add2.1 ∈ lw_w := by decide +kernel
theorem d_A_add2_0 : decode prog_20_method_24_code 0 = .ok (.iload_n 3, 1) := by decide +kernel
theorem d_A_add2_1 : decode prog_20_method_24_code 1 = .ok (.aload_n 2, 1) := by decide +kernel
theorem d_A_add2_2 : decode prog_20_method_24_code 2 = .ok (.arraylength, 1) := by decide +kernel
theorem d_A_add2_3 : decode prog_20_method_24_code 3 = .ok (.if_icmp .ne 8, 3) := by decide +kernel
theorem d_A_add2_6 : decode prog_20_method_24_code 6 = .ok (.aload_n 0, 1) := by decide +kernel
theorem d_A_add2_7 : decode prog_20_method_24_code 7 = .ok (.invokevirtual 129, 3) := by decide +kernel
theorem d_A_add2_10 : decode prog_20_method_24_code 10 = .ok (.astore_n 2, 1) := by decide +kernel
theorem d_A_add2_11 : decode prog_20_method_24_code 11 = .ok (.aload_n 2, 1) := by decide +kernel
theorem d_A_add2_12 : decode prog_20_method_24_code 12 = .ok (.iload_n 3, 1) := by decide +kernel
theorem d_A_add2_13 : decode prog_20_method_24_code 13 = .ok (.aload_n 1, 1) := by decide +kernel
theorem d_A_add2_14 : decode prog_20_method_24_code 14 = .ok (.aastore, 1) := by decide +kernel
theorem d_A_add2_15 : decode prog_20_method_24_code 15 = .ok (.aload_n 0, 1) := by decide +kernel
theorem d_A_add2_16 : decode prog_20_method_24_code 16 = .ok (.iload_n 3, 1) := by decide +kernel
theorem d_A_add2_17 : decode prog_20_method_24_code 17 = .ok (.iconst 1, 1) := by decide +kernel
theorem d_A_add2_18 : decode prog_20_method_24_code 18 = .ok (.iadd, 1) := by decide +kernel
theorem d_A_add2_19 : decode prog_20_method_24_code 19 = .ok (.putfield 48, 3) := by decide +kernel
theorem d_A_add2_22 : decode prog_20_method_24_code 22 = .ok (.return_, 1) := by decide +kernel
def W_A_add2 : Wl := ([(9, 0), (9, 1)], [73, 74])
def j_A_add2_11_M (E : Nat × Nat) (y0 : Nat) (y1 : Option Nat) (y2 : Option Nat) (y3 : Int32) (h : Hp) : Option Hp :=
  dr y2 fun a5 => gd (isO h a5 6) (gd (inb y3 (hpL h a5)) (gd (asV h y1 a5) (nm (wR h a5 y3.toNatClampNeg y1) fun h10 => gd (isK h10 y0 9) (nm (wI h10 y0 1 (y3 + (1 : Int32))) fun h14 => some h14))))
set_option maxRecDepth 100000 in
set_option maxHeartbeats 4000000 in
theorem zj_A_add2_11_M {l : Launch} {C : Ct} {mi : Nat} {y0 : Nat} {y1 : Option Nat} {y2 : Option Nat} {y3 : Int32} {h h' : Hp} (hf : j_A_add2_11_M (cE C, mi) y0 y1 y2 y3 h = some h') : Z l C mi m_A_add2 5 11 [(0, vr (some y0)), (1, vr y1), (2, vr y2), (3, vi y3)] [] h none h' := by
  unfold j_A_add2_11_M at hf
  refine z_aload_n 2 d_A_add2_11 rfl rfl ?_
  refine z_iload_n 3 d_A_add2_12 rfl rfl ?_
  refine z_aload_n 1 d_A_add2_13 rfl rfl ?_
  obtain ⟨a5, e6, hf⟩ := dr_some hf
  obtain ⟨g7, hf⟩ := gd_some hf
  obtain ⟨g8, hf⟩ := gd_some hf
  obtain ⟨g9, hf⟩ := gd_some hf
  obtain ⟨h10, eh11, hf⟩ := nm_some hf
  refine z_aast d_A_add2_14 e6 (isO_eq g7).1 (by rw [(isO_eq g7).2]; decide) (asV_ok g9) (inb_vp g8) ?_
  refine z_hp eh11 ?_
  refine z_aload_n 0 d_A_add2_15 rfl rfl ?_
  refine z_iload_n 3 d_A_add2_16 rfl rfl ?_
  refine z_iconst (v := (1 : Int32)) d_A_add2_17 (by decide) ?_
  refine z_iadd d_A_add2_18 ?_
  obtain ⟨g13, hf⟩ := gd_some hf
  obtain ⟨h14, eh15, hf⟩ := nm_some hf
  refine z_putI d_A_add2_19 (fl_K (isK_eq g13) fl_A_48_9) (pu_K (isK_eq g13) (fun q hq => by cases (Option.some.inj hq); exact Or.inl rfl)) (fi_K (isK_eq g13) rfl) rfl ?_
  refine z_hp eh15 ?_
  cases (Option.some.inj hf)
  exact z_ret d_A_add2_22 rfl
set_option maxRecDepth 100000 in
set_option maxHeartbeats 4000000 in
theorem kj_A_add2_11_M {C : Ct} {mi : Nat} {y0 : Nat} {y1 : Option Nat} {y2 : Option Nat} {y3 : Int32} {h h' : Hp} (hf : j_A_add2_11_M (cE C, mi) y0 y1 y2 y3 h = some h') : Keep W_A_add2 h h' := by
  unfold j_A_add2_11_M at hf
  obtain ⟨a5, e6, hf⟩ := dr_some hf
  obtain ⟨g7, hf⟩ := gd_some hf
  obtain ⟨g8, hf⟩ := gd_some hf
  obtain ⟨g9, hf⟩ := gd_some hf
  obtain ⟨h10, eh11, hf⟩ := nm_some hf
  have K12 := (Keep.refl W_A_add2 _).trans (kw_RO eh11 g7 (by decide) (by decide))
  obtain ⟨g13, hf⟩ := gd_some hf
  obtain ⟨h14, eh15, hf⟩ := nm_some hf
  have K16 := K12.trans (kw_I eh15 (isK_eq g13) (Or.inl (by decide)))
  cases (Option.some.inj hf)
  exact K16
def f_A_add2 (E : Nat × Nat) (a0 : Nat) (p1 : Option Nat) (p2 : Option Nat) (p3 : Int32) (h : Hp) : Option Hp :=
  dr p2 fun a1 => gd (isA h a1 6) (if p3 = (Int32.ofNat (hpL h a1)) then (gd (isK h a0 9) (cl (f_A_grow1 E a0 h) fun v20 h18 => j_A_add2_11_M E a0 p1 v20 p3 h18)) else (j_A_add2_11_M E a0 p1 p2 p3 h))
set_option maxRecDepth 100000 in
set_option maxHeartbeats 4000000 in
theorem zf_A_add2 {l : Launch} {C : Ct} {mi : Nat} {a0 : Nat} {p1 : Option Nat} {p2 : Option Nat} {p3 : Int32} {h h' : Hp} (hf : f_A_add2 (cE C, mi) a0 p1 p2 p3 h = some h') : Z l C mi m_A_add2 5 0 [(0, vr (some a0)), (1, vr p1), (2, vr p2), (3, vi p3)] [] h none h' := by
  unfold f_A_add2 at hf
  refine z_iload_n 3 d_A_add2_0 rfl rfl ?_
  refine z_aload_n 2 d_A_add2_1 rfl rfl ?_
  obtain ⟨a1, e2, hf⟩ := dr_some hf
  obtain ⟨g3, hf⟩ := gd_some hf
  refine z_alen d_A_add2_2 e2 (isA_eq g3).1 ?_
  refine z_icmp_ne (tgt := 11) d_A_add2_3 (by decide) (fun c4 => ?_) (fun c4 => ?_)
  · rw [if_neg c4] at hf
    refine z_ls [0, 1, 2, 3] rfl ?_
    exact zj_A_add2_11_M hf
  · rw [if_pos c4] at hf
    refine z_aload_n 0 d_A_add2_6 rfl rfl ?_
    obtain ⟨g17, hf⟩ := gd_some hf
    obtain ⟨v20, h18, ec19, hf⟩ := cl_some hf
    refine z_callVx rfl (c_A_grow1 ec19) d_A_add2_7 cw_A_grow1 lk_A_129 im_A_grow1 se_A_grow1 (kc_K (isK_eq g17) kc_9) ⟨by decide, by decide⟩ (Nat.le_of_ble_eq_true rfl) rfl ?_
    refine z_astore_n (ls2 := [(2, vr v20), (0, vr (some a0)), (1, vr p1), (3, vi p3)]) d_A_add2_10 rfl (by decide) rfl ?_
    refine z_ls [1, 2, 0, 3] rfl ?_
    exact zj_A_add2_11_M hf
set_option maxRecDepth 100000 in
set_option maxHeartbeats 4000000 in
theorem fr_A_add2 {C : Ct} {mi : Nat} {a0 : Nat} {p1 : Option Nat} {p2 : Option Nat} {p3 : Int32} {h h' : Hp} (hf : f_A_add2 (cE C, mi) a0 p1 p2 p3 h = some h') : Keep W_A_add2 h h' := by
  unfold f_A_add2 at hf
  obtain ⟨a1, e2, hf⟩ := dr_some hf
  obtain ⟨g3, hf⟩ := gd_some hf
  rcases (Classical.em (p3 = (Int32.ofNat (hpL h a1)))).symm with c4 | c4
  · rw [if_neg c4] at hf
    exact (Keep.refl W_A_add2 _).trans (kj_A_add2_11_M (C := C) (mi := mi) hf)
  · rw [if_pos c4] at hf
    obtain ⟨g17, hf⟩ := gd_some hf
    obtain ⟨v20, h18, ec19, hf⟩ := cl_some hf
    have K21 := (Keep.refl W_A_add2 _).trans ((fr_A_grow1 (C := C) (mi := mi) ec19).mono (by decide) (by decide))
    exact K21.trans (kj_A_add2_11_M (C := C) (mi := mi) hf)
theorem c_A_add2 {l : Launch} {C : Ct} {mi : Nat} {a0 : Nat} {p1 : Option Nat} {p2 : Option Nat} {p3 : Int32} {h h' : Hp} (hf : f_A_add2 (cE C, mi) a0 p1 p2 p3 h = some h') : Mt l C mi m_A_add2 5 [vr (some a0), vr p1, vr p2, vi p3] h none h' := mt_V rfl rfl (by decide) (Nat.le_of_ble_eq_true rfl) (zf_A_add2 hf)
-- java/util/ArrayList.add(Ljava/lang/Object;)Z
def m_A_add1 : Mi := (⟨"java/util/ArrayList", "add", "(Ljava/lang/Object;)Z"⟩, prog_20_method_25_code, 2, (Option.some Jvm.ClassFile.FieldType.boolean), .ireturn)
theorem cw_A_add1 : cw_ok m_A_add1 1 := ⟨by decide +kernel, by decide +kernel, by decide +kernel, by decide +kernel⟩
theorem im_A_add1 : Cond.instanceMethod m_A_add1.1 ∈ lw_w := by decide +kernel
theorem se_A_add1 : Cond.selects "java/util/ArrayList" m_A_add1.1 m_A_add1.1 ∈ lw_w := by decide +kernel
theorem d_A_add1_0 : decode prog_20_method_25_code 0 = .ok (.aload_n 0, 1) := by decide +kernel
theorem d_A_add1_1 : decode prog_20_method_25_code 1 = .ok (.dup, 1) := by decide +kernel
theorem d_A_add1_2 : decode prog_20_method_25_code 2 = .ok (.getfield 63, 3) := by decide +kernel
theorem d_A_add1_5 : decode prog_20_method_25_code 5 = .ok (.iconst 1, 1) := by decide +kernel
theorem d_A_add1_6 : decode prog_20_method_25_code 6 = .ok (.iadd, 1) := by decide +kernel
theorem d_A_add1_7 : decode prog_20_method_25_code 7 = .ok (.putfield 63, 3) := by decide +kernel
theorem d_A_add1_10 : decode prog_20_method_25_code 10 = .ok (.aload_n 0, 1) := by decide +kernel
theorem d_A_add1_11 : decode prog_20_method_25_code 11 = .ok (.aload_n 1, 1) := by decide +kernel
theorem d_A_add1_12 : decode prog_20_method_25_code 12 = .ok (.aload_n 0, 1) := by decide +kernel
theorem d_A_add1_13 : decode prog_20_method_25_code 13 = .ok (.getfield 9, 3) := by decide +kernel
theorem d_A_add1_16 : decode prog_20_method_25_code 16 = .ok (.aload_n 0, 1) := by decide +kernel
theorem d_A_add1_17 : decode prog_20_method_25_code 17 = .ok (.getfield 48, 3) := by decide +kernel
theorem d_A_add1_20 : decode prog_20_method_25_code 20 = .ok (.invokevirtual 131, 3) := by decide +kernel
theorem d_A_add1_23 : decode prog_20_method_25_code 23 = .ok (.iconst 1, 1) := by decide +kernel
theorem d_A_add1_24 : decode prog_20_method_25_code 24 = .ok (.ireturn, 1) := by decide +kernel
def W_A_add1 : Wl := ([(9, 0), (9, 1), (9, 2)], [73, 74])
def f0_A_add1 (E : Nat × Nat) (a0 : Nat) (p1 : Option Nat) (h : Hp) : Option (Int32 × Hp) :=
  gd (isK h a0 9) (nm (wI h a0 2 ((hpI h a0 2) + (1 : Int32))) fun h2 => cv (f_A_add2 E a0 p1 (hpR h2 a0 0) (hpI h2 a0 1) h2) fun h5 => some ((1 : Int32), h5))
def f_A_add1 (E : Nat × Nat) (a0 : Nat) (p1 : Option Nat) (h : Hp) : Option (Int32 × Hp) := zbw (f0_A_add1 E a0 p1 h)
set_option maxRecDepth 100000 in
set_option maxHeartbeats 4000000 in
theorem zf_A_add1 {l : Launch} {C : Ct} {mi : Nat} {a0 : Nat} {p1 : Option Nat} {h h' : Hp} {v : Int32} (hf : f0_A_add1 (cE C, mi) a0 p1 h = some (v, h')) : Z l C mi m_A_add1 6 0 [(0, vr (some a0)), (1, vr p1)] [] h (some (vi v)) h' := by
  unfold f0_A_add1 at hf
  refine z_aload_n 0 d_A_add1_0 rfl rfl ?_
  refine z_dup d_A_add1_1 rfl ?_
  obtain ⟨g1, hf⟩ := gd_some hf
  refine z_getI d_A_add1_2 (fl_K (isK_eq g1) fl_A_63_9) (fi_K (isK_eq g1) rfl) rfl ?_
  refine z_iconst (v := (1 : Int32)) d_A_add1_5 (by decide) ?_
  refine z_iadd d_A_add1_6 ?_
  obtain ⟨h2, eh3, hf⟩ := nm_some hf
  refine z_putI d_A_add1_7 (fl_K (isK_eq g1) fl_A_63_9) (pu_K (isK_eq g1) (fun q hq => by cases (Option.some.inj hq); exact Or.inl rfl)) (fi_K (isK_eq g1) rfl) rfl ?_
  refine z_hp eh3 ?_
  refine z_aload_n 0 d_A_add1_10 rfl rfl ?_
  refine z_aload_n 1 d_A_add1_11 rfl rfl ?_
  refine z_aload_n 0 d_A_add1_12 rfl rfl ?_
  refine z_getR d_A_add1_13 (fl_K (isK_eq (isK_wI eh3 g1)) fl_A_9_9) (fi_K (isK_eq (isK_wI eh3 g1)) rfl) rfl ?_
  refine z_aload_n 0 d_A_add1_16 rfl rfl ?_
  refine z_getI d_A_add1_17 (fl_K (isK_eq (isK_wI eh3 g1)) fl_A_48_9) (fi_K (isK_eq (isK_wI eh3 g1)) rfl) rfl ?_
  obtain ⟨h5, ec6, hf⟩ := cv_some hf
  refine z_callVx rfl (c_A_add2 ec6) d_A_add1_20 cw_A_add2 lk_A_131 im_A_add2 se_A_add2 (kc_K (isK_eq (isK_wI eh3 g1)) kc_9) ⟨by decide, by decide⟩ (Nat.le_of_ble_eq_true rfl) rfl ?_
  refine z_iconst (v := (1 : Int32)) d_A_add1_23 (by decide) ?_
  obtain ⟨rfl, rfl⟩ := Prod.mk.inj (Option.some.inj hf)
  exact z_ret d_A_add1_24 rfl
set_option maxRecDepth 100000 in
set_option maxHeartbeats 4000000 in
theorem fr0_A_add1 {C : Ct} {mi : Nat} {a0 : Nat} {p1 : Option Nat} {h h' : Hp} {v : Int32} (hf : f0_A_add1 (cE C, mi) a0 p1 h = some (v, h')) : Keep W_A_add1 h h' := by
  unfold f0_A_add1 at hf
  obtain ⟨g1, hf⟩ := gd_some hf
  obtain ⟨h2, eh3, hf⟩ := nm_some hf
  have K4 := (Keep.refl W_A_add1 _).trans (kw_I eh3 (isK_eq g1) (Or.inl (by decide)))
  obtain ⟨h5, ec6, hf⟩ := cv_some hf
  have K7 := K4.trans ((fr_A_add2 (C := C) (mi := mi) ec6).mono (by decide) (by decide))
  obtain ⟨rfl, rfl⟩ := Prod.mk.inj (Option.some.inj hf)
  exact K7
theorem fr_A_add1 {C : Ct} {mi : Nat} {a0 : Nat} {p1 : Option Nat} {h h' : Hp} {v : Int32} (hf : f_A_add1 (cE C, mi) a0 p1 h = some (v, h')) : Keep W_A_add1 h h' := fr0_A_add1 (C := C) (mi := mi) (zbw_some hf).2
theorem c_A_add1 {l : Launch} {C : Ct} {mi : Nat} {a0 : Nat} {p1 : Option Nat} {h h' : Hp} {v : Int32} (hf : f_A_add1 (cE C, mi) a0 p1 h = some (v, h')) : Mt l C mi m_A_add1 6 [vr (some a0), vr p1] h (some (vi v)) h' := mt_I (ty := .boolean) rfl rfl (zb_eq (zbw_some hf).1) (by decide) (Nat.le_of_ble_eq_true rfl) (zf_A_add1 (zbw_some hf).2)
-- java/util/ArrayList.size()I
def m_A_size : Mi := (⟨"java/util/ArrayList", "size", "()I"⟩, prog_20_method_8_code, 1, (Option.some Jvm.ClassFile.FieldType.int), .ireturn)
theorem cw_A_size : cw_ok m_A_size 0 := ⟨by decide +kernel, by decide +kernel, by decide +kernel, by decide +kernel⟩
theorem im_A_size : Cond.instanceMethod m_A_size.1 ∈ lw_w := by decide +kernel
theorem se_A_size : Cond.selects "java/util/ArrayList" m_A_size.1 m_A_size.1 ∈ lw_w := by decide +kernel
theorem d_A_size_0 : decode prog_20_method_8_code 0 = .ok (.aload_n 0, 1) := by decide +kernel
theorem d_A_size_1 : decode prog_20_method_8_code 1 = .ok (.getfield 48, 3) := by decide +kernel
theorem d_A_size_4 : decode prog_20_method_8_code 4 = .ok (.ireturn, 1) := by decide +kernel
def W_A_size : Wl := ([], [])
def f_A_size (a0 : Nat) (h : Hp) : Option (Int32 × Hp) :=
  gd (isK h a0 9) (some ((hpI h a0 1), h))
set_option maxRecDepth 100000 in
set_option maxHeartbeats 4000000 in
theorem zf_A_size {l : Launch} {C : Ct} {mi : Nat} {a0 : Nat} {h h' : Hp} {v : Int32} (hf : f_A_size a0 h = some (v, h')) : Z l C mi m_A_size 0 0 [(0, vr (some a0))] [] h (some (vi v)) h' := by
  unfold f_A_size at hf
  refine z_aload_n 0 d_A_size_0 rfl rfl ?_
  obtain ⟨g1, hf⟩ := gd_some hf
  refine z_getI d_A_size_1 (fl_K (isK_eq g1) fl_A_48_9) (fi_K (isK_eq g1) rfl) rfl ?_
  obtain ⟨rfl, rfl⟩ := Prod.mk.inj (Option.some.inj hf)
  exact z_ret d_A_size_4 rfl
set_option maxRecDepth 100000 in
set_option maxHeartbeats 4000000 in
theorem fr_A_size {C : Ct} {mi : Nat} {a0 : Nat} {h h' : Hp} {v : Int32} (hf : f_A_size a0 h = some (v, h')) : Keep W_A_size h h' := by
  unfold f_A_size at hf
  obtain ⟨g1, hf⟩ := gd_some hf
  obtain ⟨rfl, rfl⟩ := Prod.mk.inj (Option.some.inj hf)
  exact (Keep.refl W_A_size _)
theorem c_A_size {l : Launch} {C : Ct} {mi : Nat} {a0 : Nat} {h h' : Hp} {v : Int32} (hf : f_A_size a0 h = some (v, h')) : Mt l C mi m_A_size 0 [vr (some a0)] h (some (vi v)) h' := mt_I (ty := .int) rfl rfl rfl (by decide) (Nat.le_of_ble_eq_true rfl) (zf_A_size hf)
-- jdk/internal/util/Preconditions.checkIndex(IILjava/util/function/BiFunction;)I
def m_Pr_checkIndex : Mi := (⟨"jdk/internal/util/Preconditions", "checkIndex", "(IILjava/util/function/BiFunction;)I"⟩, prog_28_method_11_code, 3, (Option.some Jvm.ClassFile.FieldType.int), .ireturn)
theorem cw_Pr_checkIndex : cw_ok m_Pr_checkIndex 3 := ⟨by decide +kernel, by decide +kernel, by decide +kernel, by decide +kernel⟩
theorem d_Pr_checkIndex_0 : decode prog_28_method_11_code 0 = .ok (.iload_n 0, 1) := by decide +kernel
theorem d_Pr_checkIndex_1 : decode prog_28_method_11_code 1 = .ok (.ifCond .lt 8, 3) := by decide +kernel
theorem d_Pr_checkIndex_4 : decode prog_28_method_11_code 4 = .ok (.iload_n 0, 1) := by decide +kernel
theorem d_Pr_checkIndex_5 : decode prog_28_method_11_code 5 = .ok (.iload_n 1, 1) := by decide +kernel
theorem d_Pr_checkIndex_6 : decode prog_28_method_11_code 6 = .ok (.if_icmp .lt 10, 3) := by decide +kernel
theorem d_Pr_checkIndex_9 : decode prog_28_method_11_code 9 = .ok (.aload_n 2, 1) := by decide +kernel
theorem d_Pr_checkIndex_10 : decode prog_28_method_11_code 10 = .ok (.iload_n 0, 1) := by decide +kernel
theorem d_Pr_checkIndex_11 : decode prog_28_method_11_code 11 = .ok (.iload_n 1, 1) := by decide +kernel
theorem d_Pr_checkIndex_12 : decode prog_28_method_11_code 12 = .ok (.invokestatic 95, 3) := by decide +kernel
theorem d_Pr_checkIndex_16 : decode prog_28_method_11_code 16 = .ok (.iload_n 0, 1) := by decide +kernel
theorem d_Pr_checkIndex_17 : decode prog_28_method_11_code 17 = .ok (.ireturn, 1) := by decide +kernel
def W_Pr_checkIndex : Wl := ([], [])
def j_Pr_checkIndex_9_M (y0 : Int32) (y1 : Int32) (y2 : Option Nat) (h : Hp) : Option (Int32 × Hp) :=
  none
set_option maxRecDepth 100000 in
set_option maxHeartbeats 4000000 in
theorem zj_Pr_checkIndex_9_M {l : Launch} {C : Ct} {mi : Nat} {y0 : Int32} {y1 : Int32} {y2 : Option Nat} {h h' : Hp} {v : Int32} (hf : j_Pr_checkIndex_9_M y0 y1 y2 h = some (v, h')) : Z l C mi m_Pr_checkIndex 0 9 [(0, vi y0), (1, vi y1), (2, vr y2)] [] h (some (vi v)) h' := by
  unfold j_Pr_checkIndex_9_M at hf
  refine z_aload_n 2 d_Pr_checkIndex_9 rfl rfl ?_
  refine z_iload_n 0 d_Pr_checkIndex_10 rfl rfl ?_
  refine z_iload_n 1 d_Pr_checkIndex_11 rfl rfl ?_
  cases hf
set_option maxRecDepth 100000 in
set_option maxHeartbeats 4000000 in
theorem kj_Pr_checkIndex_9_M {C : Ct} {mi : Nat} {y0 : Int32} {y1 : Int32} {y2 : Option Nat} {h h' : Hp} {v : Int32} (hf : j_Pr_checkIndex_9_M y0 y1 y2 h = some (v, h')) : Keep W_Pr_checkIndex h h' := by
  unfold j_Pr_checkIndex_9_M at hf
  cases hf
def f_Pr_checkIndex (p1 : Int32) (p2 : Int32) (p3 : Option Nat) (h : Hp) : Option (Int32 × Hp) :=
  if p1 < 0 then (j_Pr_checkIndex_9_M p1 p2 p3 h) else (if p1 < p2 then (some (p1, h)) else (j_Pr_checkIndex_9_M p1 p2 p3 h))
set_option maxRecDepth 100000 in
set_option maxHeartbeats 4000000 in
theorem zf_Pr_checkIndex {l : Launch} {C : Ct} {mi : Nat} {p1 : Int32} {p2 : Int32} {p3 : Option Nat} {h h' : Hp} {v : Int32} (hf : f_Pr_checkIndex p1 p2 p3 h = some (v, h')) : Z l C mi m_Pr_checkIndex 0 0 [(0, vi p1), (1, vi p2), (2, vr p3)] [] h (some (vi v)) h' := by
  unfold f_Pr_checkIndex at hf
  refine z_iload_n 0 d_Pr_checkIndex_0 rfl rfl ?_
  refine z_if_lt (tgt := 9) d_Pr_checkIndex_1 (by decide) (fun c1 => ?_) (fun c1 => ?_)
  · rw [if_pos c1] at hf
    refine z_ls [0, 1, 2] rfl ?_
    exact zj_Pr_checkIndex_9_M hf
  · rw [if_neg c1] at hf
    refine z_iload_n 0 d_Pr_checkIndex_4 rfl rfl ?_
    refine z_iload_n 1 d_Pr_checkIndex_5 rfl rfl ?_
    refine z_icmp_lt (tgt := 16) d_Pr_checkIndex_6 (by decide) (fun c2 => ?_) (fun c2 => ?_)
    · rw [if_pos c2] at hf
      refine z_iload_n 0 d_Pr_checkIndex_16 rfl rfl ?_
      obtain ⟨rfl, rfl⟩ := Prod.mk.inj (Option.some.inj hf)
      exact z_ret d_Pr_checkIndex_17 rfl
    · rw [if_neg c2] at hf
      refine z_ls [0, 1, 2] rfl ?_
      exact zj_Pr_checkIndex_9_M hf
set_option maxRecDepth 100000 in
set_option maxHeartbeats 4000000 in
theorem fr_Pr_checkIndex {C : Ct} {mi : Nat} {p1 : Int32} {p2 : Int32} {p3 : Option Nat} {h h' : Hp} {v : Int32} (hf : f_Pr_checkIndex p1 p2 p3 h = some (v, h')) : Keep W_Pr_checkIndex h h' := by
  unfold f_Pr_checkIndex at hf
  rcases Classical.em (p1 < 0) with c1 | c1
  · rw [if_pos c1] at hf
    exact (Keep.refl W_Pr_checkIndex _).trans (kj_Pr_checkIndex_9_M (C := C) (mi := mi) hf)
  · rw [if_neg c1] at hf
    rcases Classical.em (p1 < p2) with c2 | c2
    · rw [if_pos c2] at hf
      obtain ⟨rfl, rfl⟩ := Prod.mk.inj (Option.some.inj hf)
      exact (Keep.refl W_Pr_checkIndex _)
    · rw [if_neg c2] at hf
      exact (Keep.refl W_Pr_checkIndex _).trans (kj_Pr_checkIndex_9_M (C := C) (mi := mi) hf)
theorem c_Pr_checkIndex {l : Launch} {C : Ct} {mi : Nat} {p1 : Int32} {p2 : Int32} {p3 : Option Nat} {h h' : Hp} {v : Int32} (hf : f_Pr_checkIndex p1 p2 p3 h = some (v, h')) : Mt l C mi m_Pr_checkIndex 0 [vi p1, vi p2, vr p3] h (some (vi v)) h' := mt_I (ty := .int) rfl rfl rfl (by decide) (Nat.le_of_ble_eq_true rfl) (zf_Pr_checkIndex hf)
-- java/util/Objects.checkIndex(II)I
def m_Ob_checkIndex : Mi := (⟨"java/util/Objects", "checkIndex", "(II)I"⟩, prog_24_method_17_code, 2, (Option.some Jvm.ClassFile.FieldType.int), .ireturn)
theorem cw_Ob_checkIndex : cw_ok m_Ob_checkIndex 2 := ⟨by decide +kernel, by decide +kernel, by decide +kernel, by decide +kernel⟩
theorem d_Ob_checkIndex_0 : decode prog_24_method_17_code 0 = .ok (.iload_n 0, 1) := by decide +kernel
theorem d_Ob_checkIndex_1 : decode prog_24_method_17_code 1 = .ok (.iload_n 1, 1) := by decide +kernel
theorem d_Ob_checkIndex_2 : decode prog_24_method_17_code 2 = .ok (.aconst_null, 1) := by decide +kernel
theorem d_Ob_checkIndex_3 : decode prog_24_method_17_code 3 = .ok (.invokestatic 105, 3) := by decide +kernel
theorem d_Ob_checkIndex_6 : decode prog_24_method_17_code 6 = .ok (.ireturn, 1) := by decide +kernel
def W_Ob_checkIndex : Wl := ([], [])
def f_Ob_checkIndex (p1 : Int32) (p2 : Int32) (h : Hp) : Option (Int32 × Hp) :=
  cl (f_Pr_checkIndex p1 p2 none h) fun v3 h1 => some (v3, h1)
set_option maxRecDepth 100000 in
set_option maxHeartbeats 4000000 in
theorem zf_Ob_checkIndex {l : Launch} {C : Ct} {mi : Nat} {p1 : Int32} {p2 : Int32} {h h' : Hp} {v : Int32} (hf : f_Ob_checkIndex p1 p2 h = some (v, h')) : Z l C mi m_Ob_checkIndex 1 0 [(0, vi p1), (1, vi p2)] [] h (some (vi v)) h' := by
  unfold f_Ob_checkIndex at hf
  refine z_iload_n 0 d_Ob_checkIndex_0 rfl rfl ?_
  refine z_iload_n 1 d_Ob_checkIndex_1 rfl rfl ?_
  refine z_aconst_null d_Ob_checkIndex_2 ?_
  obtain ⟨v3, h1, ec2, hf⟩ := cl_some hf
  refine z_callS (c_Pr_checkIndex ec2) d_Ob_checkIndex_3 cw_Pr_checkIndex lk_Ob_105 (by decide +kernel) ⟨by decide, by decide⟩ (Nat.le_of_ble_eq_true rfl) rfl ?_
  obtain ⟨rfl, rfl⟩ := Prod.mk.inj (Option.some.inj hf)
  exact z_ret d_Ob_checkIndex_6 rfl
set_option maxRecDepth 100000 in
set_option maxHeartbeats 4000000 in
theorem fr_Ob_checkIndex {C : Ct} {mi : Nat} {p1 : Int32} {p2 : Int32} {h h' : Hp} {v : Int32} (hf : f_Ob_checkIndex p1 p2 h = some (v, h')) : Keep W_Ob_checkIndex h h' := by
  unfold f_Ob_checkIndex at hf
  obtain ⟨v3, h1, ec2, hf⟩ := cl_some hf
  have K4 := (Keep.refl W_Ob_checkIndex _).trans ((fr_Pr_checkIndex (C := C) (mi := mi) ec2).mono (by decide) (by decide))
  obtain ⟨rfl, rfl⟩ := Prod.mk.inj (Option.some.inj hf)
  exact K4
theorem c_Ob_checkIndex {l : Launch} {C : Ct} {mi : Nat} {p1 : Int32} {p2 : Int32} {h h' : Hp} {v : Int32} (hf : f_Ob_checkIndex p1 p2 h = some (v, h')) : Mt l C mi m_Ob_checkIndex 1 [vi p1, vi p2] h (some (vi v)) h' := mt_I (ty := .int) rfl rfl rfl (by decide) (Nat.le_of_ble_eq_true rfl) (zf_Ob_checkIndex hf)
-- java/util/ArrayList.elementData(I)Ljava/lang/Object;
def m_A_elementData : Mi := (⟨"java/util/ArrayList", "elementData", "(I)Ljava/lang/Object;"⟩, prog_20_method_18_code, 2, (Option.some (Jvm.ClassFile.FieldType.object "java/lang/Object")), .areturn)
theorem cw_A_elementData : cw_ok m_A_elementData 1 := ⟨by decide +kernel, by decide +kernel, by decide +kernel, by decide +kernel⟩
theorem im_A_elementData : Cond.instanceMethod m_A_elementData.1 ∈ lw_w := by decide +kernel
theorem se_A_elementData : Cond.selects "java/util/ArrayList" m_A_elementData.1 m_A_elementData.1 ∈ lw_w := by decide +kernel
theorem d_A_elementData_0 : decode prog_20_method_18_code 0 = .ok (.aload_n 0, 1) := by decide +kernel
theorem d_A_elementData_1 : decode prog_20_method_18_code 1 = .ok (.getfield 9, 3) := by decide +kernel
theorem d_A_elementData_4 : decode prog_20_method_18_code 4 = .ok (.iload_n 1, 1) := by decide +kernel
theorem d_A_elementData_5 : decode prog_20_method_18_code 5 = .ok (.aaload, 1) := by decide +kernel
theorem d_A_elementData_6 : decode prog_20_method_18_code 6 = .ok (.areturn, 1) := by decide +kernel
def W_A_elementData : Wl := ([], [])
def f_A_elementData (a0 : Nat) (p1 : Int32) (h : Hp) : Option (Option Nat × Hp) :=
  gd (isK h a0 9) (dr (hpR h a0 0) fun a2 => gd (isO h a2 6) (gd (inb p1 (hpL h a2)) (some ((hpR h a2 p1.toNatClampNeg), h))))
set_option maxRecDepth 100000 in
set_option maxHeartbeats 4000000 in
theorem zf_A_elementData {l : Launch} {C : Ct} {mi : Nat} {a0 : Nat} {p1 : Int32} {h h' : Hp} {v : Option Nat} (hf : f_A_elementData a0 p1 h = some (v, h')) : Z l C mi m_A_elementData 0 0 [(0, vr (some a0)), (1, vi p1)] [] h (some (vr v)) h' := by
  unfold f_A_elementData at hf
  refine z_aload_n 0 d_A_elementData_0 rfl rfl ?_
  obtain ⟨g1, hf⟩ := gd_some hf
  refine z_getR d_A_elementData_1 (fl_K (isK_eq g1) fl_A_9_9) (fi_K (isK_eq g1) rfl) rfl ?_
  refine z_iload_n 1 d_A_elementData_4 rfl rfl ?_
  obtain ⟨a2, e3, hf⟩ := dr_some hf
  obtain ⟨g4, hf⟩ := gd_some hf
  obtain ⟨g5, hf⟩ := gd_some hf
  refine z_aald d_A_elementData_5 e3 (isO_eq g4).1 (by rw [(isO_eq g4).2]; decide) (inb_vp g5) ?_
  obtain ⟨rfl, rfl⟩ := Prod.mk.inj (Option.some.inj hf)
  exact z_ret d_A_elementData_6 rfl
set_option maxRecDepth 100000 in
set_option maxHeartbeats 4000000 in
theorem fr_A_elementData {C : Ct} {mi : Nat} {a0 : Nat} {p1 : Int32} {h h' : Hp} {v : Option Nat} (hf : f_A_elementData a0 p1 h = some (v, h')) : Keep W_A_elementData h h' := by
  unfold f_A_elementData at hf
  obtain ⟨g1, hf⟩ := gd_some hf
  obtain ⟨a2, e3, hf⟩ := dr_some hf
  obtain ⟨g4, hf⟩ := gd_some hf
  obtain ⟨g5, hf⟩ := gd_some hf
  obtain ⟨rfl, rfl⟩ := Prod.mk.inj (Option.some.inj hf)
  exact (Keep.refl W_A_elementData _)
theorem c_A_elementData {l : Launch} {C : Ct} {mi : Nat} {a0 : Nat} {p1 : Int32} {h h' : Hp} {v : Option Nat} (hf : f_A_elementData a0 p1 h = some (v, h')) : Mt l C mi m_A_elementData 0 [vr (some a0), vi p1] h (some (vr v)) h' := mt_R rfl (Or.inl ⟨_, rfl⟩) rfl (by decide) (Nat.le_of_ble_eq_true rfl) (zf_A_elementData hf)
-- java/util/ArrayList.get(I)Ljava/lang/Object;
def m_A_get : Mi := (⟨"java/util/ArrayList", "get", "(I)Ljava/lang/Object;"⟩, prog_20_method_20_code, 2, (Option.some (Jvm.ClassFile.FieldType.object "java/lang/Object")), .areturn)
theorem cw_A_get : cw_ok m_A_get 1 := ⟨by decide +kernel, by decide +kernel, by decide +kernel, by decide +kernel⟩
theorem im_A_get : Cond.instanceMethod m_A_get.1 ∈ lw_w := by decide +kernel
theorem se_A_get : Cond.selects "java/util/ArrayList" m_A_get.1 m_A_get.1 ∈ lw_w := by decide +kernel
theorem d_A_get_0 : decode prog_20_method_20_code 0 = .ok (.iload_n 1, 1) := by decide +kernel
theorem d_A_get_1 : decode prog_20_method_20_code 1 = .ok (.aload_n 0, 1) := by decide +kernel
theorem d_A_get_2 : decode prog_20_method_20_code 2 = .ok (.getfield 48, 3) := by decide +kernel
theorem d_A_get_5 : decode prog_20_method_20_code 5 = .ok (.invokestatic 118, 3) := by decide +kernel
theorem d_A_get_8 : decode prog_20_method_20_code 8 = .ok (.pop, 1) := by decide +kernel
theorem d_A_get_9 : decode prog_20_method_20_code 9 = .ok (.aload_n 0, 1) := by decide +kernel
theorem d_A_get_10 : decode prog_20_method_20_code 10 = .ok (.iload_n 1, 1) := by decide +kernel
theorem d_A_get_11 : decode prog_20_method_20_code 11 = .ok (.invokevirtual 123, 3) := by decide +kernel
theorem d_A_get_14 : decode prog_20_method_20_code 14 = .ok (.areturn, 1) := by decide +kernel
def W_A_get : Wl := ([], [])
def f_A_get (a0 : Nat) (p1 : Int32) (h : Hp) : Option (Option Nat × Hp) :=
  gd (isK h a0 9) (cl (f_Ob_checkIndex p1 (hpI h a0 1) h) fun v4 h2 => gd (isK h2 a0 9) (cl (f_A_elementData a0 p1 h2) fun v9 h7 => some (v9, h7)))
set_option maxRecDepth 100000 in
set_option maxHeartbeats 4000000 in
theorem zf_A_get {l : Launch} {C : Ct} {mi : Nat} {a0 : Nat} {p1 : Int32} {h h' : Hp} {v : Option Nat} (hf : f_A_get a0 p1 h = some (v, h')) : Z l C mi m_A_get 2 0 [(0, vr (some a0)), (1, vi p1)] [] h (some (vr v)) h' := by
  unfold f_A_get at hf
  refine z_iload_n 1 d_A_get_0 rfl rfl ?_
  refine z_aload_n 0 d_A_get_1 rfl rfl ?_
  obtain ⟨g1, hf⟩ := gd_some hf
  refine z_getI d_A_get_2 (fl_K (isK_eq g1) fl_A_48_9) (fi_K (isK_eq g1) rfl) rfl ?_
  obtain ⟨v4, h2, ec3, hf⟩ := cl_some hf
  refine z_callS (c_Ob_checkIndex ec3) d_A_get_5 cw_Ob_checkIndex lk_A_118 (by decide +kernel) ⟨by decide, by decide⟩ (Nat.le_of_ble_eq_true rfl) rfl ?_
  refine z_pop d_A_get_8 rfl ?_
  refine z_aload_n 0 d_A_get_9 rfl rfl ?_
  refine z_iload_n 1 d_A_get_10 rfl rfl ?_
  obtain ⟨g6, hf⟩ := gd_some hf
  obtain ⟨v9, h7, ec8, hf⟩ := cl_some hf
  refine z_callVx rfl (c_A_elementData ec8) d_A_get_11 cw_A_elementData lk_A_123 im_A_elementData se_A_elementData (kc_K (isK_eq g6) kc_9) ⟨by decide, by decide⟩ (Nat.le_of_ble_eq_true rfl) rfl ?_
  obtain ⟨rfl, rfl⟩ := Prod.mk.inj (Option.some.inj hf)
  exact z_ret d_A_get_14 rfl
set_option maxRecDepth 100000 in
set_option maxHeartbeats 4000000 in
theorem fr_A_get {C : Ct} {mi : Nat} {a0 : Nat} {p1 : Int32} {h h' : Hp} {v : Option Nat} (hf : f_A_get a0 p1 h = some (v, h')) : Keep W_A_get h h' := by
  unfold f_A_get at hf
  obtain ⟨g1, hf⟩ := gd_some hf
  obtain ⟨v4, h2, ec3, hf⟩ := cl_some hf
  have K5 := (Keep.refl W_A_get _).trans ((fr_Ob_checkIndex (C := C) (mi := mi) ec3).mono (by decide) (by decide))
  obtain ⟨g6, hf⟩ := gd_some hf
  obtain ⟨v9, h7, ec8, hf⟩ := cl_some hf
  have K10 := K5.trans ((fr_A_elementData (C := C) (mi := mi) ec8).mono (by decide) (by decide))
  obtain ⟨rfl, rfl⟩ := Prod.mk.inj (Option.some.inj hf)
  exact K10
theorem c_A_get {l : Launch} {C : Ct} {mi : Nat} {a0 : Nat} {p1 : Int32} {h h' : Hp} {v : Option Nat} (hf : f_A_get a0 p1 h = some (v, h')) : Mt l C mi m_A_get 2 [vr (some a0), vi p1] h (some (vr v)) h' := mt_R rfl (Or.inl ⟨_, rfl⟩) rfl (by decide) (Nat.le_of_ble_eq_true rfl) (zf_A_get hf)
-- java/util/ArrayList.fastRemove([Ljava/lang/Object;I)V
def m_A_fastRemove : Mi := (⟨"java/util/ArrayList", "fastRemove", "([Ljava/lang/Object;I)V"⟩, prog_20_method_39_code, 4, (Option.none : Option Jvm.ClassFile.FieldType), .return_)
theorem cw_A_fastRemove : cw_ok m_A_fastRemove 2 := ⟨by decide +kernel, by decide +kernel, by decide +kernel, by decide +kernel⟩
theorem im_A_fastRemove : Cond.instanceMethod m_A_fastRemove.1 ∈ lw_w := by decide +kernel
theorem se_A_fastRemove : Cond.selects "java/util/ArrayList" m_A_fastRemove.1 m_A_fastRemove.1 ∈ lw_w := by decide +kernel
theorem d_A_fastRemove_0 : decode prog_20_method_39_code 0 = .ok (.aload_n 0, 1) := by decide +kernel
theorem d_A_fastRemove_1 : decode prog_20_method_39_code 1 = .ok (.dup, 1) := by decide +kernel
theorem d_A_fastRemove_2 : decode prog_20_method_39_code 2 = .ok (.getfield 63, 3) := by decide +kernel
theorem d_A_fastRemove_5 : decode prog_20_method_39_code 5 = .ok (.iconst 1, 1) := by decide +kernel
theorem d_A_fastRemove_6 : decode prog_20_method_39_code 6 = .ok (.iadd, 1) := by decide +kernel
theorem d_A_fastRemove_7 : decode prog_20_method_39_code 7 = .ok (.putfield 63, 3) := by decide +kernel
theorem d_A_fastRemove_10 : decode prog_20_method_39_code 10 = .ok (.aload_n 0, 1) := by decide +kernel
theorem d_A_fastRemove_11 : decode prog_20_method_39_code 11 = .ok (.getfield 48, 3) := by decide +kernel
theorem d_A_fastRemove_14 : decode prog_20_method_39_code 14 = .ok (.iconst 1, 1) := by decide +kernel
theorem d_A_fastRemove_15 : decode prog_20_method_39_code 15 = .ok (.isub, 1) := by decide +kernel
theorem d_A_fastRemove_16 : decode prog_20_method_39_code 16 = .ok (.dup, 1) := by decide +kernel
theorem d_A_fastRemove_17 : decode prog_20_method_39_code 17 = .ok (.istore_n 3, 1) := by decide +kernel
theorem d_A_fastRemove_18 : decode prog_20_method_39_code 18 = .ok (.iload_n 2, 1) := by decide +kernel
theorem d_A_fastRemove_19 : decode prog_20_method_39_code 19 = .ok (.if_icmp .le 15, 3) := by decide +kernel
theorem d_A_fastRemove_22 : decode prog_20_method_39_code 22 = .ok (.aload_n 1, 1) := by decide +kernel
theorem d_A_fastRemove_23 : decode prog_20_method_39_code 23 = .ok (.iload_n 2, 1) := by decide +kernel
theorem d_A_fastRemove_24 : decode prog_20_method_39_code 24 = .ok (.iconst 1, 1) := by decide +kernel
theorem d_A_fastRemove_25 : decode prog_20_method_39_code 25 = .ok (.iadd, 1) := by decide +kernel
theorem d_A_fastRemove_26 : decode prog_20_method_39_code 26 = .ok (.aload_n 1, 1) := by decide +kernel
theorem d_A_fastRemove_27 : decode prog_20_method_39_code 27 = .ok (.iload_n 2, 1) := by decide +kernel
theorem d_A_fastRemove_28 : decode prog_20_method_39_code 28 = .ok (.iload_n 3, 1) := by decide +kernel
theorem d_A_fastRemove_29 : decode prog_20_method_39_code 29 = .ok (.iload_n 2, 1) := by decide +kernel
theorem d_A_fastRemove_30 : decode prog_20_method_39_code 30 = .ok (.isub, 1) := by decide +kernel
theorem d_A_fastRemove_31 : decode prog_20_method_39_code 31 = .ok (.invokestatic 112, 3) := by decide +kernel
theorem d_A_fastRemove_34 : decode prog_20_method_39_code 34 = .ok (.aload_n 1, 1) := by decide +kernel
theorem d_A_fastRemove_35 : decode prog_20_method_39_code 35 = .ok (.aload_n 0, 1) := by decide +kernel
theorem d_A_fastRemove_36 : decode prog_20_method_39_code 36 = .ok (.iload_n 3, 1) := by decide +kernel
theorem d_A_fastRemove_37 : decode prog_20_method_39_code 37 = .ok (.dup_x1, 1) := by decide +kernel
theorem d_A_fastRemove_38 : decode prog_20_method_39_code 38 = .ok (.putfield 48, 3) := by decide +kernel
theorem d_A_fastRemove_41 : decode prog_20_method_39_code 41 = .ok (.aconst_null, 1) := by decide +kernel
theorem d_A_fastRemove_42 : decode prog_20_method_39_code 42 = .ok (.aastore, 1) := by decide +kernel
theorem d_A_fastRemove_43 : decode prog_20_method_39_code 43 = .ok (.return_, 1) := by decide +kernel
def W_A_fastRemove : Wl := ([(9, 1), (9, 2)], [73, 74])
def j_A_fastRemove_34_M (y0 : Nat) (y1 : Option Nat) (y3 : Int32) (h : Hp) : Option Hp :=
  gd (isK h y0 9) (nm (wI h y0 1 y3) fun h7 => dr y1 fun a10 => gd (isO h7 a10 6) (gd (inb y3 (hpL h7 a10)) (gd (asV h7 none a10) (nm (wR h7 a10 y3.toNatClampNeg none) fun h15 => some h15))))
set_option maxRecDepth 100000 in
set_option maxHeartbeats 4000000 in
theorem zj_A_fastRemove_34_M {l : Launch} {C : Ct} {mi : Nat} {y0 : Nat} {y1 : Option Nat} {y3 : Int32} {h h' : Hp} (hf : j_A_fastRemove_34_M y0 y1 y3 h = some h') : Z l C mi m_A_fastRemove 1 34 [(0, vr (some y0)), (1, vr y1), (3, vi y3)] [] h none h' := by
  unfold j_A_fastRemove_34_M at hf
  refine z_aload_n 1 d_A_fastRemove_34 rfl rfl ?_
  refine z_aload_n 0 d_A_fastRemove_35 rfl rfl ?_
  refine z_iload_n 2 d_A_fastRemove_36 rfl rfl ?_
  refine z_dup_x1 d_A_fastRemove_37 rfl rfl ?_
  obtain ⟨g6, hf⟩ := gd_some hf
  obtain ⟨h7, eh8, hf⟩ := nm_some hf
  refine z_putI d_A_fastRemove_38 (fl_K (isK_eq g6) fl_A_48_9) (pu_K (isK_eq g6) (fun q hq => by cases (Option.some.inj hq); exact Or.inl rfl)) (fi_K (isK_eq g6) rfl) rfl ?_
  refine z_hp eh8 ?_
  refine z_aconst_null d_A_fastRemove_41 ?_
  obtain ⟨a10, e11, hf⟩ := dr_some hf
  obtain ⟨g12, hf⟩ := gd_some hf
  obtain ⟨g13, hf⟩ := gd_some hf
  obtain ⟨g14, hf⟩ := gd_some hf
  obtain ⟨h15, eh16, hf⟩ := nm_some hf
  refine z_aast d_A_fastRemove_42 e11 (isO_eq g12).1 (by rw [(isO_eq g12).2]; decide) (asV_ok g14) (inb_vp g13) ?_
  refine z_hp eh16 ?_
  cases (Option.some.inj hf)
  exact z_ret d_A_fastRemove_43 rfl
set_option maxRecDepth 100000 in
set_option maxHeartbeats 4000000 in
theorem kj_A_fastRemove_34_M {C : Ct} {mi : Nat} {y0 : Nat} {y1 : Option Nat} {y3 : Int32} {h h' : Hp} (hf : j_A_fastRemove_34_M y0 y1 y3 h = some h') : Keep W_A_fastRemove h h' := by
  unfold j_A_fastRemove_34_M at hf
  obtain ⟨g6, hf⟩ := gd_some hf
  obtain ⟨h7, eh8, hf⟩ := nm_some hf
  have K9 := (Keep.refl W_A_fastRemove _).trans (kw_I eh8 (isK_eq g6) (Or.inl (by decide)))
  obtain ⟨a10, e11, hf⟩ := dr_some hf
  obtain ⟨g12, hf⟩ := gd_some hf
  obtain ⟨g13, hf⟩ := gd_some hf
  obtain ⟨g14, hf⟩ := gd_some hf
  obtain ⟨h15, eh16, hf⟩ := nm_some hf
  have K17 := K9.trans (kw_RO eh16 g12 (by decide) (by decide))
  cases (Option.some.inj hf)
  exact K17
def f_A_fastRemove (a0 : Nat) (p1 : Option Nat) (p2 : Int32) (h : Hp) : Option Hp :=
  gd (isK h a0 9) (nm (wI h a0 2 ((hpI h a0 2) + (1 : Int32))) fun h2 => if ((hpI h2 a0 1) - (1 : Int32)) ≤ p2 then (j_A_fastRemove_34_M a0 p1 ((hpI h2 a0 1) - (1 : Int32)) h2) else (dr p1 fun a18 => gd (isO h2 a18 6) (gd (cpB h2 a18 a18 (p2 + (1 : Int32)) p2 (((hpI h2 a0 1) - (1 : Int32)) - p2)) (gd (cpE h2 a18 (p2 + (1 : Int32)) (((hpI h2 a0 1) - (1 : Int32)) - p2)) (nm (cpR h2 a18 (p2 + (1 : Int32)).toNatClampNeg a18 p2.toNatClampNeg (((hpI h2 a0 1) - (1 : Int32)) - p2).toNatClampNeg) fun h23 => j_A_fastRemove_34_M a0 p1 ((hpI h2 a0 1) - (1 : Int32)) h23)))))
set_option maxRecDepth 100000 in
set_option maxHeartbeats 4000000 in
theorem zf_A_fastRemove {l : Launch} {C : Ct} {mi : Nat} {a0 : Nat} {p1 : Option Nat} {p2 : Int32} {h h' : Hp} (hf : f_A_fastRemove a0 p1 p2 h = some h') : Z l C mi m_A_fastRemove 1 0 [(0, vr (some a0)), (1, vr p1), (2, vi p2)] [] h none h' := by
  unfold f_A_fastRemove at hf
  refine z_aload_n 0 d_A_fastRemove_0 rfl rfl ?_
  refine z_dup d_A_fastRemove_1 rfl ?_
  obtain ⟨g1, hf⟩ := gd_some hf
  refine z_getI d_A_fastRemove_2 (fl_K (isK_eq g1) fl_A_63_9) (fi_K (isK_eq g1) rfl) rfl ?_
  refine z_iconst (v := (1 : Int32)) d_A_fastRemove_5 (by decide) ?_
  refine z_iadd d_A_fastRemove_6 ?_
  obtain ⟨h2, eh3, hf⟩ := nm_some hf
  refine z_putI d_A_fastRemove_7 (fl_K (isK_eq g1) fl_A_63_9) (pu_K (isK_eq g1) (fun q hq => by cases (Option.some.inj hq); exact Or.inl rfl)) (fi_K (isK_eq g1) rfl) rfl ?_
  refine z_hp eh3 ?_
  refine z_aload_n 0 d_A_fastRemove_10 rfl rfl ?_
  refine z_getI d_A_fastRemove_11 (fl_K (isK_eq (isK_wI eh3 g1)) fl_A_48_9) (fi_K (isK_eq (isK_wI eh3 g1)) rfl) rfl ?_
  refine z_iconst (v := (1 : Int32)) d_A_fastRemove_14 (by decide) ?_
  refine z_isub d_A_fastRemove_15 ?_
  refine z_dup d_A_fastRemove_16 rfl ?_
  refine z_istore_n (ls2 := [(3, vi ((hpI h2 a0 1) - (1 : Int32))), (0, vr (some a0)), (1, vr p1), (2, vi p2)]) d_A_fastRemove_17 rfl (by decide) rfl ?_
  refine z_iload_n 3 d_A_fastRemove_18 rfl rfl ?_
  refine z_icmp_le (tgt := 34) d_A_fastRemove_19 (by decide) (fun c5 => ?_) (fun c5 => ?_)
  · rw [if_pos c5] at hf
    refine z_ls [1, 2, 0] rfl ?_
    exact zj_A_fastRemove_34_M hf
  · rw [if_neg c5] at hf
    refine z_aload_n 2 d_A_fastRemove_22 rfl rfl ?_
    refine z_iload_n 3 d_A_fastRemove_23 rfl rfl ?_
    refine z_iconst (v := (1 : Int32)) d_A_fastRemove_24 (by decide) ?_
    refine z_iadd d_A_fastRemove_25 ?_
    refine z_aload_n 2 d_A_fastRemove_26 rfl rfl ?_
    refine z_iload_n 3 d_A_fastRemove_27 rfl rfl ?_
    refine z_iload_n 0 d_A_fastRemove_28 rfl rfl ?_
    refine z_iload_n 3 d_A_fastRemove_29 rfl rfl ?_
    refine z_isub d_A_fastRemove_30 ?_
    obtain ⟨a18, e19, hf⟩ := dr_some hf
    obtain ⟨g20, hf⟩ := gd_some hf
    obtain ⟨g21, hf⟩ := gd_some hf
    obtain ⟨g22, hf⟩ := gd_some hf
    obtain ⟨h23, eh24, hf⟩ := nm_some hf
    refine z_copyR d_A_fastRemove_31 (show Cond.methodLink _ _ _ ∈ lw_w by decide +kernel) (by decide) (Nat.le_of_ble_eq_true rfl) e19 e19 (isO_eq g20).1 (isO_eq g20).2 (isO_eq g20).1 (isO_eq g20).2 (cpB_eq g21).1 (cpB_eq g21).2.1 (cpB_eq g21).2.2.1 (cpB_eq g21).2.2.2.1 (cpB_eq g21).2.2.2.2 (cpE_ok g22) ?_
    refine z_hp eh24 ?_
    refine z_ls [1, 2, 0] rfl ?_
    exact zj_A_fastRemove_34_M hf
set_option maxRecDepth 100000 in
set_option maxHeartbeats 4000000 in
theorem fr_A_fastRemove {C : Ct} {mi : Nat} {a0 : Nat} {p1 : Option Nat} {p2 : Int32} {h h' : Hp} (hf : f_A_fastRemove a0 p1 p2 h = some h') : Keep W_A_fastRemove h h' := by
  unfold f_A_fastRemove at hf
  obtain ⟨g1, hf⟩ := gd_some hf
  obtain ⟨h2, eh3, hf⟩ := nm_some hf
  have K4 := (Keep.refl W_A_fastRemove _).trans (kw_I eh3 (isK_eq g1) (Or.inl (by decide)))
  rcases Classical.em (((hpI h2 a0 1) - (1 : Int32)) ≤ p2) with c5 | c5
  · rw [if_pos c5] at hf
    exact K4.trans (kj_A_fastRemove_34_M (C := C) (mi := mi) hf)
  · rw [if_neg c5] at hf
    obtain ⟨a18, e19, hf⟩ := dr_some hf
    obtain ⟨g20, hf⟩ := gd_some hf
    obtain ⟨g21, hf⟩ := gd_some hf
    obtain ⟨g22, hf⟩ := gd_some hf
    obtain ⟨h23, eh24, hf⟩ := nm_some hf
    have K25 := K4.trans (kw_cO eh24 g20 (by decide) (by decide))
    exact K25.trans (kj_A_fastRemove_34_M (C := C) (mi := mi) hf)
theorem c_A_fastRemove {l : Launch} {C : Ct} {mi : Nat} {a0 : Nat} {p1 : Option Nat} {p2 : Int32} {h h' : Hp} (hf : f_A_fastRemove a0 p1 p2 h = some h') : Mt l C mi m_A_fastRemove 1 [vr (some a0), vr p1, vi p2] h none h' := mt_V rfl rfl (by decide) (Nat.le_of_ble_eq_true rfl) (zf_A_fastRemove hf)
-- java/util/ArrayList.remove(I)Ljava/lang/Object;
def m_A_remove : Mi := (⟨"java/util/ArrayList", "remove", "(I)Ljava/lang/Object;"⟩, prog_20_method_29_code, 4, (Option.some (Jvm.ClassFile.FieldType.object "java/lang/Object")), .areturn)
theorem cw_A_remove : cw_ok m_A_remove 1 := ⟨by decide +kernel, by decide +kernel, by decide +kernel, by decide +kernel⟩
theorem im_A_remove : Cond.instanceMethod m_A_remove.1 ∈ lw_w := by decide +kernel
theorem se_A_remove : Cond.selects "java/util/ArrayList" m_A_remove.1 m_A_remove.1 ∈ lw_w := by decide +kernel
theorem d_A_remove_0 : decode prog_20_method_29_code 0 = .ok (.iload_n 1, 1) := by decide +kernel
theorem d_A_remove_1 : decode prog_20_method_29_code 1 = .ok (.aload_n 0, 1) := by decide +kernel
theorem d_A_remove_2 : decode prog_20_method_29_code 2 = .ok (.getfield 48, 3) := by decide +kernel
theorem d_A_remove_5 : decode prog_20_method_29_code 5 = .ok (.invokestatic 118, 3) := by decide +kernel
theorem d_A_remove_8 : decode prog_20_method_29_code 8 = .ok (.pop, 1) := by decide +kernel
theorem d_A_remove_9 : decode prog_20_method_29_code 9 = .ok (.aload_n 0, 1) := by decide +kernel
theorem d_A_remove_10 : decode prog_20_method_29_code 10 = .ok (.getfield 9, 3) := by decide +kernel
theorem d_A_remove_13 : decode prog_20_method_29_code 13 = .ok (.astore_n 2, 1) := by decide +kernel
theorem d_A_remove_14 : decode prog_20_method_29_code 14 = .ok (.aload_n 2, 1) := by decide +kernel
theorem d_A_remove_15 : decode prog_20_method_29_code 15 = .ok (.iload_n 1, 1) := by decide +kernel
theorem d_A_remove_16 : decode prog_20_method_29_code 16 = .ok (.aaload, 1) := by decide +kernel
theorem d_A_remove_17 : decode prog_20_method_29_code 17 = .ok (.astore_n 3, 1) := by decide +kernel
theorem d_A_remove_18 : decode prog_20_method_29_code 18 = .ok (.aload_n 0, 1) := by decide +kernel
theorem d_A_remove_19 : decode prog_20_method_29_code 19 = .ok (.aload_n 2, 1) := by decide +kernel
theorem d_A_remove_20 : decode prog_20_method_29_code 20 = .ok (.iload_n 1, 1) := by decide +kernel
theorem d_A_remove_21 : decode prog_20_method_29_code 21 = .ok (.invokevirtual 144, 3) := by decide +kernel
theorem d_A_remove_24 : decode prog_20_method_29_code 24 = .ok (.aload_n 3, 1) := by decide +kernel
theorem d_A_remove_25 : decode prog_20_method_29_code 25 = .ok (.areturn, 1) := by decide +kernel
def W_A_remove : Wl := ([(9, 1), (9, 2)], [73, 74])
def f_A_remove (a0 : Nat) (p1 : Int32) (h : Hp) : Option (Option Nat × Hp) :=
  gd (isK h a0 9) (cl (f_Ob_checkIndex p1 (hpI h a0 1) h) fun v4 h2 => gd (isK h2 a0 9) (dr (hpR h2 a0 0) fun a7 => gd (isO h2 a7 6) (gd (inb p1 (hpL h2 a7)) (cv (f_A_fastRemove a0 (hpR h2 a0 0) p1 h2) fun h11 => some ((hpR h2 a7 p1.toNatClampNeg), h11)))))
set_option maxRecDepth 100000 in
set_option maxHeartbeats 4000000 in
theorem zf_A_remove {l : Launch} {C : Ct} {mi : Nat} {a0 : Nat} {p1 : Int32} {h h' : Hp} {v : Option Nat} (hf : f_A_remove a0 p1 h = some (v, h')) : Z l C mi m_A_remove 2 0 [(0, vr (some a0)), (1, vi p1)] [] h (some (vr v)) h' := by
  unfold f_A_remove at hf
  refine z_iload_n 1 d_A_remove_0 rfl rfl ?_
  refine z_aload_n 0 d_A_remove_1 rfl rfl ?_
  obtain ⟨g1, hf⟩ := gd_some hf
  refine z_getI d_A_remove_2 (fl_K (isK_eq g1) fl_A_48_9) (fi_K (isK_eq g1) rfl) rfl ?_
  obtain ⟨v4, h2, ec3, hf⟩ := cl_some hf
  refine z_callS (c_Ob_checkIndex ec3) d_A_remove_5 cw_Ob_checkIndex lk_A_118 (by decide +kernel) ⟨by decide, by decide⟩ (Nat.le_of_ble_eq_true rfl) rfl ?_
  refine z_pop d_A_remove_8 rfl ?_
  refine z_aload_n 0 d_A_remove_9 rfl rfl ?_
  obtain ⟨g6, hf⟩ := gd_some hf
  refine z_getR d_A_remove_10 (fl_K (isK_eq g6) fl_A_9_9) (fi_K (isK_eq g6) rfl) rfl ?_
  refine z_astore_n (ls2 := [(2, vr (hpR h2 a0 0)), (0, vr (some a0)), (1, vi p1)]) d_A_remove_13 rfl (by decide) rfl ?_
  refine z_aload_n 0 d_A_remove_14 rfl rfl ?_
  refine z_iload_n 2 d_A_remove_15 rfl rfl ?_
  obtain ⟨a7, e8, hf⟩ := dr_some hf
  obtain ⟨g9, hf⟩ := gd_some hf
  obtain ⟨g10, hf⟩ := gd_some hf
  refine z_aald d_A_remove_16 e8 (isO_eq g9).1 (by rw [(isO_eq g9).2]; decide) (inb_vp g10) ?_
  refine z_astore_n (ls2 := [(3, vr (hpR h2 a7 p1.toNatClampNeg)), (2, vr (hpR h2 a0 0)), (0, vr (some a0)), (1, vi p1)]) d_A_remove_17 rfl (by decide) rfl ?_
  refine z_aload_n 2 d_A_remove_18 rfl rfl ?_
  refine z_aload_n 1 d_A_remove_19 rfl rfl ?_
  refine z_iload_n 3 d_A_remove_20 rfl rfl ?_
  obtain ⟨h11, ec12, hf⟩ := cv_some hf
  refine z_callVx rfl (c_A_fastRemove ec12) d_A_remove_21 cw_A_fastRemove lk_A_144 im_A_fastRemove se_A_fastRemove (kc_K (isK_eq g6) kc_9) ⟨by decide, by decide⟩ (Nat.le_of_ble_eq_true rfl) rfl ?_
  refine z_aload_n 0 d_A_remove_24 rfl rfl ?_
  obtain ⟨rfl, rfl⟩ := Prod.mk.inj (Option.some.inj hf)
  exact z_ret d_A_remove_25 rfl
set_option maxRecDepth 100000 in
set_option maxHeartbeats 4000000 in
theorem fr_A_remove {C : Ct} {mi : Nat} {a0 : Nat} {p1 : Int32} {h h' : Hp} {v : Option Nat} (hf : f_A_remove a0 p1 h = some (v, h')) : Keep W_A_remove h h' := by
  unfold f_A_remove at hf
  obtain ⟨g1, hf⟩ := gd_some hf
  obtain ⟨v4, h2, ec3, hf⟩ := cl_some hf
  have K5 := (Keep.refl W_A_remove _).trans ((fr_Ob_checkIndex (C := C) (mi := mi) ec3).mono (by decide) (by decide))
  obtain ⟨g6, hf⟩ := gd_some hf
  obtain ⟨a7, e8, hf⟩ := dr_some hf
  obtain ⟨g9, hf⟩ := gd_some hf
  obtain ⟨g10, hf⟩ := gd_some hf
  obtain ⟨h11, ec12, hf⟩ := cv_some hf
  have K13 := K5.trans ((fr_A_fastRemove (C := C) (mi := mi) ec12).mono (by decide) (by decide))
  obtain ⟨rfl, rfl⟩ := Prod.mk.inj (Option.some.inj hf)
  exact K13
theorem c_A_remove {l : Launch} {C : Ct} {mi : Nat} {a0 : Nat} {p1 : Int32} {h h' : Hp} {v : Option Nat} (hf : f_A_remove a0 p1 h = some (v, h')) : Mt l C mi m_A_remove 2 [vr (some a0), vi p1] h (some (vr v)) h' := mt_R rfl (Or.inl ⟨_, rfl⟩) rfl (by decide) (Nat.le_of_ble_eq_true rfl) (zf_A_remove hf)
-- java/util/ArrayList.clear()V
def m_A_clear : Mi := (⟨"java/util/ArrayList", "clear", "()V"⟩, prog_20_method_40_code, 4, (Option.none : Option Jvm.ClassFile.FieldType), .return_)
theorem cw_A_clear : cw_ok m_A_clear 0 := ⟨by decide +kernel, by decide +kernel, by decide +kernel, by decide +kernel⟩
theorem im_A_clear : Cond.instanceMethod m_A_clear.1 ∈ lw_w := by decide +kernel
theorem se_A_clear : Cond.selects "java/util/ArrayList" m_A_clear.1 m_A_clear.1 ∈ lw_w := by decide +kernel
theorem d_A_clear_0 : decode prog_20_method_40_code 0 = .ok (.aload_n 0, 1) := by decide +kernel
theorem d_A_clear_1 : decode prog_20_method_40_code 1 = .ok (.dup, 1) := by decide +kernel
theorem d_A_clear_2 : decode prog_20_method_40_code 2 = .ok (.getfield 63, 3) := by decide +kernel
theorem d_A_clear_5 : decode prog_20_method_40_code 5 = .ok (.iconst 1, 1) := by decide +kernel
theorem d_A_clear_6 : decode prog_20_method_40_code 6 = .ok (.iadd, 1) := by decide +kernel
theorem d_A_clear_7 : decode prog_20_method_40_code 7 = .ok (.putfield 63, 3) := by decide +kernel
theorem d_A_clear_10 : decode prog_20_method_40_code 10 = .ok (.aload_n 0, 1) := by decide +kernel
theorem d_A_clear_11 : decode prog_20_method_40_code 11 = .ok (.getfield 9, 3) := by decide +kernel
theorem d_A_clear_14 : decode prog_20_method_40_code 14 = .ok (.astore_n 1, 1) := by decide +kernel
theorem d_A_clear_15 : decode prog_20_method_40_code 15 = .ok (.aload_n 0, 1) := by decide +kernel
theorem d_A_clear_16 : decode prog_20_method_40_code 16 = .ok (.getfield 48, 3) := by decide +kernel
theorem d_A_clear_19 : decode prog_20_method_40_code 19 = .ok (.istore_n 2, 1) := by decide +kernel
theorem d_A_clear_20 : decode prog_20_method_40_code 20 = .ok (.aload_n 0, 1) := by decide +kernel
theorem d_A_clear_21 : decode prog_20_method_40_code 21 = .ok (.iconst 0, 1) := by decide +kernel
theorem d_A_clear_22 : decode prog_20_method_40_code 22 = .ok (.dup_x1, 1) := by decide +kernel
theorem d_A_clear_23 : decode prog_20_method_40_code 23 = .ok (.putfield 48, 3) := by decide +kernel
theorem d_A_clear_26 : decode prog_20_method_40_code 26 = .ok (.istore_n 3, 1) := by decide +kernel
theorem d_A_clear_27 : decode prog_20_method_40_code 27 = .ok (.iload_n 3, 1) := by decide +kernel
theorem d_A_clear_28 : decode prog_20_method_40_code 28 = .ok (.iload_n 2, 1) := by decide +kernel
theorem d_A_clear_29 : decode prog_20_method_40_code 29 = .ok (.if_icmp .ge 13, 3) := by decide +kernel
theorem d_A_clear_32 : decode prog_20_method_40_code 32 = .ok (.aload_n 1, 1) := by decide +kernel
theorem d_A_clear_33 : decode prog_20_method_40_code 33 = .ok (.iload_n 3, 1) := by decide +kernel
theorem d_A_clear_34 : decode prog_20_method_40_code 34 = .ok (.aconst_null, 1) := by decide +kernel
theorem d_A_clear_35 : decode prog_20_method_40_code 35 = .ok (.aastore, 1) := by decide +kernel
theorem d_A_clear_36 : decode prog_20_method_40_code 36 = .ok (.iinc 3 1, 3) := by decide +kernel
theorem d_A_clear_39 : decode prog_20_method_40_code 39 = .ok (.goto (-12), 3) := by decide +kernel
theorem d_A_clear_42 : decode prog_20_method_40_code 42 = .ok (.return_, 1) := by decide +kernel
def W_A_clear : Wl := ([(9, 1), (9, 2)], [73, 74])
def b_A_clear_27 (y1 : Option Nat) (y2 : Int32) (y3 : Int32) (h : Hp) : Option ((Int32 × Hp) ⊕ (Hp)) :=
  if y2 ≤ y3 then (some (.inr h)) else (dr y1 fun a9 => gd (isO h a9 6) (gd (inb y3 (hpL h a9)) (gd (asV h none a9) (nm (wR h a9 y3.toNatClampNeg none) fun h14 => some (.inl ((y3 + (1 : Int32)), h14))))))
set_option maxRecDepth 100000 in
set_option maxHeartbeats 4000000 in
theorem zb_A_clear_27 {l : Launch} {C : Ct} {mi : Nat} {y1 : Option Nat} {y2 : Int32} {y3 : Int32} {h h' : Hp} {q : ((Int32 × Hp) ⊕ (Hp))} (hf : b_A_clear_27 y1 y2 y3 h = some q) (kc : ∀ s, q = .inl s → Z l C mi m_A_clear 0 27 [(1, vr y1), (2, vi y2), (3, vi s.1)] [] s.2 none h') (ke : ∀ x, q = .inr x → Z l C mi m_A_clear 0 42 [] [] x none h') : Z l C mi m_A_clear 0 27 [(1, vr y1), (2, vi y2), (3, vi y3)] [] h none h' := by
  unfold b_A_clear_27 at hf
  refine z_iload_n 2 d_A_clear_27 rfl rfl ?_
  refine z_iload_n 1 d_A_clear_28 rfl rfl ?_
  refine z_icmp_ge (tgt := 42) d_A_clear_29 (by decide) (fun c8 => ?_) (fun c8 => ?_)
  · rw [if_pos c8] at hf
    refine z_ls [] rfl ?_
    exact ke h (Option.some.inj hf).symm
  · rw [if_neg c8] at hf
    refine z_aload_n 0 d_A_clear_32 rfl rfl ?_
    refine z_iload_n 2 d_A_clear_33 rfl rfl ?_
    refine z_aconst_null d_A_clear_34 ?_
    obtain ⟨a9, e10, hf⟩ := dr_some hf
    obtain ⟨g11, hf⟩ := gd_some hf
    obtain ⟨g12, hf⟩ := gd_some hf
    obtain ⟨g13, hf⟩ := gd_some hf
    obtain ⟨h14, eh15, hf⟩ := nm_some hf
    refine z_aast d_A_clear_35 e10 (isO_eq g11).1 (by rw [(isO_eq g11).2]; decide) (asV_ok g13) (inb_vp g12) ?_
    refine z_hp eh15 ?_
    refine z_iinc (ls2 := [(3, vi (y3 + (1 : Int32))), (1, vr y1), (2, vi y2)]) 2 d_A_clear_36 rfl rfl (by decide) rfl ?_
    refine z_goto (tgt := 27) d_A_clear_39 (by decide) ?_
    refine z_ls [1, 2, 0] rfl ?_
    exact kc ((y3 + (1 : Int32)), h14) (Option.some.inj hf).symm
set_option maxRecDepth 100000 in
set_option maxHeartbeats 4000000 in
theorem kb_A_clear_27 {C : Ct} {mi : Nat} {y1 : Option Nat} {y2 : Int32} {y3 : Int32} {h : Hp} {q : ((Int32 × Hp) ⊕ (Hp))} (hf : b_A_clear_27 y1 y2 y3 h = some q) : Keep W_A_clear h (Sum.elim (fun s : Int32 × Hp => s.2) (fun x : Hp => x) q) := by
  unfold b_A_clear_27 at hf
  rcases Classical.em (y2 ≤ y3) with c8 | c8
  · rw [if_pos c8] at hf
    cases (Option.some.inj hf)
    exact (Keep.refl W_A_clear _)
  · rw [if_neg c8] at hf
    obtain ⟨a9, e10, hf⟩ := dr_some hf
    obtain ⟨g11, hf⟩ := gd_some hf
    obtain ⟨g12, hf⟩ := gd_some hf
    obtain ⟨g13, hf⟩ := gd_some hf
    obtain ⟨h14, eh15, hf⟩ := nm_some hf
    have K16 := (Keep.refl W_A_clear _).trans (kw_RO eh15 g11 (by decide) (by decide))
    cases (Option.some.inj hf)
    exact K16
def l_A_clear_27 (y1 : Option Nat) (y2 : Int32) (s : Int32 × Hp) : Option (Hp) := lp (fun s => b_A_clear_27 y1 y2 s.1 s.2) FU s
theorem zzl_A_clear_27 {l : Launch} {C : Ct} {mi : Nat} {y1 : Option Nat} {y2 : Int32} {h' : Hp} : ∀ (n : Nat) (s : Int32 × Hp) (x : (Hp)), lp (fun s : Int32 × Hp => b_A_clear_27 y1 y2 s.1 s.2) n s = some x → Z l C mi m_A_clear 0 42 [] [] x none h' → Z l C mi m_A_clear 0 27 [(1, vr y1), (2, vi y2), (3, vi s.1)] [] s.2 none h' := by
  intro n
  induction n with
  | zero => intro s x hl; cases hl
  | succ n ih =>
    intro s x hl ke
    rcases lp_some hl with ⟨s2, hb, hl2⟩ | hb
    · exact zb_A_clear_27 hb (fun s3 e3 => by cases e3; refine z_ls [0, 1, 2] rfl ?_; exact ih s2 x hl2 ke) (fun x e3 => by cases e3)
    · exact zb_A_clear_27 hb (fun s3 e3 => by cases e3) (fun x e3 => by cases e3; exact ke)
theorem zl_A_clear_27 {l : Launch} {C : Ct} {mi : Nat} {y1 : Option Nat} {y2 : Int32} {h' : Hp} {s : Int32 × Hp} {x : (Hp)} (hl : l_A_clear_27 y1 y2 s = some x) (ke : Z l C mi m_A_clear 0 42 [] [] x none h') : Z l C mi m_A_clear 0 27 [(1, vr y1), (2, vi y2), (3, vi s.1)] [] s.2 none h' := zzl_A_clear_27 FU s x hl ke
theorem kl_A_clear_27 {C : Ct} {mi : Nat} {y1 : Option Nat} {y2 : Int32} {s : Int32 × Hp} {q : (Hp)} (hl : l_A_clear_27 y1 y2 s = some q) : Keep W_A_clear s.2 ((fun x : Hp => x) q) := lpk (sh := (fun s : Int32 × Hp => s.2)) (rh := (fun x : Hp => x)) (fun s q hb => kb_A_clear_27 (C := C) (mi := mi) hb) FU s q hl
def f_A_clear (a0 : Nat) (h : Hp) : Option Hp :=
  gd (isK h a0 9) (nm (wI h a0 2 ((hpI h a0 2) + (1 : Int32))) fun h2 => nm (wI h2 a0 1 (0 : Int32)) fun h5 => bd (l_A_clear_27 (hpR h2 a0 0) (hpI h2 a0 1) ((0 : Int32), h5)) fun x17 => some x17)
set_option maxRecDepth 100000 in
set_option maxHeartbeats 4000000 in
theorem zf_A_clear {l : Launch} {C : Ct} {mi : Nat} {a0 : Nat} {h h' : Hp} (hf : f_A_clear a0 h = some h') : Z l C mi m_A_clear 0 0 [(0, vr (some a0))] [] h none h' := by
  unfold f_A_clear at hf
  refine z_aload_n 0 d_A_clear_0 rfl rfl ?_
  refine z_dup d_A_clear_1 rfl ?_
  obtain ⟨g1, hf⟩ := gd_some hf
  refine z_getI d_A_clear_2 (fl_K (isK_eq g1) fl_A_63_9) (fi_K (isK_eq g1) rfl) rfl ?_
  refine z_iconst (v := (1 : Int32)) d_A_clear_5 (by decide) ?_
  refine z_iadd d_A_clear_6 ?_
  obtain ⟨h2, eh3, hf⟩ := nm_some hf
  refine z_putI d_A_clear_7 (fl_K (isK_eq g1) fl_A_63_9) (pu_K (isK_eq g1) (fun q hq => by cases (Option.some.inj hq); exact Or.inl rfl)) (fi_K (isK_eq g1) rfl) rfl ?_
  refine z_hp eh3 ?_
  refine z_aload_n 0 d_A_clear_10 rfl rfl ?_
  refine z_getR d_A_clear_11 (fl_K (isK_eq (isK_wI eh3 g1)) fl_A_9_9) (fi_K (isK_eq (isK_wI eh3 g1)) rfl) rfl ?_
  refine z_astore_n (ls2 := [(1, vr (hpR h2 a0 0)), (0, vr (some a0))]) d_A_clear_14 rfl (by decide) rfl ?_
  refine z_aload_n 1 d_A_clear_15 rfl rfl ?_
  refine z_getI d_A_clear_16 (fl_K (isK_eq (isK_wI eh3 g1)) fl_A_48_9) (fi_K (isK_eq (isK_wI eh3 g1)) rfl) rfl ?_
  refine z_istore_n (ls2 := [(2, vi (hpI h2 a0 1)), (1, vr (hpR h2 a0 0)), (0, vr (some a0))]) d_A_clear_19 rfl (by decide) rfl ?_
  refine z_aload_n 2 d_A_clear_20 rfl rfl ?_
  refine z_iconst (v := (0 : Int32)) d_A_clear_21 (by decide) ?_
  refine z_dup_x1 d_A_clear_22 rfl rfl ?_
  obtain ⟨h5, eh6, hf⟩ := nm_some hf
  refine z_putI d_A_clear_23 (fl_K (isK_eq (isK_wI eh3 g1)) fl_A_48_9) (pu_K (isK_eq (isK_wI eh3 g1)) (fun q hq => by cases (Option.some.inj hq); exact Or.inl rfl)) (fi_K (isK_eq (isK_wI eh3 g1)) rfl) rfl ?_
  refine z_hp eh6 ?_
  refine z_istore_n (ls2 := [(3, vi (0 : Int32)), (2, vi (hpI h2 a0 1)), (1, vr (hpR h2 a0 0)), (0, vr (some a0))]) d_A_clear_26 rfl (by decide) rfl ?_
  obtain ⟨x17, el18, hf⟩ := bd_some hf
  refine z_ls [2, 1, 0] rfl ?_
  refine zl_A_clear_27 el18 ?_
  cases (Option.some.inj hf)
  exact z_ret d_A_clear_42 rfl
set_option maxRecDepth 100000 in
set_option maxHeartbeats 4000000 in
theorem fr_A_clear {C : Ct} {mi : Nat} {a0 : Nat} {h h' : Hp} (hf : f_A_clear a0 h = some h') : Keep W_A_clear h h' := by
  unfold f_A_clear at hf
  obtain ⟨g1, hf⟩ := gd_some hf
  obtain ⟨h2, eh3, hf⟩ := nm_some hf
  have K4 := (Keep.refl W_A_clear _).trans (kw_I eh3 (isK_eq g1) (Or.inl (by decide)))
  obtain ⟨h5, eh6, hf⟩ := nm_some hf
  have K7 := K4.trans (kw_I eh6 (isK_eq (isK_wI eh3 g1)) (Or.inl (by decide)))
  obtain ⟨x17, el18, hf⟩ := bd_some hf
  have K19 := K7.trans (kl_A_clear_27 (C := C) (mi := mi) el18)
  cases (Option.some.inj hf)
  exact K19
theorem c_A_clear {l : Launch} {C : Ct} {mi : Nat} {a0 : Nat} {h h' : Hp} (hf : f_A_clear a0 h = some h') : Mt l C mi m_A_clear 0 [vr (some a0)] h none h' := mt_V rfl rfl (by decide) (Nat.le_of_ble_eq_true rfl) (zf_A_clear hf)
-- java/lang/Integer.bitCount(I)I
def m_In_bitCount : Mi := (⟨"java/lang/Integer", "bitCount", "(I)I"⟩, prog_14_method_49_code, 1, (Option.some Jvm.ClassFile.FieldType.int), .ireturn)
theorem cw_In_bitCount : cw_ok m_In_bitCount 1 := ⟨by decide +kernel, by decide +kernel, by decide +kernel, by decide +kernel⟩
theorem d_In_bitCount_0 : decode prog_14_method_49_code 0 = .ok (.iload_n 0, 1) := by decide +kernel
theorem d_In_bitCount_1 : decode prog_14_method_49_code 1 = .ok (.iload_n 0, 1) := by decide +kernel
theorem d_In_bitCount_2 : decode prog_14_method_49_code 2 = .ok (.iconst 1, 1) := by decide +kernel
theorem d_In_bitCount_3 : decode prog_14_method_49_code 3 = .ok (.iushr, 1) := by decide +kernel
theorem d_In_bitCount_4 : decode prog_14_method_49_code 4 = .ok (.ldc_w 265, 3) := by decide +kernel
theorem d_In_bitCount_7 : decode prog_14_method_49_code 7 = .ok (.iand, 1) := by decide +kernel
theorem d_In_bitCount_8 : decode prog_14_method_49_code 8 = .ok (.isub, 1) := by decide +kernel
theorem d_In_bitCount_9 : decode prog_14_method_49_code 9 = .ok (.istore_n 0, 1) := by decide +kernel
theorem d_In_bitCount_10 : decode prog_14_method_49_code 10 = .ok (.iload_n 0, 1) := by decide +kernel
theorem d_In_bitCount_11 : decode prog_14_method_49_code 11 = .ok (.ldc_w 266, 3) := by decide +kernel
theorem d_In_bitCount_14 : decode prog_14_method_49_code 14 = .ok (.iand, 1) := by decide +kernel
theorem d_In_bitCount_15 : decode prog_14_method_49_code 15 = .ok (.iload_n 0, 1) := by decide +kernel
theorem d_In_bitCount_16 : decode prog_14_method_49_code 16 = .ok (.iconst 2, 1) := by decide +kernel
theorem d_In_bitCount_17 : decode prog_14_method_49_code 17 = .ok (.iushr, 1) := by decide +kernel
theorem d_In_bitCount_18 : decode prog_14_method_49_code 18 = .ok (.ldc_w 266, 3) := by decide +kernel
theorem d_In_bitCount_21 : decode prog_14_method_49_code 21 = .ok (.iand, 1) := by decide +kernel
theorem d_In_bitCount_22 : decode prog_14_method_49_code 22 = .ok (.iadd, 1) := by decide +kernel
theorem d_In_bitCount_23 : decode prog_14_method_49_code 23 = .ok (.istore_n 0, 1) := by decide +kernel
theorem d_In_bitCount_24 : decode prog_14_method_49_code 24 = .ok (.iload_n 0, 1) := by decide +kernel
theorem d_In_bitCount_25 : decode prog_14_method_49_code 25 = .ok (.iload_n 0, 1) := by decide +kernel
theorem d_In_bitCount_26 : decode prog_14_method_49_code 26 = .ok (.iconst 4, 1) := by decide +kernel
theorem d_In_bitCount_27 : decode prog_14_method_49_code 27 = .ok (.iushr, 1) := by decide +kernel
theorem d_In_bitCount_28 : decode prog_14_method_49_code 28 = .ok (.iadd, 1) := by decide +kernel
theorem d_In_bitCount_29 : decode prog_14_method_49_code 29 = .ok (.ldc_w 267, 3) := by decide +kernel
theorem d_In_bitCount_32 : decode prog_14_method_49_code 32 = .ok (.iand, 1) := by decide +kernel
theorem d_In_bitCount_33 : decode prog_14_method_49_code 33 = .ok (.istore_n 0, 1) := by decide +kernel
theorem d_In_bitCount_34 : decode prog_14_method_49_code 34 = .ok (.iload_n 0, 1) := by decide +kernel
theorem d_In_bitCount_35 : decode prog_14_method_49_code 35 = .ok (.iload_n 0, 1) := by decide +kernel
theorem d_In_bitCount_36 : decode prog_14_method_49_code 36 = .ok (.bipush 8, 2) := by decide +kernel
theorem d_In_bitCount_38 : decode prog_14_method_49_code 38 = .ok (.iushr, 1) := by decide +kernel
theorem d_In_bitCount_39 : decode prog_14_method_49_code 39 = .ok (.iadd, 1) := by decide +kernel
theorem d_In_bitCount_40 : decode prog_14_method_49_code 40 = .ok (.istore_n 0, 1) := by decide +kernel
theorem d_In_bitCount_41 : decode prog_14_method_49_code 41 = .ok (.iload_n 0, 1) := by decide +kernel
theorem d_In_bitCount_42 : decode prog_14_method_49_code 42 = .ok (.iload_n 0, 1) := by decide +kernel
theorem d_In_bitCount_43 : decode prog_14_method_49_code 43 = .ok (.bipush 16, 2) := by decide +kernel
theorem d_In_bitCount_45 : decode prog_14_method_49_code 45 = .ok (.iushr, 1) := by decide +kernel
theorem d_In_bitCount_46 : decode prog_14_method_49_code 46 = .ok (.iadd, 1) := by decide +kernel
theorem d_In_bitCount_47 : decode prog_14_method_49_code 47 = .ok (.istore_n 0, 1) := by decide +kernel
theorem d_In_bitCount_48 : decode prog_14_method_49_code 48 = .ok (.iload_n 0, 1) := by decide +kernel
theorem d_In_bitCount_49 : decode prog_14_method_49_code 49 = .ok (.bipush 63, 2) := by decide +kernel
theorem d_In_bitCount_51 : decode prog_14_method_49_code 51 = .ok (.iand, 1) := by decide +kernel
theorem d_In_bitCount_52 : decode prog_14_method_49_code 52 = .ok (.ireturn, 1) := by decide +kernel
def W_In_bitCount : Wl := ([], [])
def f_In_bitCount (p1 : Int32) (h : Hp) : Option (Int32 × Hp) :=
  nm ((p1 - ((ushr p1 (1 : Int32)) &&& (nI 1431655765)))) fun x1 => nm (((x1 &&& (nI 858993459)) + ((ushr x1 (nI 2)) &&& (nI 858993459)))) fun x3 => nm ((((x3 + (ushr x3 (nI 4))) &&& (nI 252645135)) + (ushr ((x3 + (ushr x3 (nI 4))) &&& (nI 252645135)) (nI 8)))) fun x5 => some (((x5 + (ushr x5 (nI 16))) &&& (nI 63)), h)
set_option maxRecDepth 100000 in
set_option maxHeartbeats 4000000 in
theorem zf_In_bitCount {l : Launch} {C : Ct} {mi : Nat} {p1 : Int32} {h h' : Hp} {v : Int32} (hf : f_In_bitCount p1 h = some (v, h')) : Z l C mi m_In_bitCount 0 0 [(0, vi p1)] [] h (some (vi v)) h' := by
  unfold f_In_bitCount at hf
  refine z_iload_n 0 d_In_bitCount_0 rfl rfl ?_
  refine z_iload_n 0 d_In_bitCount_1 rfl rfl ?_
  refine z_iconst (v := (1 : Int32)) d_In_bitCount_2 (by decide) ?_
  refine z_iushr d_In_bitCount_3 ?_
  refine z_ldcw (v := (nI 1431655765)) d_In_bitCount_4 (by decide +kernel) ?_
  refine z_iand d_In_bitCount_7 ?_
  refine z_isub d_In_bitCount_8 ?_
  obtain ⟨x1, ex2, hf⟩ := nm_some hf
  refine z_topi ex2 ?_
  refine z_istore_n (ls2 := [(0, vi x1)]) d_In_bitCount_9 rfl (by decide) rfl ?_
  refine z_iload_n 0 d_In_bitCount_10 rfl rfl ?_
  refine z_ldcw (v := (nI 858993459)) d_In_bitCount_11 (by decide +kernel) ?_
  refine z_iand d_In_bitCount_14 ?_
  refine z_iload_n 0 d_In_bitCount_15 rfl rfl ?_
  refine z_iconst (v := (nI 2)) d_In_bitCount_16 (by decide) ?_
  refine z_iushr d_In_bitCount_17 ?_
  refine z_ldcw (v := (nI 858993459)) d_In_bitCount_18 (by decide +kernel) ?_
  refine z_iand d_In_bitCount_21 ?_
  refine z_iadd d_In_bitCount_22 ?_
  obtain ⟨x3, ex4, hf⟩ := nm_some hf
  refine z_topi ex4 ?_
  refine z_istore_n (ls2 := [(0, vi x3)]) d_In_bitCount_23 rfl (by decide) rfl ?_
  refine z_iload_n 0 d_In_bitCount_24 rfl rfl ?_
  refine z_iload_n 0 d_In_bitCount_25 rfl rfl ?_
  refine z_iconst (v := (nI 4)) d_In_bitCount_26 (by decide) ?_
  refine z_iushr d_In_bitCount_27 ?_
  refine z_iadd d_In_bitCount_28 ?_
  refine z_ldcw (v := (nI 252645135)) d_In_bitCount_29 (by decide +kernel) ?_
  refine z_iand d_In_bitCount_32 ?_
  refine z_istore_n (ls2 := [(0, vi ((x3 + (ushr x3 (nI 4))) &&& (nI 252645135)))]) d_In_bitCount_33 rfl (by decide) rfl ?_
  refine z_iload_n 0 d_In_bitCount_34 rfl rfl ?_
  refine z_iload_n 0 d_In_bitCount_35 rfl rfl ?_
  refine z_bipush (v := (nI 8)) d_In_bitCount_36 (by decide) ?_
  refine z_iushr d_In_bitCount_38 ?_
  refine z_iadd d_In_bitCount_39 ?_
  obtain ⟨x5, ex6, hf⟩ := nm_some hf
  refine z_topi ex6 ?_
  refine z_istore_n (ls2 := [(0, vi x5)]) d_In_bitCount_40 rfl (by decide) rfl ?_
  refine z_iload_n 0 d_In_bitCount_41 rfl rfl ?_
  refine z_iload_n 0 d_In_bitCount_42 rfl rfl ?_
  refine z_bipush (v := (nI 16)) d_In_bitCount_43 (by decide) ?_
  refine z_iushr d_In_bitCount_45 ?_
  refine z_iadd d_In_bitCount_46 ?_
  refine z_istore_n (ls2 := [(0, vi (x5 + (ushr x5 (nI 16))))]) d_In_bitCount_47 rfl (by decide) rfl ?_
  refine z_iload_n 0 d_In_bitCount_48 rfl rfl ?_
  refine z_bipush (v := (nI 63)) d_In_bitCount_49 (by decide) ?_
  refine z_iand d_In_bitCount_51 ?_
  obtain ⟨rfl, rfl⟩ := Prod.mk.inj (Option.some.inj hf)
  exact z_ret d_In_bitCount_52 rfl
set_option maxRecDepth 100000 in
set_option maxHeartbeats 4000000 in
theorem fr_In_bitCount {C : Ct} {mi : Nat} {p1 : Int32} {h h' : Hp} {v : Int32} (hf : f_In_bitCount p1 h = some (v, h')) : Keep W_In_bitCount h h' := by
  unfold f_In_bitCount at hf
  obtain ⟨x1, ex2, hf⟩ := nm_some hf
  obtain ⟨x3, ex4, hf⟩ := nm_some hf
  obtain ⟨x5, ex6, hf⟩ := nm_some hf
  obtain ⟨rfl, rfl⟩ := Prod.mk.inj (Option.some.inj hf)
  exact (Keep.refl W_In_bitCount _)
theorem c_In_bitCount {l : Launch} {C : Ct} {mi : Nat} {p1 : Int32} {h h' : Hp} {v : Int32} (hf : f_In_bitCount p1 h = some (v, h')) : Mt l C mi m_In_bitCount 0 [vi p1] h (some (vi v)) h' := mt_I (ty := .int) rfl rfl rfl (by decide) (Nat.le_of_ble_eq_true rfl) (zf_In_bitCount hf)

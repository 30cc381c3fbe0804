-- VersionMaps$Present.<init>()V
def m_P_init : Mi := (⟨"VersionMaps$Present", "<init>", "()V"⟩, prog_7_method_1_code, 1, (Option.none : Option Jvm.ClassFile.FieldType), .return_)
theorem cw_P_init : cw_ok m_P_init 0 := ⟨by decide +kernel, by decide +kernel, by decide +kernel, by decide +kernel⟩
theorem im_P_init : Cond.instanceMethod m_P_init.1 ∈ lw_w := by decide +kernel
theorem d_P_init_0 : decode prog_7_method_1_code 0 = .ok (.aload_n 0, 1) := by decide +kernel
theorem d_P_init_1 : decode prog_7_method_1_code 1 = .ok (.invokespecial 3, 3) := by decide +kernel
theorem d_P_init_4 : decode prog_7_method_1_code 4 = .ok (.aload_n 0, 1) := by decide +kernel
theorem d_P_init_5 : decode prog_7_method_1_code 5 = .ok (.sipush 128, 3) := by decide +kernel
theorem d_P_init_8 : decode prog_7_method_1_code 8 = .ok (.newarray .int, 2) := by decide +kernel
theorem d_P_init_10 : decode prog_7_method_1_code 10 = .ok (.putfield 9, 3) := by decide +kernel
theorem d_P_init_13 : decode prog_7_method_1_code 13 = .ok (.aload_n 0, 1) := by decide +kernel
theorem d_P_init_14 : decode prog_7_method_1_code 14 = .ok (.iconst 4, 1) := by decide +kernel
theorem d_P_init_15 : decode prog_7_method_1_code 15 = .ok (.newarray .int, 2) := by decide +kernel
theorem d_P_init_17 : decode prog_7_method_1_code 17 = .ok (.putfield 15, 3) := by decide +kernel
theorem d_P_init_20 : decode prog_7_method_1_code 20 = .ok (.aload_n 0, 1) := by decide +kernel
theorem d_P_init_21 : decode prog_7_method_1_code 21 = .ok (.iconst 0, 1) := by decide +kernel
theorem d_P_init_22 : decode prog_7_method_1_code 22 = .ok (.putfield 18, 3) := by decide +kernel
theorem d_P_init_25 : decode prog_7_method_1_code 25 = .ok (.aload_n 0, 1) := by decide +kernel
theorem d_P_init_26 : decode prog_7_method_1_code 26 = .ok (.iconst 0, 1) := by decide +kernel
theorem d_P_init_27 : decode prog_7_method_1_code 27 = .ok (.putfield 22, 3) := by decide +kernel
theorem d_P_init_30 : decode prog_7_method_1_code 30 = .ok (.return_, 1) := by decide +kernel
def f_P_init (a0 : Nat) (h : Hp) : Option Hp :=
  nm (nw h 66 128 128) fun h1 => gd (isK h1 a0 5) (nm (wR h1 a0 0 (some (hpN h))) fun h4 => nm (nw h4 67 4 4) fun h6 => gd (isK h6 a0 5) (nm (wR h6 a0 1 (some (hpN h4))) fun h9 => nm (wI h9 a0 2 (0 : Int32)) fun h11 => nm (wI h11 a0 3 (0 : Int32)) fun h13 => some h13))
set_option maxRecDepth 100000 in
set_option maxHeartbeats 4000000 in
theorem zf_P_init {l : Launch} {C : Ct} {mi : Nat} {a0 : Nat} {h h' : Hp} (hf : f_P_init a0 h = some h') : Z l C mi m_P_init 1 0 [(0, vr (some a0))] [] h none h' := by
  unfold f_P_init at hf
  refine z_aload_n 0 d_P_init_0 rfl rfl ?_
  refine z_oinit d_P_init_1 (by decide +kernel) rfl (by decide) (Nat.le_of_ble_eq_true rfl) ?_
  refine z_aload_n 0 d_P_init_4 rfl rfl ?_
  refine z_sipush (v := (128 : Int32)) d_P_init_5 (by decide) ?_
  obtain ⟨h1, eh2, hf⟩ := nm_some hf
  refine z_newI (N := 128) (κ := 66) d_P_init_8 (by decide) rfl (by decide) (by decide) (by decide) ?_
  refine z_hp eh2 ?_
  obtain ⟨g3, hf⟩ := gd_some hf
  obtain ⟨h4, eh5, hf⟩ := nm_some hf
  refine z_putR d_P_init_10 (fl_K (isK_eq g3) fl_P_9_5) (pu_K (isK_eq g3) (fun q hq => by cases (Option.some.inj hq); exact Or.inr ⟨rfl, rfl⟩)) (fi_K (isK_eq g3) rfl) rfl ?_
  refine z_hp eh5 ?_
  refine z_aload_n 0 d_P_init_13 rfl rfl ?_
  refine z_iconst (v := (4 : Int32)) d_P_init_14 rfl ?_
  obtain ⟨h6, eh7, hf⟩ := nm_some hf
  refine z_newI (N := 4) (κ := 67) d_P_init_15 (by decide) rfl (by decide) (by decide) (by decide) ?_
  refine z_hp eh7 ?_
  obtain ⟨g8, hf⟩ := gd_some hf
  obtain ⟨h9, eh10, hf⟩ := nm_some hf
  refine z_putR d_P_init_17 (fl_K (isK_eq g8) fl_P_15_5) (pu_K (isK_eq g8) (fun q hq => by cases (Option.some.inj hq); exact Or.inr ⟨rfl, rfl⟩)) (fi_K (isK_eq g8) rfl) rfl ?_
  refine z_hp eh10 ?_
  refine z_aload_n 0 d_P_init_20 rfl rfl ?_
  refine z_iconst (v := (0 : Int32)) d_P_init_21 rfl ?_
  obtain ⟨h11, eh12, hf⟩ := nm_some hf
  refine z_putI d_P_init_22 (fl_K (isK_eq (isK_wR eh10 g8)) fl_P_18_5) (pu_K (isK_eq (isK_wR eh10 g8)) (fun q hq => by cases (Option.some.inj hq); exact Or.inl rfl)) (fi_K (isK_eq (isK_wR eh10 g8)) rfl) rfl ?_
  refine z_hp eh12 ?_
  refine z_aload_n 0 d_P_init_25 rfl rfl ?_
  refine z_iconst (v := (0 : Int32)) d_P_init_26 rfl ?_
  obtain ⟨h13, eh14, hf⟩ := nm_some hf
  refine z_putI d_P_init_27 (fl_K (isK_eq (isK_wI eh12 (isK_wR eh10 g8))) fl_P_22_5) (pu_K (isK_eq (isK_wI eh12 (isK_wR eh10 g8))) (fun q hq => by cases (Option.some.inj hq); exact Or.inl rfl)) (fi_K (isK_eq (isK_wI eh12 (isK_wR eh10 g8))) rfl) rfl ?_
  refine z_hp eh14 ?_
  cases (Option.some.inj hf)
  exact z_ret d_P_init_30 rfl
theorem c_P_init {l : Launch} {C : Ct} {mi : Nat} {a0 : Nat} {h h' : Hp} (hf : f_P_init a0 h = some h') : Mt l C mi m_P_init 1 [vr (some a0)] h none h' := mt_V rfl rfl (by decide) (Nat.le_of_ble_eq_true rfl) (zf_P_init hf)
-- VersionMaps$Version.<init>(ILVersionMaps$Meta;)V
def m_V_init : Mi := (⟨"VersionMaps$Version", "<init>", "(ILVersionMaps$Meta;)V"⟩, prog_9_method_1_code, 3, (Option.none : Option Jvm.ClassFile.FieldType), .return_)
theorem cw_V_init : cw_ok m_V_init 2 := ⟨by decide +kernel, by decide +kernel, by decide +kernel, by decide +kernel⟩
theorem im_V_init : Cond.instanceMethod m_V_init.1 ∈ lw_w := by decide +kernel
theorem d_V_init_0 : decode prog_9_method_1_code 0 = .ok (.aload_n 0, 1) := by decide +kernel
theorem d_V_init_1 : decode prog_9_method_1_code 1 = .ok (.invokespecial 1, 3) := by decide +kernel
theorem d_V_init_4 : decode prog_9_method_1_code 4 = .ok (.aload_n 0, 1) := by decide +kernel
theorem d_V_init_5 : decode prog_9_method_1_code 5 = .ok (.iconst 0, 1) := by decide +kernel
theorem d_V_init_6 : decode prog_9_method_1_code 6 = .ok (.putfield 7, 3) := by decide +kernel
theorem d_V_init_9 : decode prog_9_method_1_code 9 = .ok (.aload_n 0, 1) := by decide +kernel
theorem d_V_init_10 : decode prog_9_method_1_code 10 = .ok (.iload_n 1, 1) := by decide +kernel
theorem d_V_init_11 : decode prog_9_method_1_code 11 = .ok (.putfield 13, 3) := by decide +kernel
theorem d_V_init_14 : decode prog_9_method_1_code 14 = .ok (.aload_n 0, 1) := by decide +kernel
theorem d_V_init_15 : decode prog_9_method_1_code 15 = .ok (.aload_n 2, 1) := by decide +kernel
theorem d_V_init_16 : decode prog_9_method_1_code 16 = .ok (.putfield 16, 3) := by decide +kernel
theorem d_V_init_19 : decode prog_9_method_1_code 19 = .ok (.return_, 1) := by decide +kernel
def f_V_init (a0 : Nat) (p1 : Int32) (p2 : Option Nat) (h : Hp) : Option Hp :=
  gd (isK h a0 7) (nm (wI h a0 2 (0 : Int32)) fun h2 => nm (wI h2 a0 0 p1) fun h4 => nm (wR h4 a0 1 p2) fun h6 => some h6)
set_option maxRecDepth 100000 in
set_option maxHeartbeats 4000000 in
theorem zf_V_init {l : Launch} {C : Ct} {mi : Nat} {a0 : Nat} {p1 : Int32} {p2 : Option Nat} {h h' : Hp} (hf : f_V_init a0 p1 p2 h = some h') : Z l C mi m_V_init 1 0 [(0, vr (some a0)), (1, vi p1), (2, vr p2)] [] h none h' := by
  unfold f_V_init at hf
  refine z_aload_n 0 d_V_init_0 rfl rfl ?_
  refine z_oinit d_V_init_1 (by decide +kernel) rfl (by decide) (Nat.le_of_ble_eq_true rfl) ?_
  refine z_aload_n 0 d_V_init_4 rfl rfl ?_
  refine z_iconst (v := (0 : Int32)) d_V_init_5 rfl ?_
  obtain ⟨g1, hf⟩ := gd_some hf
  obtain ⟨h2, eh3, hf⟩ := nm_some hf
  refine z_putI d_V_init_6 (fl_K (isK_eq g1) fl_V_7_7) (pu_K (isK_eq g1) (fun q hq => by cases (Option.some.inj hq); exact Or.inl rfl)) (fi_K (isK_eq g1) rfl) rfl ?_
  refine z_hp eh3 ?_
  refine z_aload_n 0 d_V_init_9 rfl rfl ?_
  refine z_iload_n 1 d_V_init_10 rfl rfl ?_
  obtain ⟨h4, eh5, hf⟩ := nm_some hf
  refine z_putI d_V_init_11 (fl_K (isK_eq (isK_wI eh3 g1)) fl_V_13_7) (pu_K (isK_eq (isK_wI eh3 g1)) (fun q hq => by cases (Option.some.inj hq); exact Or.inr ⟨rfl, rfl⟩)) (fi_K (isK_eq (isK_wI eh3 g1)) rfl) rfl ?_
  refine z_hp eh5 ?_
  refine z_aload_n 0 d_V_init_14 rfl rfl ?_
  refine z_aload_n 2 d_V_init_15 rfl rfl ?_
  obtain ⟨h6, eh7, hf⟩ := nm_some hf
  refine z_putR d_V_init_16 (fl_K (isK_eq (isK_wI eh5 (isK_wI eh3 g1))) fl_V_16_7) (pu_K (isK_eq (isK_wI eh5 (isK_wI eh3 g1))) (fun q hq => by cases (Option.some.inj hq); exact Or.inl rfl)) (fi_K (isK_eq (isK_wI eh5 (isK_wI eh3 g1))) rfl) rfl ?_
  refine z_hp eh7 ?_
  cases (Option.some.inj hf)
  exact z_ret d_V_init_19 rfl
theorem c_V_init {l : Launch} {C : Ct} {mi : Nat} {a0 : Nat} {p1 : Int32} {p2 : Option Nat} {h h' : Hp} (hf : f_V_init a0 p1 p2 h = some h') : Mt l C mi m_V_init 1 [vr (some a0), vi p1, vr p2] h none h' := mt_V rfl rfl (by decide) (Nat.le_of_ble_eq_true rfl) (zf_V_init hf)
-- VersionMaps$Present.has(II)Z
def m_P_has : Mi := (⟨"VersionMaps$Present", "has", "(II)Z"⟩, prog_7_method_2_code, 3, (Option.some Jvm.ClassFile.FieldType.boolean), .ireturn)
theorem cw_P_has : cw_ok m_P_has 2 := ⟨by decide +kernel, by decide +kernel, by decide +kernel, by decide +kernel⟩
theorem im_P_has : Cond.instanceMethod m_P_has.1 ∈ lw_w := by decide +kernel
theorem se_P_has : Cond.selects "VersionMaps$Present" m_P_has.1 m_P_has.1 ∈ lw_w := by decide +kernel
theorem d_P_has_0 : decode prog_7_method_2_code 0 = .ok (.aload_n 0, 1) := by decide +kernel
theorem d_P_has_1 : decode prog_7_method_2_code 1 = .ok (.getfield 15, 3) := by decide +kernel
theorem d_P_has_4 : decode prog_7_method_2_code 4 = .ok (.iload_n 1, 1) := by decide +kernel
theorem d_P_has_5 : decode prog_7_method_2_code 5 = .ok (.iaload, 1) := by decide +kernel
theorem d_P_has_6 : decode prog_7_method_2_code 6 = .ok (.iload_n 2, 1) := by decide +kernel
theorem d_P_has_7 : decode prog_7_method_2_code 7 = .ok (.iushr, 1) := by decide +kernel
theorem d_P_has_8 : decode prog_7_method_2_code 8 = .ok (.iconst 1, 1) := by decide +kernel
theorem d_P_has_9 : decode prog_7_method_2_code 9 = .ok (.iand, 1) := by decide +kernel
theorem d_P_has_10 : decode prog_7_method_2_code 10 = .ok (.iconst 1, 1) := by decide +kernel
theorem d_P_has_11 : decode prog_7_method_2_code 11 = .ok (.if_icmp .ne 7, 3) := by decide +kernel
theorem d_P_has_14 : decode prog_7_method_2_code 14 = .ok (.iconst 1, 1) := by decide +kernel
theorem d_P_has_15 : decode prog_7_method_2_code 15 = .ok (.goto 4, 3) := by decide +kernel
theorem d_P_has_18 : decode prog_7_method_2_code 18 = .ok (.iconst 0, 1) := by decide +kernel
theorem d_P_has_19 : decode prog_7_method_2_code 19 = .ok (.ireturn, 1) := by decide +kernel
def f0_P_has (a0 : Nat) (p1 : Int32) (p2 : Int32) (h : Hp) : Option (Int32 × Hp) :=
  gd (isK h a0 5) (dr (hpR h a0 1) fun a2 => gd (isA h a2 0) (gd (inb p1 (hpL h a2)) (if ((ushr (hpI h a2 p1.toNatClampNeg) p2) &&& (1 : Int32)) = (1 : Int32) then (some ((1 : Int32), h)) else (some ((0 : Int32), h)))))
def f_P_has (a0 : Nat) (p1 : Int32) (p2 : Int32) (h : Hp) : Option (Int32 × Hp) := zbw (f0_P_has a0 p1 p2 h)
set_option maxRecDepth 100000 in
set_option maxHeartbeats 4000000 in
theorem zf_P_has {l : Launch} {C : Ct} {mi : Nat} {a0 : Nat} {p1 : Int32} {p2 : Int32} {h h' : Hp} {v : Int32} (hf : f0_P_has a0 p1 p2 h = some (v, h')) : Z l C mi m_P_has 0 0 [(0, vr (some a0)), (1, vi p1), (2, vi p2)] [] h (some (vi v)) h' := by
  unfold f0_P_has at hf
  refine z_aload_n 0 d_P_has_0 rfl rfl ?_
  obtain ⟨g1, hf⟩ := gd_some hf
  refine z_getR d_P_has_1 (fl_K (isK_eq g1) fl_P_15_5) (fi_K (isK_eq g1) rfl) rfl ?_
  refine z_iload_n 1 d_P_has_4 rfl rfl ?_
  obtain ⟨a2, e3, hf⟩ := dr_some hf
  obtain ⟨g4, hf⟩ := gd_some hf
  obtain ⟨g5, hf⟩ := gd_some hf
  refine z_iald d_P_has_5 e3 (isA_eq g4).1 (isA_eq g4).2 (inb_vp g5) ?_
  refine z_iload_n 2 d_P_has_6 rfl rfl ?_
  refine z_iushr d_P_has_7 ?_
  refine z_iconst (v := (1 : Int32)) d_P_has_8 rfl ?_
  refine z_iand d_P_has_9 ?_
  refine z_iconst (v := (1 : Int32)) d_P_has_10 rfl ?_
  refine z_icmp_ne (tgt := 18) d_P_has_11 (by decide) (fun c6 => ?_) (fun c6 => ?_)
  · rw [if_neg c6] at hf
    refine z_iconst (v := (0 : Int32)) d_P_has_18 rfl ?_
    obtain ⟨rfl, rfl⟩ := Prod.mk.inj (Option.some.inj hf)
    exact z_ret d_P_has_19 rfl
  · rw [if_pos c6] at hf
    refine z_iconst (v := (1 : Int32)) d_P_has_14 rfl ?_
    refine z_goto (tgt := 19) d_P_has_15 (by decide) ?_
    obtain ⟨rfl, rfl⟩ := Prod.mk.inj (Option.some.inj hf)
    exact z_ret d_P_has_19 rfl
theorem c_P_has {l : Launch} {C : Ct} {mi : Nat} {a0 : Nat} {p1 : Int32} {p2 : Int32} {h h' : Hp} {v : Int32} (hf : f_P_has a0 p1 p2 h = some (v, h')) : Mt l C mi m_P_has 0 [vr (some a0), vi p1, vi p2] h (some (vi v)) h' := mt_I (ty := .boolean) rfl rfl (zb_eq (zbw_some hf).1) (by decide) (Nat.le_of_ble_eq_true rfl) (zf_P_has (zbw_some hf).2)
-- VersionMaps$Present.touchLeaf(II)V
def m_P_touchLeaf : Mi := (⟨"VersionMaps$Present", "touchLeaf", "(II)V"⟩, prog_7_method_15_code, 3, (Option.none : Option Jvm.ClassFile.FieldType), .return_)
theorem cw_P_touchLeaf : cw_ok m_P_touchLeaf 2 := ⟨by decide +kernel, by decide +kernel, by decide +kernel, by decide +kernel⟩
theorem im_P_touchLeaf : Cond.instanceMethod m_P_touchLeaf.1 ∈ lw_w := by decide +kernel
theorem se_P_touchLeaf : Cond.selects "VersionMaps$Present" m_P_touchLeaf.1 m_P_touchLeaf.1 ∈ lw_w := by decide +kernel
theorem d_P_touchLeaf_0 : decode prog_7_method_15_code 0 = .ok (.aload_n 0, 1) := by decide +kernel
theorem d_P_touchLeaf_1 : decode prog_7_method_15_code 1 = .ok (.dup, 1) := by decide +kernel
theorem d_P_touchLeaf_2 : decode prog_7_method_15_code 2 = .ok (.getfield 18, 3) := by decide +kernel
theorem d_P_touchLeaf_5 : decode prog_7_method_15_code 5 = .ok (.iconst 1, 1) := by decide +kernel
theorem d_P_touchLeaf_6 : decode prog_7_method_15_code 6 = .ok (.iconst 4, 1) := by decide +kernel
theorem d_P_touchLeaf_7 : decode prog_7_method_15_code 7 = .ok (.iload_n 1, 1) := by decide +kernel
theorem d_P_touchLeaf_8 : decode prog_7_method_15_code 8 = .ok (.imul, 1) := by decide +kernel
theorem d_P_touchLeaf_9 : decode prog_7_method_15_code 9 = .ok (.iload_n 2, 1) := by decide +kernel
theorem d_P_touchLeaf_10 : decode prog_7_method_15_code 10 = .ok (.iadd, 1) := by decide +kernel
theorem d_P_touchLeaf_11 : decode prog_7_method_15_code 11 = .ok (.ishl, 1) := by decide +kernel
theorem d_P_touchLeaf_12 : decode prog_7_method_15_code 12 = .ok (.ior, 1) := by decide +kernel
theorem d_P_touchLeaf_13 : decode prog_7_method_15_code 13 = .ok (.putfield 18, 3) := by decide +kernel
theorem d_P_touchLeaf_16 : decode prog_7_method_15_code 16 = .ok (.return_, 1) := by decide +kernel
def f_P_touchLeaf (a0 : Nat) (p1 : Int32) (p2 : Int32) (h : Hp) : Option Hp :=
  gd (isK h a0 5) (nm (wI h a0 2 ((hpI h a0 2) ||| ((1 : Int32) <<< ((((4 : Int32) * p1) + p2) &&& 31)))) fun h2 => some h2)
set_option maxRecDepth 100000 in
set_option maxHeartbeats 4000000 in
theorem zf_P_touchLeaf {l : Launch} {C : Ct} {mi : Nat} {a0 : Nat} {p1 : Int32} {p2 : Int32} {h h' : Hp} (hf : f_P_touchLeaf a0 p1 p2 h = some h') : Z l C mi m_P_touchLeaf 0 0 [(0, vr (some a0)), (1, vi p1), (2, vi p2)] [] h none h' := by
  unfold f_P_touchLeaf at hf
  refine z_aload_n 0 d_P_touchLeaf_0 rfl rfl ?_
  refine z_dup d_P_touchLeaf_1 rfl ?_
  obtain ⟨g1, hf⟩ := gd_some hf
  refine z_getI d_P_touchLeaf_2 (fl_K (isK_eq g1) fl_P_18_5) (fi_K (isK_eq g1) rfl) rfl ?_
  refine z_iconst (v := (1 : Int32)) d_P_touchLeaf_5 rfl ?_
  refine z_iconst (v := (4 : Int32)) d_P_touchLeaf_6 rfl ?_
  refine z_iload_n 1 d_P_touchLeaf_7 rfl rfl ?_
  refine z_imul d_P_touchLeaf_8 ?_
  refine z_iload_n 2 d_P_touchLeaf_9 rfl rfl ?_
  refine z_iadd d_P_touchLeaf_10 ?_
  refine z_ishl d_P_touchLeaf_11 ?_
  refine z_ior d_P_touchLeaf_12 ?_
  obtain ⟨h2, eh3, hf⟩ := nm_some hf
  refine z_putI d_P_touchLeaf_13 (fl_K (isK_eq g1) fl_P_18_5) (pu_K (isK_eq g1) (fun q hq => by cases (Option.some.inj hq); exact Or.inl rfl)) (fi_K (isK_eq g1) rfl) rfl ?_
  refine z_hp eh3 ?_
  cases (Option.some.inj hf)
  exact z_ret d_P_touchLeaf_16 rfl
theorem c_P_touchLeaf {l : Launch} {C : Ct} {mi : Nat} {a0 : Nat} {p1 : Int32} {p2 : Int32} {h h' : Hp} (hf : f_P_touchLeaf a0 p1 p2 h = some h') : Mt l C mi m_P_touchLeaf 0 [vr (some a0), vi p1, vi p2] h none h' := mt_V rfl rfl (by decide) (Nat.le_of_ble_eq_true rfl) (zf_P_touchLeaf hf)
-- VersionMaps$Present.assign(III)V
def m_P_assign : Mi := (⟨"VersionMaps$Present", "assign", "(III)V"⟩, prog_7_method_4_code, 4, (Option.none : Option Jvm.ClassFile.FieldType), .return_)
theorem cw_P_assign : cw_ok m_P_assign 3 := ⟨by decide +kernel, by decide +kernel, by decide +kernel, by decide +kernel⟩
theorem im_P_assign : Cond.instanceMethod m_P_assign.1 ∈ lw_w := by decide +kernel
theorem se_P_assign : Cond.selects "VersionMaps$Present" m_P_assign.1 m_P_assign.1 ∈ lw_w := by decide +kernel
theorem d_P_assign_0 : decode prog_7_method_4_code 0 = .ok (.aload_n 0, 1) := by decide +kernel
theorem d_P_assign_1 : decode prog_7_method_4_code 1 = .ok (.getfield 9, 3) := by decide +kernel
theorem d_P_assign_4 : decode prog_7_method_4_code 4 = .ok (.bipush 32, 2) := by decide +kernel
theorem d_P_assign_6 : decode prog_7_method_4_code 6 = .ok (.iload_n 1, 1) := by decide +kernel
theorem d_P_assign_7 : decode prog_7_method_4_code 7 = .ok (.imul, 1) := by decide +kernel
theorem d_P_assign_8 : decode prog_7_method_4_code 8 = .ok (.iload_n 2, 1) := by decide +kernel
theorem d_P_assign_9 : decode prog_7_method_4_code 9 = .ok (.iadd, 1) := by decide +kernel
theorem d_P_assign_10 : decode prog_7_method_4_code 10 = .ok (.iload_n 3, 1) := by decide +kernel
theorem d_P_assign_11 : decode prog_7_method_4_code 11 = .ok (.iastore, 1) := by decide +kernel
theorem d_P_assign_12 : decode prog_7_method_4_code 12 = .ok (.aload_n 0, 1) := by decide +kernel
theorem d_P_assign_13 : decode prog_7_method_4_code 13 = .ok (.getfield 15, 3) := by decide +kernel
theorem d_P_assign_16 : decode prog_7_method_4_code 16 = .ok (.iload_n 1, 1) := by decide +kernel
theorem d_P_assign_17 : decode prog_7_method_4_code 17 = .ok (.dup2, 1) := by decide +kernel
theorem d_P_assign_18 : decode prog_7_method_4_code 18 = .ok (.iaload, 1) := by decide +kernel
theorem d_P_assign_19 : decode prog_7_method_4_code 19 = .ok (.iconst 1, 1) := by decide +kernel
theorem d_P_assign_20 : decode prog_7_method_4_code 20 = .ok (.iload_n 2, 1) := by decide +kernel
theorem d_P_assign_21 : decode prog_7_method_4_code 21 = .ok (.ishl, 1) := by decide +kernel
theorem d_P_assign_22 : decode prog_7_method_4_code 22 = .ok (.ior, 1) := by decide +kernel
theorem d_P_assign_23 : decode prog_7_method_4_code 23 = .ok (.iastore, 1) := by decide +kernel
theorem d_P_assign_24 : decode prog_7_method_4_code 24 = .ok (.aload_n 0, 1) := by decide +kernel
theorem d_P_assign_25 : decode prog_7_method_4_code 25 = .ok (.iload_n 1, 1) := by decide +kernel
theorem d_P_assign_26 : decode prog_7_method_4_code 26 = .ok (.iload_n 2, 1) := by decide +kernel
theorem d_P_assign_27 : decode prog_7_method_4_code 27 = .ok (.bipush 8, 2) := by decide +kernel
theorem d_P_assign_29 : decode prog_7_method_4_code 29 = .ok (.idiv, 1) := by decide +kernel
theorem d_P_assign_30 : decode prog_7_method_4_code 30 = .ok (.invokevirtual 25, 3) := by decide +kernel
theorem d_P_assign_33 : decode prog_7_method_4_code 33 = .ok (.return_, 1) := by decide +kernel
def f_P_assign (a0 : Nat) (p1 : Int32) (p2 : Int32) (p3 : Int32) (h : Hp) : Option Hp :=
  gd (isK h a0 5) (dr (hpR h a0 0) fun a2 => gd (isO h a2 0) (gd (inb (((32 : Int32) * p1) + p2) (hpL h a2)) (nm (wI h a2 (((32 : Int32) * p1) + p2).toNatClampNeg p3) fun h6 => dr (hpR h6 a0 1) fun a8 => gd (isA h6 a8 0) (gd (inb p1 (hpL h6 a8)) (gd (isO h6 a8 0) (nm (wI h6 a8 p1.toNatClampNeg ((hpI h6 a8 p1.toNatClampNeg) ||| ((1 : Int32) <<< (p2 &&& 31)))) fun h13 => cv (f_P_touchLeaf a0 p1 (p2 / (8 : Int32)) h13) fun h15 => some h15))))))
set_option maxRecDepth 100000 in
set_option maxHeartbeats 4000000 in
theorem zf_P_assign {l : Launch} {C : Ct} {mi : Nat} {a0 : Nat} {p1 : Int32} {p2 : Int32} {p3 : Int32} {h h' : Hp} (hf : f_P_assign a0 p1 p2 p3 h = some h') : Z l C mi m_P_assign 1 0 [(0, vr (some a0)), (1, vi p1), (2, vi p2), (3, vi p3)] [] h none h' := by
  unfold f_P_assign at hf
  refine z_aload_n 0 d_P_assign_0 rfl rfl ?_
  obtain ⟨g1, hf⟩ := gd_some hf
  refine z_getR d_P_assign_1 (fl_K (isK_eq g1) fl_P_9_5) (fi_K (isK_eq g1) rfl) rfl ?_
  refine z_bipush (v := (32 : Int32)) d_P_assign_4 (by decide) ?_
  refine z_iload_n 1 d_P_assign_6 rfl rfl ?_
  refine z_imul d_P_assign_7 ?_
  refine z_iload_n 2 d_P_assign_8 rfl rfl ?_
  refine z_iadd d_P_assign_9 ?_
  refine z_iload_n 3 d_P_assign_10 rfl rfl ?_
  obtain ⟨a2, e3, hf⟩ := dr_some hf
  obtain ⟨g4, hf⟩ := gd_some hf
  obtain ⟨g5, hf⟩ := gd_some hf
  obtain ⟨h6, eh7, hf⟩ := nm_some hf
  refine z_iast d_P_assign_11 e3 (isO_eq g4).1 (isO_eq g4).2 (inb_vp g5) ?_
  refine z_hp eh7 ?_
  refine z_aload_n 0 d_P_assign_12 rfl rfl ?_
  refine z_getR d_P_assign_13 (fl_K (isK_eq (isK_wI eh7 g1)) fl_P_15_5) (fi_K (isK_eq (isK_wI eh7 g1)) rfl) rfl ?_
  refine z_iload_n 1 d_P_assign_16 rfl rfl ?_
  refine z_dup2 d_P_assign_17 rfl rfl ?_
  obtain ⟨a8, e9, hf⟩ := dr_some hf
  obtain ⟨g10, hf⟩ := gd_some hf
  obtain ⟨g11, hf⟩ := gd_some hf
  refine z_iald d_P_assign_18 e9 (isA_eq g10).1 (isA_eq g10).2 (inb_vp g11) ?_
  refine z_iconst (v := (1 : Int32)) d_P_assign_19 rfl ?_
  refine z_iload_n 2 d_P_assign_20 rfl rfl ?_
  refine z_ishl d_P_assign_21 ?_
  refine z_ior d_P_assign_22 ?_
  obtain ⟨g12, hf⟩ := gd_some hf
  obtain ⟨h13, eh14, hf⟩ := nm_some hf
  refine z_iast d_P_assign_23 e9 (isO_eq g12).1 (isO_eq g12).2 (inb_vp g11) ?_
  refine z_hp eh14 ?_
  refine z_aload_n 0 d_P_assign_24 rfl rfl ?_
  refine z_iload_n 1 d_P_assign_25 rfl rfl ?_
  refine z_iload_n 2 d_P_assign_26 rfl rfl ?_
  refine z_bipush (v := (8 : Int32)) d_P_assign_27 (by decide) ?_
  refine z_idiv d_P_assign_29 (by decide) ?_
  obtain ⟨h15, ec16, hf⟩ := cv_some hf
  refine z_callVx rfl (c_P_touchLeaf ec16) d_P_assign_30 cw_P_touchLeaf lk_P_25 im_P_touchLeaf se_P_touchLeaf (kc_K (isK_eq (isK_wI eh14 (isK_wI eh7 g1))) kc_5) ⟨by decide, by decide⟩ (Nat.le_of_ble_eq_true rfl) rfl ?_
  cases (Option.some.inj hf)
  exact z_ret d_P_assign_33 rfl
theorem c_P_assign {l : Launch} {C : Ct} {mi : Nat} {a0 : Nat} {p1 : Int32} {p2 : Int32} {p3 : Int32} {h h' : Hp} (hf : f_P_assign a0 p1 p2 p3 h = some h') : Mt l C mi m_P_assign 1 [vr (some a0), vi p1, vi p2, vi p3] h none h' := mt_V rfl rfl (by decide) (Nat.le_of_ble_eq_true rfl) (zf_P_assign hf)
-- VersionMaps$Present.erase(II)V
def m_P_erase : Mi := (⟨"VersionMaps$Present", "erase", "(II)V"⟩, prog_7_method_5_code, 3, (Option.none : Option Jvm.ClassFile.FieldType), .return_)
theorem cw_P_erase : cw_ok m_P_erase 2 := ⟨by decide +kernel, by decide +kernel, by decide +kernel, by decide +kernel⟩
theorem im_P_erase : Cond.instanceMethod m_P_erase.1 ∈ lw_w := by decide +kernel
theorem se_P_erase : Cond.selects "VersionMaps$Present" m_P_erase.1 m_P_erase.1 ∈ lw_w := by decide +kernel
theorem d_P_erase_0 : decode prog_7_method_5_code 0 = .ok (.aload_n 0, 1) := by decide +kernel
theorem d_P_erase_1 : decode prog_7_method_5_code 1 = .ok (.getfield 15, 3) := by decide +kernel
theorem d_P_erase_4 : decode prog_7_method_5_code 4 = .ok (.iload_n 1, 1) := by decide +kernel
theorem d_P_erase_5 : decode prog_7_method_5_code 5 = .ok (.dup2, 1) := by decide +kernel
theorem d_P_erase_6 : decode prog_7_method_5_code 6 = .ok (.iaload, 1) := by decide +kernel
theorem d_P_erase_7 : decode prog_7_method_5_code 7 = .ok (.iconst 1, 1) := by decide +kernel
theorem d_P_erase_8 : decode prog_7_method_5_code 8 = .ok (.iload_n 2, 1) := by decide +kernel
theorem d_P_erase_9 : decode prog_7_method_5_code 9 = .ok (.ishl, 1) := by decide +kernel
theorem d_P_erase_10 : decode prog_7_method_5_code 10 = .ok (.iconst (-1), 1) := by decide +kernel
theorem d_P_erase_11 : decode prog_7_method_5_code 11 = .ok (.ixor, 1) := by decide +kernel
theorem d_P_erase_12 : decode prog_7_method_5_code 12 = .ok (.iand, 1) := by decide +kernel
theorem d_P_erase_13 : decode prog_7_method_5_code 13 = .ok (.iastore, 1) := by decide +kernel
theorem d_P_erase_14 : decode prog_7_method_5_code 14 = .ok (.aload_n 0, 1) := by decide +kernel
theorem d_P_erase_15 : decode prog_7_method_5_code 15 = .ok (.iload_n 1, 1) := by decide +kernel
theorem d_P_erase_16 : decode prog_7_method_5_code 16 = .ok (.iload_n 2, 1) := by decide +kernel
theorem d_P_erase_17 : decode prog_7_method_5_code 17 = .ok (.bipush 8, 2) := by decide +kernel
theorem d_P_erase_19 : decode prog_7_method_5_code 19 = .ok (.idiv, 1) := by decide +kernel
theorem d_P_erase_20 : decode prog_7_method_5_code 20 = .ok (.invokevirtual 25, 3) := by decide +kernel
theorem d_P_erase_23 : decode prog_7_method_5_code 23 = .ok (.return_, 1) := by decide +kernel
def f_P_erase (a0 : Nat) (p1 : Int32) (p2 : Int32) (h : Hp) : Option Hp :=
  gd (isK h a0 5) (dr (hpR h a0 1) fun a2 => gd (isA h a2 0) (gd (inb p1 (hpL h a2)) (gd (isO h a2 0) (nm (wI h a2 p1.toNatClampNeg ((hpI h a2 p1.toNatClampNeg) &&& (((1 : Int32) <<< (p2 &&& 31)) ^^^ (-1 : Int32)))) fun h7 => cv (f_P_touchLeaf a0 p1 (p2 / (8 : Int32)) h7) fun h9 => some h9))))
set_option maxRecDepth 100000 in
set_option maxHeartbeats 4000000 in
theorem zf_P_erase {l : Launch} {C : Ct} {mi : Nat} {a0 : Nat} {p1 : Int32} {p2 : Int32} {h h' : Hp} (hf : f_P_erase a0 p1 p2 h = some h') : Z l C mi m_P_erase 1 0 [(0, vr (some a0)), (1, vi p1), (2, vi p2)] [] h none h' := by
  unfold f_P_erase at hf
  refine z_aload_n 0 d_P_erase_0 rfl rfl ?_
  obtain ⟨g1, hf⟩ := gd_some hf
  refine z_getR d_P_erase_1 (fl_K (isK_eq g1) fl_P_15_5) (fi_K (isK_eq g1) rfl) rfl ?_
  refine z_iload_n 1 d_P_erase_4 rfl rfl ?_
  refine z_dup2 d_P_erase_5 rfl rfl ?_
  obtain ⟨a2, e3, hf⟩ := dr_some hf
  obtain ⟨g4, hf⟩ := gd_some hf
  obtain ⟨g5, hf⟩ := gd_some hf
  refine z_iald d_P_erase_6 e3 (isA_eq g4).1 (isA_eq g4).2 (inb_vp g5) ?_
  refine z_iconst (v := (1 : Int32)) d_P_erase_7 rfl ?_
  refine z_iload_n 2 d_P_erase_8 rfl rfl ?_
  refine z_ishl d_P_erase_9 ?_
  refine z_iconst (v := (-1 : Int32)) d_P_erase_10 rfl ?_
  refine z_ixor d_P_erase_11 ?_
  refine z_iand d_P_erase_12 ?_
  obtain ⟨g6, hf⟩ := gd_some hf
  obtain ⟨h7, eh8, hf⟩ := nm_some hf
  refine z_iast d_P_erase_13 e3 (isO_eq g6).1 (isO_eq g6).2 (inb_vp g5) ?_
  refine z_hp eh8 ?_
  refine z_aload_n 0 d_P_erase_14 rfl rfl ?_
  refine z_iload_n 1 d_P_erase_15 rfl rfl ?_
  refine z_iload_n 2 d_P_erase_16 rfl rfl ?_
  refine z_bipush (v := (8 : Int32)) d_P_erase_17 (by decide) ?_
  refine z_idiv d_P_erase_19 (by decide) ?_
  obtain ⟨h9, ec10, hf⟩ := cv_some hf
  refine z_callVx rfl (c_P_touchLeaf ec10) d_P_erase_20 cw_P_touchLeaf lk_P_25 im_P_touchLeaf se_P_touchLeaf (kc_K (isK_eq (isK_wI eh8 g1)) kc_5) ⟨by decide, by decide⟩ (Nat.le_of_ble_eq_true rfl) rfl ?_
  cases (Option.some.inj hf)
  exact z_ret d_P_erase_23 rfl
theorem c_P_erase {l : Launch} {C : Ct} {mi : Nat} {a0 : Nat} {p1 : Int32} {p2 : Int32} {h h' : Hp} (hf : f_P_erase a0 p1 p2 h = some h') : Mt l C mi m_P_erase 1 [vr (some a0), vi p1, vi p2] h none h' := mt_V rfl rfl (by decide) (Nat.le_of_ble_eq_true rfl) (zf_P_erase hf)
-- VersionMaps$Present.valueOf(II)I
def m_P_valueOf : Mi := (⟨"VersionMaps$Present", "valueOf", "(II)I"⟩, prog_7_method_3_code, 3, (Option.some Jvm.ClassFile.FieldType.int), .ireturn)
theorem cw_P_valueOf : cw_ok m_P_valueOf 2 := ⟨by decide +kernel, by decide +kernel, by decide +kernel, by decide +kernel⟩
theorem im_P_valueOf : Cond.instanceMethod m_P_valueOf.1 ∈ lw_w := by decide +kernel
theorem se_P_valueOf : Cond.selects "VersionMaps$Present" m_P_valueOf.1 m_P_valueOf.1 ∈ lw_w := by decide +kernel
theorem d_P_valueOf_0 : decode prog_7_method_3_code 0 = .ok (.aload_n 0, 1) := by decide +kernel
theorem d_P_valueOf_1 : decode prog_7_method_3_code 1 = .ok (.getfield 9, 3) := by decide +kernel
theorem d_P_valueOf_4 : decode prog_7_method_3_code 4 = .ok (.bipush 32, 2) := by decide +kernel
theorem d_P_valueOf_6 : decode prog_7_method_3_code 6 = .ok (.iload_n 1, 1) := by decide +kernel
theorem d_P_valueOf_7 : decode prog_7_method_3_code 7 = .ok (.imul, 1) := by decide +kernel
theorem d_P_valueOf_8 : decode prog_7_method_3_code 8 = .ok (.iload_n 2, 1) := by decide +kernel
theorem d_P_valueOf_9 : decode prog_7_method_3_code 9 = .ok (.iadd, 1) := by decide +kernel
theorem d_P_valueOf_10 : decode prog_7_method_3_code 10 = .ok (.iaload, 1) := by decide +kernel
theorem d_P_valueOf_11 : decode prog_7_method_3_code 11 = .ok (.ireturn, 1) := by decide +kernel
def f_P_valueOf (a0 : Nat) (p1 : Int32) (p2 : Int32) (h : Hp) : Option (Int32 × Hp) :=
  gd (isK h a0 5) (dr (hpR h a0 0) fun a2 => gd (isA h a2 0) (gd (inb (((32 : Int32) * p1) + p2) (hpL h a2)) (some ((hpI h a2 (((32 : Int32) * p1) + p2).toNatClampNeg), h))))
set_option maxRecDepth 100000 in
set_option maxHeartbeats 4000000 in
theorem zf_P_valueOf {l : Launch} {C : Ct} {mi : Nat} {a0 : Nat} {p1 : Int32} {p2 : Int32} {h h' : Hp} {v : Int32} (hf : f_P_valueOf a0 p1 p2 h = some (v, h')) : Z l C mi m_P_valueOf 0 0 [(0, vr (some a0)), (1, vi p1), (2, vi p2)] [] h (some (vi v)) h' := by
  unfold f_P_valueOf at hf
  refine z_aload_n 0 d_P_valueOf_0 rfl rfl ?_
  obtain ⟨g1, hf⟩ := gd_some hf
  refine z_getR d_P_valueOf_1 (fl_K (isK_eq g1) fl_P_9_5) (fi_K (isK_eq g1) rfl) rfl ?_
  refine z_bipush (v := (32 : Int32)) d_P_valueOf_4 (by decide) ?_
  refine z_iload_n 1 d_P_valueOf_6 rfl rfl ?_
  refine z_imul d_P_valueOf_7 ?_
  refine z_iload_n 2 d_P_valueOf_8 rfl rfl ?_
  refine z_iadd d_P_valueOf_9 ?_
  obtain ⟨a2, e3, hf⟩ := dr_some hf
  obtain ⟨g4, hf⟩ := gd_some hf
  obtain ⟨g5, hf⟩ := gd_some hf
  refine z_iald d_P_valueOf_10 e3 (isA_eq g4).1 (isA_eq g4).2 (inb_vp g5) ?_
  obtain ⟨rfl, rfl⟩ := Prod.mk.inj (Option.some.inj hf)
  exact z_ret d_P_valueOf_11 rfl
theorem c_P_valueOf {l : Launch} {C : Ct} {mi : Nat} {a0 : Nat} {p1 : Int32} {p2 : Int32} {h h' : Hp} {v : Int32} (hf : f_P_valueOf a0 p1 p2 h = some (v, h')) : Mt l C mi m_P_valueOf 0 [vr (some a0), vi p1, vi p2] h (some (vi v)) h' := mt_I (ty := .int) rfl rfl rfl (by decide) (Nat.le_of_ble_eq_true rfl) (zf_P_valueOf hf)
-- VersionMaps$Meta.leafOf(II)LVersionMaps$Leaf;
def m_E_leafOf : Mi := (⟨"VersionMaps$Meta", "leafOf", "(II)LVersionMaps$Leaf;"⟩, prog_5_method_2_code, 3, (Option.some (Jvm.ClassFile.FieldType.object "VersionMaps$Leaf")), .areturn)
theorem cw_E_leafOf : cw_ok m_E_leafOf 2 := ⟨by decide +kernel, by decide +kernel, by decide +kernel, by decide +kernel⟩
theorem im_E_leafOf : Cond.instanceMethod m_E_leafOf.1 ∈ lw_w := by decide +kernel
theorem se_E_leafOf : Cond.selects "VersionMaps$Meta" m_E_leafOf.1 m_E_leafOf.1 ∈ lw_w := by decide +kernel
theorem d_E_leafOf_0 : decode prog_5_method_2_code 0 = .ok (.aload_n 0, 1) := by decide +kernel
theorem d_E_leafOf_1 : decode prog_5_method_2_code 1 = .ok (.getfield 11, 3) := by decide +kernel
theorem d_E_leafOf_4 : decode prog_5_method_2_code 4 = .ok (.iload_n 1, 1) := by decide +kernel
theorem d_E_leafOf_5 : decode prog_5_method_2_code 5 = .ok (.aaload, 1) := by decide +kernel
theorem d_E_leafOf_6 : decode prog_5_method_2_code 6 = .ok (.ifnonnull 7, 3) := by decide +kernel
theorem d_E_leafOf_9 : decode prog_5_method_2_code 9 = .ok (.aconst_null, 1) := by decide +kernel
theorem d_E_leafOf_10 : decode prog_5_method_2_code 10 = .ok (.goto 14, 3) := by decide +kernel
theorem d_E_leafOf_13 : decode prog_5_method_2_code 13 = .ok (.aload_n 0, 1) := by decide +kernel
theorem d_E_leafOf_14 : decode prog_5_method_2_code 14 = .ok (.getfield 11, 3) := by decide +kernel
theorem d_E_leafOf_17 : decode prog_5_method_2_code 17 = .ok (.iload_n 1, 1) := by decide +kernel
theorem d_E_leafOf_18 : decode prog_5_method_2_code 18 = .ok (.aaload, 1) := by decide +kernel
theorem d_E_leafOf_19 : decode prog_5_method_2_code 19 = .ok (.getfield 21, 3) := by decide +kernel
theorem d_E_leafOf_22 : decode prog_5_method_2_code 22 = .ok (.iload_n 2, 1) := by decide +kernel
theorem d_E_leafOf_23 : decode prog_5_method_2_code 23 = .ok (.aaload, 1) := by decide +kernel
theorem d_E_leafOf_24 : decode prog_5_method_2_code 24 = .ok (.areturn, 1) := by decide +kernel
def f_E_leafOf (a0 : Nat) (p1 : Int32) (p2 : Int32) (h : Hp) : Option (Option Nat × Hp) :=
  gd (isK h a0 4) (dr (hpR h a0 4) fun a2 => gd (isA h a2 4) (gd (inb p1 (hpL h a2)) (if (hpR h a2 p1.toNatClampNeg) = none then (some (none, h)) else (dr (hpR h a2 p1.toNatClampNeg) fun a7 => gd (isK h a7 6) (dr (hpR h a7 3) fun a10 => gd (isA h a10 5) (gd (inb p2 (hpL h a10)) (some ((hpR h a10 p2.toNatClampNeg), h))))))))
set_option maxRecDepth 100000 in
set_option maxHeartbeats 4000000 in
theorem zf_E_leafOf {l : Launch} {C : Ct} {mi : Nat} {a0 : Nat} {p1 : Int32} {p2 : Int32} {h h' : Hp} {v : Option Nat} (hf : f_E_leafOf a0 p1 p2 h = some (v, h')) : Z l C mi m_E_leafOf 0 0 [(0, vr (some a0)), (1, vi p1), (2, vi p2)] [] h (some (vr v)) h' := by
  unfold f_E_leafOf at hf
  refine z_aload_n 0 d_E_leafOf_0 rfl rfl ?_
  obtain ⟨g1, hf⟩ := gd_some hf
  refine z_getR d_E_leafOf_1 (fl_K (isK_eq g1) fl_E_11_4) (fi_K (isK_eq g1) rfl) rfl ?_
  refine z_iload_n 1 d_E_leafOf_4 rfl rfl ?_
  obtain ⟨a2, e3, hf⟩ := dr_some hf
  obtain ⟨g4, hf⟩ := gd_some hf
  obtain ⟨g5, hf⟩ := gd_some hf
  refine z_aald d_E_leafOf_5 e3 (isA_eq g4).1 (by rw [(isA_eq g4).2]; decide) (inb_vp g5) ?_
  refine z_ifnonnull (tgt := 13) d_E_leafOf_6 (by decide) (fun c6 => ?_) (fun c6 => ?_)
  · rw [if_neg c6] at hf
    refine z_aload_n 0 d_E_leafOf_13 rfl rfl ?_
    refine z_getR d_E_leafOf_14 (fl_K (isK_eq g1) fl_E_11_4) (fi_K (isK_eq g1) rfl) rfl ?_
    refine z_iload_n 1 d_E_leafOf_17 rfl rfl ?_
    refine z_aald d_E_leafOf_18 e3 (isA_eq g4).1 (by rw [(isA_eq g4).2]; decide) (inb_vp g5) ?_
    obtain ⟨a7, e8, hf⟩ := dr_some hf
    obtain ⟨g9, hf⟩ := gd_some hf
    refine z_getR d_E_leafOf_19 (fl_K (isK_eq g9) fl_E_21_6) (fi_K (isK_eq g9) rfl) e8 ?_
    refine z_iload_n 2 d_E_leafOf_22 rfl rfl ?_
    obtain ⟨a10, e11, hf⟩ := dr_some hf
    obtain ⟨g12, hf⟩ := gd_some hf
    obtain ⟨g13, hf⟩ := gd_some hf
    refine z_aald d_E_leafOf_23 e11 (isA_eq g12).1 (by rw [(isA_eq g12).2]; decide) (inb_vp g13) ?_
    obtain ⟨rfl, rfl⟩ := Prod.mk.inj (Option.some.inj hf)
    exact z_ret d_E_leafOf_24 rfl
  · rw [if_pos c6] at hf
    refine z_aconst_null d_E_leafOf_9 ?_
    refine z_goto (tgt := 24) d_E_leafOf_10 (by decide) ?_
    obtain ⟨rfl, rfl⟩ := Prod.mk.inj (Option.some.inj hf)
    exact z_ret d_E_leafOf_24 rfl
theorem c_E_leafOf {l : Launch} {C : Ct} {mi : Nat} {a0 : Nat} {p1 : Int32} {p2 : Int32} {h h' : Hp} {v : Option Nat} (hf : f_E_leafOf a0 p1 p2 h = some (v, h')) : Mt l C mi m_E_leafOf 0 [vr (some a0), vi p1, vi p2] h (some (vr v)) h' := mt_R rfl (Or.inl ⟨_, rfl⟩) rfl (by decide) (Nat.le_of_ble_eq_true rfl) (zf_E_leafOf hf)
-- VersionMaps$Meta.valueOf(II)J
def m_E_valueOf : Mi := (⟨"VersionMaps$Meta", "valueOf", "(II)J"⟩, prog_5_method_3_code, 5, (Option.some Jvm.ClassFile.FieldType.long), .lreturn)
theorem cw_E_valueOf : cw_ok m_E_valueOf 2 := ⟨by decide +kernel, by decide +kernel, by decide +kernel, by decide +kernel⟩
theorem im_E_valueOf : Cond.instanceMethod m_E_valueOf.1 ∈ lw_w := by decide +kernel
theorem se_E_valueOf : Cond.selects "VersionMaps$Meta" m_E_valueOf.1 m_E_valueOf.1 ∈ lw_w := by decide +kernel
theorem d_E_valueOf_0 : decode prog_5_method_3_code 0 = .ok (.aload_n 0, 1) := by decide +kernel
theorem d_E_valueOf_1 : decode prog_5_method_3_code 1 = .ok (.iload_n 1, 1) := by decide +kernel
theorem d_E_valueOf_2 : decode prog_5_method_3_code 2 = .ok (.iload_n 2, 1) := by decide +kernel
theorem d_E_valueOf_3 : decode prog_5_method_3_code 3 = .ok (.bipush 8, 2) := by decide +kernel
theorem d_E_valueOf_5 : decode prog_5_method_3_code 5 = .ok (.idiv, 1) := by decide +kernel
theorem d_E_valueOf_6 : decode prog_5_method_3_code 6 = .ok (.invokevirtual 25, 3) := by decide +kernel
theorem d_E_valueOf_9 : decode prog_5_method_3_code 9 = .ok (.astore_n 3, 1) := by decide +kernel
theorem d_E_valueOf_10 : decode prog_5_method_3_code 10 = .ok (.iload_n 2, 1) := by decide +kernel
theorem d_E_valueOf_11 : decode prog_5_method_3_code 11 = .ok (.bipush 8, 2) := by decide +kernel
theorem d_E_valueOf_13 : decode prog_5_method_3_code 13 = .ok (.irem, 1) := by decide +kernel
theorem d_E_valueOf_14 : decode prog_5_method_3_code 14 = .ok (.istore 4, 2) := by decide +kernel
theorem d_E_valueOf_16 : decode prog_5_method_3_code 16 = .ok (.aload_n 3, 1) := by decide +kernel
theorem d_E_valueOf_17 : decode prog_5_method_3_code 17 = .ok (.ifnull 15, 3) := by decide +kernel
theorem d_E_valueOf_20 : decode prog_5_method_3_code 20 = .ok (.aload_n 3, 1) := by decide +kernel
theorem d_E_valueOf_21 : decode prog_5_method_3_code 21 = .ok (.getfield 29, 3) := by decide +kernel
theorem d_E_valueOf_24 : decode prog_5_method_3_code 24 = .ok (.iload 4, 2) := by decide +kernel
theorem d_E_valueOf_26 : decode prog_5_method_3_code 26 = .ok (.ishr, 1) := by decide +kernel
theorem d_E_valueOf_27 : decode prog_5_method_3_code 27 = .ok (.iconst 1, 1) := by decide +kernel
theorem d_E_valueOf_28 : decode prog_5_method_3_code 28 = .ok (.iand, 1) := by decide +kernel
theorem d_E_valueOf_29 : decode prog_5_method_3_code 29 = .ok (.ifCond .ne 7, 3) := by decide +kernel
theorem d_E_valueOf_32 : decode prog_5_method_3_code 32 = .ok (.ldc2_w 34, 3) := by decide +kernel
theorem d_E_valueOf_35 : decode prog_5_method_3_code 35 = .ok (.lreturn, 1) := by decide +kernel
theorem d_E_valueOf_36 : decode prog_5_method_3_code 36 = .ok (.aload_n 3, 1) := by decide +kernel
theorem d_E_valueOf_37 : decode prog_5_method_3_code 37 = .ok (.getfield 36, 3) := by decide +kernel
theorem d_E_valueOf_40 : decode prog_5_method_3_code 40 = .ok (.iload 4, 2) := by decide +kernel
theorem d_E_valueOf_42 : decode prog_5_method_3_code 42 = .ok (.iaload, 1) := by decide +kernel
theorem d_E_valueOf_43 : decode prog_5_method_3_code 43 = .ok (.i2l, 1) := by decide +kernel
theorem d_E_valueOf_44 : decode prog_5_method_3_code 44 = .ok (.lreturn, 1) := by decide +kernel
def f_E_valueOf (a0 : Nat) (p1 : Int32) (p2 : Int32) (h : Hp) : Option (Int64 × Hp) :=
  gd (isK h a0 4) (cl (f_E_leafOf a0 p1 (p2 / (8 : Int32)) h) fun v4 h2 => if v4 = none then (some ((1099511627776 : Int64), h2)) else (dr v4 fun a6 => gd (isK h2 a6 3) (if (((hpI h2 a6 4) >>> ((p2 - p2 / (8 : Int32) * (8 : Int32)) &&& 31)) &&& (1 : Int32)) = 0 then (some ((1099511627776 : Int64), h2)) else (dr (hpR h2 a6 3) fun a10 => gd (isA h2 a10 0) (gd (inb (p2 - p2 / (8 : Int32) * (8 : Int32)) (hpL h2 a10)) (some ((hpI h2 a10 (p2 - p2 / (8 : Int32) * (8 : Int32)).toNatClampNeg).toInt64, h2)))))))
set_option maxRecDepth 100000 in
set_option maxHeartbeats 4000000 in
theorem zf_E_valueOf {l : Launch} {C : Ct} {mi : Nat} {a0 : Nat} {p1 : Int32} {p2 : Int32} {h h' : Hp} {v : Int64} (hf : f_E_valueOf a0 p1 p2 h = some (v, h')) : Z l C mi m_E_valueOf 1 0 [(0, vr (some a0)), (1, vi p1), (2, vi p2)] [] h (some (vl v)) h' := by
  unfold f_E_valueOf at hf
  refine z_aload_n 0 d_E_valueOf_0 rfl rfl ?_
  refine z_iload_n 1 d_E_valueOf_1 rfl rfl ?_
  refine z_iload_n 2 d_E_valueOf_2 rfl rfl ?_
  refine z_bipush (v := (8 : Int32)) d_E_valueOf_3 (by decide) ?_
  refine z_idiv d_E_valueOf_5 (by decide) ?_
  obtain ⟨g1, hf⟩ := gd_some hf
  obtain ⟨v4, h2, ec3, hf⟩ := cl_some hf
  refine z_callVx rfl (c_E_leafOf ec3) d_E_valueOf_6 cw_E_leafOf lk_E_25 im_E_leafOf se_E_leafOf (kc_K (isK_eq g1) kc_4) ⟨by decide, by decide⟩ (Nat.le_of_ble_eq_true rfl) rfl ?_
  refine z_astore_n (ls2 := [(3, vr v4), (0, vr (some a0)), (1, vi p1), (2, vi p2)]) d_E_valueOf_9 rfl (by decide) rfl ?_
  refine z_iload_n 3 d_E_valueOf_10 rfl rfl ?_
  refine z_bipush (v := (8 : Int32)) d_E_valueOf_11 (by decide) ?_
  refine z_irem d_E_valueOf_13 (by decide) ?_
  refine z_istore (ls2 := [(4, vi (p2 - p2 / (8 : Int32) * (8 : Int32))), (3, vr v4), (0, vr (some a0)), (1, vi p1), (2, vi p2)]) d_E_valueOf_14 (by decide) rfl ?_
  refine z_aload_n 1 d_E_valueOf_16 rfl rfl ?_
  refine z_ifnull (tgt := 32) d_E_valueOf_17 (by decide) (fun c5 => ?_) (fun c5 => ?_)
  · rw [if_pos c5] at hf
    refine z_ldc2 (v := (1099511627776 : Int64)) d_E_valueOf_32 (by decide +kernel) ?_
    obtain ⟨rfl, rfl⟩ := Prod.mk.inj (Option.some.inj hf)
    exact z_ret d_E_valueOf_35 rfl
  · rw [if_neg c5] at hf
    refine z_aload_n 1 d_E_valueOf_20 rfl rfl ?_
    obtain ⟨a6, e7, hf⟩ := dr_some hf
    obtain ⟨g8, hf⟩ := gd_some hf
    refine z_getI d_E_valueOf_21 (fl_K (isK_eq g8) fl_E_29_3) (fi_K (isK_eq g8) rfl) e7 ?_
    refine z_iload 0 d_E_valueOf_24 rfl ?_
    refine z_ishr d_E_valueOf_26 ?_
    refine z_iconst (v := (1 : Int32)) d_E_valueOf_27 rfl ?_
    refine z_iand d_E_valueOf_28 ?_
    refine z_if_ne (tgt := 36) d_E_valueOf_29 (by decide) (fun c9 => ?_) (fun c9 => ?_)
    · rw [if_neg c9] at hf
      refine z_aload_n 1 d_E_valueOf_36 rfl rfl ?_
      refine z_getR d_E_valueOf_37 (fl_K (isK_eq g8) fl_E_36_3) (fi_K (isK_eq g8) rfl) e7 ?_
      refine z_iload 0 d_E_valueOf_40 rfl ?_
      obtain ⟨a10, e11, hf⟩ := dr_some hf
      obtain ⟨g12, hf⟩ := gd_some hf
      obtain ⟨g13, hf⟩ := gd_some hf
      refine z_iald d_E_valueOf_42 e11 (isA_eq g12).1 (isA_eq g12).2 (inb_vp g13) ?_
      refine z_i2l d_E_valueOf_43 ?_
      obtain ⟨rfl, rfl⟩ := Prod.mk.inj (Option.some.inj hf)
      exact z_ret d_E_valueOf_44 rfl
    · rw [if_pos c9] at hf
      refine z_ldc2 (v := (1099511627776 : Int64)) d_E_valueOf_32 (by decide +kernel) ?_
      obtain ⟨rfl, rfl⟩ := Prod.mk.inj (Option.some.inj hf)
      exact z_ret d_E_valueOf_35 rfl
theorem c_E_valueOf {l : Launch} {C : Ct} {mi : Nat} {a0 : Nat} {p1 : Int32} {p2 : Int32} {h h' : Hp} {v : Int64} (hf : f_E_valueOf a0 p1 p2 h = some (v, h')) : Mt l C mi m_E_valueOf 1 [vr (some a0), vi p1, vi p2] h (some (vl v)) h' := mt_L rfl rfl (by decide) (Nat.le_of_ble_eq_true rfl) (zf_E_valueOf hf)
-- VersionMaps$Present.isTouched()Z
def m_P_isTouched : Mi := (⟨"VersionMaps$Present", "isTouched", "()Z"⟩, prog_7_method_7_code, 1, (Option.some Jvm.ClassFile.FieldType.boolean), .ireturn)
theorem cw_P_isTouched : cw_ok m_P_isTouched 0 := ⟨by decide +kernel, by decide +kernel, by decide +kernel, by decide +kernel⟩
theorem im_P_isTouched : Cond.instanceMethod m_P_isTouched.1 ∈ lw_w := by decide +kernel
theorem se_P_isTouched : Cond.selects "VersionMaps$Present" m_P_isTouched.1 m_P_isTouched.1 ∈ lw_w := by decide +kernel
theorem d_P_isTouched_0 : decode prog_7_method_7_code 0 = .ok (.aload_n 0, 1) := by decide +kernel
theorem d_P_isTouched_1 : decode prog_7_method_7_code 1 = .ok (.getfield 18, 3) := by decide +kernel
theorem d_P_isTouched_4 : decode prog_7_method_7_code 4 = .ok (.ifCond .ne 10, 3) := by decide +kernel
theorem d_P_isTouched_7 : decode prog_7_method_7_code 7 = .ok (.aload_n 0, 1) := by decide +kernel
theorem d_P_isTouched_8 : decode prog_7_method_7_code 8 = .ok (.getfield 22, 3) := by decide +kernel
theorem d_P_isTouched_11 : decode prog_7_method_7_code 11 = .ok (.ifCond .eq 7, 3) := by decide +kernel
theorem d_P_isTouched_14 : decode prog_7_method_7_code 14 = .ok (.iconst 1, 1) := by decide +kernel
theorem d_P_isTouched_15 : decode prog_7_method_7_code 15 = .ok (.goto 4, 3) := by decide +kernel
theorem d_P_isTouched_18 : decode prog_7_method_7_code 18 = .ok (.iconst 0, 1) := by decide +kernel
theorem d_P_isTouched_19 : decode prog_7_method_7_code 19 = .ok (.ireturn, 1) := by decide +kernel
def f0_P_isTouched (a0 : Nat) (h : Hp) : Option (Int32 × Hp) :=
  gd (isK h a0 5) (if (hpI h a0 2) = 0 then (if (hpI h a0 3) = 0 then (some ((0 : Int32), h)) else (some ((1 : Int32), h))) else (some ((1 : Int32), h)))
def f_P_isTouched (a0 : Nat) (h : Hp) : Option (Int32 × Hp) := zbw (f0_P_isTouched a0 h)
set_option maxRecDepth 100000 in
set_option maxHeartbeats 4000000 in
theorem zf_P_isTouched {l : Launch} {C : Ct} {mi : Nat} {a0 : Nat} {h h' : Hp} {v : Int32} (hf : f0_P_isTouched a0 h = some (v, h')) : Z l C mi m_P_isTouched 0 0 [(0, vr (some a0))] [] h (some (vi v)) h' := by
  unfold f0_P_isTouched at hf
  refine z_aload_n 0 d_P_isTouched_0 rfl rfl ?_
  obtain ⟨g1, hf⟩ := gd_some hf
  refine z_getI d_P_isTouched_1 (fl_K (isK_eq g1) fl_P_18_5) (fi_K (isK_eq g1) rfl) rfl ?_
  refine z_if_ne (tgt := 14) d_P_isTouched_4 (by decide) (fun c2 => ?_) (fun c2 => ?_)
  · rw [if_neg c2] at hf
    refine z_iconst (v := (1 : Int32)) d_P_isTouched_14 rfl ?_
    refine z_goto (tgt := 19) d_P_isTouched_15 (by decide) ?_
    obtain ⟨rfl, rfl⟩ := Prod.mk.inj (Option.some.inj hf)
    exact z_ret d_P_isTouched_19 rfl
  · rw [if_pos c2] at hf
    refine z_aload_n 0 d_P_isTouched_7 rfl rfl ?_
    refine z_getI d_P_isTouched_8 (fl_K (isK_eq g1) fl_P_22_5) (fi_K (isK_eq g1) rfl) rfl ?_
    refine z_if_eq (tgt := 18) d_P_isTouched_11 (by decide) (fun c3 => ?_) (fun c3 => ?_)
    · rw [if_pos c3] at hf
      refine z_iconst (v := (0 : Int32)) d_P_isTouched_18 rfl ?_
      obtain ⟨rfl, rfl⟩ := Prod.mk.inj (Option.some.inj hf)
      exact z_ret d_P_isTouched_19 rfl
    · rw [if_neg c3] at hf
      refine z_iconst (v := (1 : Int32)) d_P_isTouched_14 rfl ?_
      refine z_goto (tgt := 19) d_P_isTouched_15 (by decide) ?_
      obtain ⟨rfl, rfl⟩ := Prod.mk.inj (Option.some.inj hf)
      exact z_ret d_P_isTouched_19 rfl
theorem c_P_isTouched {l : Launch} {C : Ct} {mi : Nat} {a0 : Nat} {h h' : Hp} {v : Int32} (hf : f_P_isTouched a0 h = some (v, h')) : Mt l C mi m_P_isTouched 0 [vr (some a0)] h (some (vi v)) h' := mt_I (ty := .boolean) rfl rfl (zb_eq (zbw_some hf).1) (by decide) (Nat.le_of_ble_eq_true rfl) (zf_P_isTouched (zbw_some hf).2)
-- VersionMaps$Present.isMapChanged(I)Z
def m_P_isMapChanged : Mi := (⟨"VersionMaps$Present", "isMapChanged", "(I)Z"⟩, prog_7_method_18_code, 2, (Option.some Jvm.ClassFile.FieldType.boolean), .ireturn)
theorem cw_P_isMapChanged : cw_ok m_P_isMapChanged 1 := ⟨by decide +kernel, by decide +kernel, by decide +kernel, by decide +kernel⟩
theorem im_P_isMapChanged : Cond.instanceMethod m_P_isMapChanged.1 ∈ lw_w := by decide +kernel
theorem se_P_isMapChanged : Cond.selects "VersionMaps$Present" m_P_isMapChanged.1 m_P_isMapChanged.1 ∈ lw_w := by decide +kernel
theorem d_P_isMapChanged_0 : decode prog_7_method_18_code 0 = .ok (.aload_n 0, 1) := by decide +kernel
theorem d_P_isMapChanged_1 : decode prog_7_method_18_code 1 = .ok (.getfield 22, 3) := by decide +kernel
theorem d_P_isMapChanged_4 : decode prog_7_method_18_code 4 = .ok (.iload_n 1, 1) := by decide +kernel
theorem d_P_isMapChanged_5 : decode prog_7_method_18_code 5 = .ok (.ishr, 1) := by decide +kernel
theorem d_P_isMapChanged_6 : decode prog_7_method_18_code 6 = .ok (.iconst 1, 1) := by decide +kernel
theorem d_P_isMapChanged_7 : decode prog_7_method_18_code 7 = .ok (.iand, 1) := by decide +kernel
theorem d_P_isMapChanged_8 : decode prog_7_method_18_code 8 = .ok (.iconst 1, 1) := by decide +kernel
theorem d_P_isMapChanged_9 : decode prog_7_method_18_code 9 = .ok (.if_icmp .eq 17, 3) := by decide +kernel
theorem d_P_isMapChanged_12 : decode prog_7_method_18_code 12 = .ok (.aload_n 0, 1) := by decide +kernel
theorem d_P_isMapChanged_13 : decode prog_7_method_18_code 13 = .ok (.getfield 18, 3) := by decide +kernel
theorem d_P_isMapChanged_16 : decode prog_7_method_18_code 16 = .ok (.iconst 4, 1) := by decide +kernel
theorem d_P_isMapChanged_17 : decode prog_7_method_18_code 17 = .ok (.iload_n 1, 1) := by decide +kernel
theorem d_P_isMapChanged_18 : decode prog_7_method_18_code 18 = .ok (.imul, 1) := by decide +kernel
theorem d_P_isMapChanged_19 : decode prog_7_method_18_code 19 = .ok (.ishr, 1) := by decide +kernel
theorem d_P_isMapChanged_20 : decode prog_7_method_18_code 20 = .ok (.bipush 15, 2) := by decide +kernel
theorem d_P_isMapChanged_22 : decode prog_7_method_18_code 22 = .ok (.iand, 1) := by decide +kernel
theorem d_P_isMapChanged_23 : decode prog_7_method_18_code 23 = .ok (.ifCond .eq 7, 3) := by decide +kernel
theorem d_P_isMapChanged_26 : decode prog_7_method_18_code 26 = .ok (.iconst 1, 1) := by decide +kernel
theorem d_P_isMapChanged_27 : decode prog_7_method_18_code 27 = .ok (.goto 4, 3) := by decide +kernel
theorem d_P_isMapChanged_30 : decode prog_7_method_18_code 30 = .ok (.iconst 0, 1) := by decide +kernel
theorem d_P_isMapChanged_31 : decode prog_7_method_18_code 31 = .ok (.ireturn, 1) := by decide +kernel
def f0_P_isMapChanged (a0 : Nat) (p1 : Int32) (h : Hp) : Option (Int32 × Hp) :=
  gd (isK h a0 5) (if (((hpI h a0 3) >>> (p1 &&& 31)) &&& (1 : Int32)) = (1 : Int32) then (some ((1 : Int32), h)) else (if (((hpI h a0 2) >>> (((4 : Int32) * p1) &&& 31)) &&& (15 : Int32)) = 0 then (some ((0 : Int32), h)) else (some ((1 : Int32), h))))
def f_P_isMapChanged (a0 : Nat) (p1 : Int32) (h : Hp) : Option (Int32 × Hp) := zbw (f0_P_isMapChanged a0 p1 h)
set_option maxRecDepth 100000 in
set_option maxHeartbeats 4000000 in
theorem zf_P_isMapChanged {l : Launch} {C : Ct} {mi : Nat} {a0 : Nat} {p1 : Int32} {h h' : Hp} {v : Int32} (hf : f0_P_isMapChanged a0 p1 h = some (v, h')) : Z l C mi m_P_isMapChanged 0 0 [(0, vr (some a0)), (1, vi p1)] [] h (some (vi v)) h' := by
  unfold f0_P_isMapChanged at hf
  refine z_aload_n 0 d_P_isMapChanged_0 rfl rfl ?_
  obtain ⟨g1, hf⟩ := gd_some hf
  refine z_getI d_P_isMapChanged_1 (fl_K (isK_eq g1) fl_P_22_5) (fi_K (isK_eq g1) rfl) rfl ?_
  refine z_iload_n 1 d_P_isMapChanged_4 rfl rfl ?_
  refine z_ishr d_P_isMapChanged_5 ?_
  refine z_iconst (v := (1 : Int32)) d_P_isMapChanged_6 rfl ?_
  refine z_iand d_P_isMapChanged_7 ?_
  refine z_iconst (v := (1 : Int32)) d_P_isMapChanged_8 rfl ?_
  refine z_icmp_eq (tgt := 26) d_P_isMapChanged_9 (by decide) (fun c2 => ?_) (fun c2 => ?_)
  · rw [if_pos c2] at hf
    refine z_iconst (v := (1 : Int32)) d_P_isMapChanged_26 rfl ?_
    refine z_goto (tgt := 31) d_P_isMapChanged_27 (by decide) ?_
    obtain ⟨rfl, rfl⟩ := Prod.mk.inj (Option.some.inj hf)
    exact z_ret d_P_isMapChanged_31 rfl
  · rw [if_neg c2] at hf
    refine z_aload_n 0 d_P_isMapChanged_12 rfl rfl ?_
    refine z_getI d_P_isMapChanged_13 (fl_K (isK_eq g1) fl_P_18_5) (fi_K (isK_eq g1) rfl) rfl ?_
    refine z_iconst (v := (4 : Int32)) d_P_isMapChanged_16 rfl ?_
    refine z_iload_n 1 d_P_isMapChanged_17 rfl rfl ?_
    refine z_imul d_P_isMapChanged_18 ?_
    refine z_ishr d_P_isMapChanged_19 ?_
    refine z_bipush (v := (15 : Int32)) d_P_isMapChanged_20 (by decide) ?_
    refine z_iand d_P_isMapChanged_22 ?_
    refine z_if_eq (tgt := 30) d_P_isMapChanged_23 (by decide) (fun c3 => ?_) (fun c3 => ?_)
    · rw [if_pos c3] at hf
      refine z_iconst (v := (0 : Int32)) d_P_isMapChanged_30 rfl ?_
      obtain ⟨rfl, rfl⟩ := Prod.mk.inj (Option.some.inj hf)
      exact z_ret d_P_isMapChanged_31 rfl
    · rw [if_neg c3] at hf
      refine z_iconst (v := (1 : Int32)) d_P_isMapChanged_26 rfl ?_
      refine z_goto (tgt := 31) d_P_isMapChanged_27 (by decide) ?_
      obtain ⟨rfl, rfl⟩ := Prod.mk.inj (Option.some.inj hf)
      exact z_ret d_P_isMapChanged_31 rfl
theorem c_P_isMapChanged {l : Launch} {C : Ct} {mi : Nat} {a0 : Nat} {p1 : Int32} {h h' : Hp} {v : Int32} (hf : f_P_isMapChanged a0 p1 h = some (v, h')) : Mt l C mi m_P_isMapChanged 0 [vr (some a0), vi p1] h (some (vi v)) h' := mt_I (ty := .boolean) rfl rfl (zb_eq (zbw_some hf).1) (by decide) (Nat.le_of_ble_eq_true rfl) (zf_P_isMapChanged (zbw_some hf).2)
-- VersionMaps$Present.needsRoot(I)Z
def m_P_needsRoot : Mi := (⟨"VersionMaps$Present", "needsRoot", "(I)Z"⟩, prog_7_method_20_code, 2, (Option.some Jvm.ClassFile.FieldType.boolean), .ireturn)
theorem cw_P_needsRoot : cw_ok m_P_needsRoot 1 := ⟨by decide +kernel, by decide +kernel, by decide +kernel, by decide +kernel⟩
theorem im_P_needsRoot : Cond.instanceMethod m_P_needsRoot.1 ∈ lw_w := by decide +kernel
theorem se_P_needsRoot : Cond.selects "VersionMaps$Present" m_P_needsRoot.1 m_P_needsRoot.1 ∈ lw_w := by decide +kernel
theorem d_P_needsRoot_0 : decode prog_7_method_20_code 0 = .ok (.aload_n 0, 1) := by decide +kernel
theorem d_P_needsRoot_1 : decode prog_7_method_20_code 1 = .ok (.iload_n 1, 1) := by decide +kernel
theorem d_P_needsRoot_2 : decode prog_7_method_20_code 2 = .ok (.invokevirtual 77, 3) := by decide +kernel
theorem d_P_needsRoot_5 : decode prog_7_method_20_code 5 = .ok (.ifCond .eq 16, 3) := by decide +kernel
theorem d_P_needsRoot_8 : decode prog_7_method_20_code 8 = .ok (.aload_n 0, 1) := by decide +kernel
theorem d_P_needsRoot_9 : decode prog_7_method_20_code 9 = .ok (.getfield 15, 3) := by decide +kernel
theorem d_P_needsRoot_12 : decode prog_7_method_20_code 12 = .ok (.iload_n 1, 1) := by decide +kernel
theorem d_P_needsRoot_13 : decode prog_7_method_20_code 13 = .ok (.iaload, 1) := by decide +kernel
theorem d_P_needsRoot_14 : decode prog_7_method_20_code 14 = .ok (.ifCond .eq 7, 3) := by decide +kernel
theorem d_P_needsRoot_17 : decode prog_7_method_20_code 17 = .ok (.iconst 1, 1) := by decide +kernel
theorem d_P_needsRoot_18 : decode prog_7_method_20_code 18 = .ok (.goto 4, 3) := by decide +kernel
theorem d_P_needsRoot_21 : decode prog_7_method_20_code 21 = .ok (.iconst 0, 1) := by decide +kernel
theorem d_P_needsRoot_22 : decode prog_7_method_20_code 22 = .ok (.ireturn, 1) := by decide +kernel
def f0_P_needsRoot (a0 : Nat) (p1 : Int32) (h : Hp) : Option (Int32 × Hp) :=
  gd (isK h a0 5) (cl (f_P_isMapChanged a0 p1 h) fun v4 h2 => if v4 = 0 then (some ((0 : Int32), h2)) else (gd (isK h2 a0 5) (dr (hpR h2 a0 1) fun a7 => gd (isA h2 a7 0) (gd (inb p1 (hpL h2 a7)) (if (hpI h2 a7 p1.toNatClampNeg) = 0 then (some ((0 : Int32), h2)) else (some ((1 : Int32), h2)))))))
def f_P_needsRoot (a0 : Nat) (p1 : Int32) (h : Hp) : Option (Int32 × Hp) := zbw (f0_P_needsRoot a0 p1 h)
set_option maxRecDepth 100000 in
set_option maxHeartbeats 4000000 in
theorem zf_P_needsRoot {l : Launch} {C : Ct} {mi : Nat} {a0 : Nat} {p1 : Int32} {h h' : Hp} {v : Int32} (hf : f0_P_needsRoot a0 p1 h = some (v, h')) : Z l C mi m_P_needsRoot 1 0 [(0, vr (some a0)), (1, vi p1)] [] h (some (vi v)) h' := by
  unfold f0_P_needsRoot at hf
  refine z_aload_n 0 d_P_needsRoot_0 rfl rfl ?_
  refine z_iload_n 1 d_P_needsRoot_1 rfl rfl ?_
  obtain ⟨g1, hf⟩ := gd_some hf
  obtain ⟨v4, h2, ec3, hf⟩ := cl_some hf
  refine z_callVx rfl (c_P_isMapChanged ec3) d_P_needsRoot_2 cw_P_isMapChanged lk_P_77 im_P_isMapChanged se_P_isMapChanged (kc_K (isK_eq g1) kc_5) ⟨by decide, by decide⟩ (Nat.le_of_ble_eq_true rfl) rfl ?_
  refine z_if_eq (tgt := 21) d_P_needsRoot_5 (by decide) (fun c5 => ?_) (fun c5 => ?_)
  · rw [if_pos c5] at hf
    refine z_iconst (v := (0 : Int32)) d_P_needsRoot_21 rfl ?_
    obtain ⟨rfl, rfl⟩ := Prod.mk.inj (Option.some.inj hf)
    exact z_ret d_P_needsRoot_22 rfl
  · rw [if_neg c5] at hf
    refine z_aload_n 0 d_P_needsRoot_8 rfl rfl ?_
    obtain ⟨g6, hf⟩ := gd_some hf
    refine z_getR d_P_needsRoot_9 (fl_K (isK_eq g6) fl_P_15_5) (fi_K (isK_eq g6) rfl) rfl ?_
    refine z_iload_n 1 d_P_needsRoot_12 rfl rfl ?_
    obtain ⟨a7, e8, hf⟩ := dr_some hf
    obtain ⟨g9, hf⟩ := gd_some hf
    obtain ⟨g10, hf⟩ := gd_some hf
    refine z_iald d_P_needsRoot_13 e8 (isA_eq g9).1 (isA_eq g9).2 (inb_vp g10) ?_
    refine z_if_eq (tgt := 21) d_P_needsRoot_14 (by decide) (fun c11 => ?_) (fun c11 => ?_)
    · rw [if_pos c11] at hf
      refine z_iconst (v := (0 : Int32)) d_P_needsRoot_21 rfl ?_
      obtain ⟨rfl, rfl⟩ := Prod.mk.inj (Option.some.inj hf)
      exact z_ret d_P_needsRoot_22 rfl
    · rw [if_neg c11] at hf
      refine z_iconst (v := (1 : Int32)) d_P_needsRoot_17 rfl ?_
      refine z_goto (tgt := 22) d_P_needsRoot_18 (by decide) ?_
      obtain ⟨rfl, rfl⟩ := Prod.mk.inj (Option.some.inj hf)
      exact z_ret d_P_needsRoot_22 rfl
theorem c_P_needsRoot {l : Launch} {C : Ct} {mi : Nat} {a0 : Nat} {p1 : Int32} {h h' : Hp} {v : Int32} (hf : f_P_needsRoot a0 p1 h = some (v, h')) : Mt l C mi m_P_needsRoot 1 [vr (some a0), vi p1] h (some (vi v)) h' := mt_I (ty := .boolean) rfl rfl (zb_eq (zbw_some hf).1) (by decide) (Nat.le_of_ble_eq_true rfl) (zf_P_needsRoot (zbw_some hf).2)
-- VersionMaps$Present.isLeafTouched(II)Z
def m_P_isLeafTouched : Mi := (⟨"VersionMaps$Present", "isLeafTouched", "(II)Z"⟩, prog_7_method_16_code, 3, (Option.some Jvm.ClassFile.FieldType.boolean), .ireturn)
theorem cw_P_isLeafTouched : cw_ok m_P_isLeafTouched 2 := ⟨by decide +kernel, by decide +kernel, by decide +kernel, by decide +kernel⟩
theorem im_P_isLeafTouched : Cond.instanceMethod m_P_isLeafTouched.1 ∈ lw_w := by decide +kernel
theorem se_P_isLeafTouched : Cond.selects "VersionMaps$Present" m_P_isLeafTouched.1 m_P_isLeafTouched.1 ∈ lw_w := by decide +kernel
theorem d_P_isLeafTouched_0 : decode prog_7_method_16_code 0 = .ok (.aload_n 0, 1) := by decide +kernel
theorem d_P_isLeafTouched_1 : decode prog_7_method_16_code 1 = .ok (.getfield 18, 3) := by decide +kernel
theorem d_P_isLeafTouched_4 : decode prog_7_method_16_code 4 = .ok (.iconst 4, 1) := by decide +kernel
theorem d_P_isLeafTouched_5 : decode prog_7_method_16_code 5 = .ok (.iload_n 1, 1) := by decide +kernel
theorem d_P_isLeafTouched_6 : decode prog_7_method_16_code 6 = .ok (.imul, 1) := by decide +kernel
theorem d_P_isLeafTouched_7 : decode prog_7_method_16_code 7 = .ok (.iload_n 2, 1) := by decide +kernel
theorem d_P_isLeafTouched_8 : decode prog_7_method_16_code 8 = .ok (.iadd, 1) := by decide +kernel
theorem d_P_isLeafTouched_9 : decode prog_7_method_16_code 9 = .ok (.ishr, 1) := by decide +kernel
theorem d_P_isLeafTouched_10 : decode prog_7_method_16_code 10 = .ok (.iconst 1, 1) := by decide +kernel
theorem d_P_isLeafTouched_11 : decode prog_7_method_16_code 11 = .ok (.iand, 1) := by decide +kernel
theorem d_P_isLeafTouched_12 : decode prog_7_method_16_code 12 = .ok (.iconst 1, 1) := by decide +kernel
theorem d_P_isLeafTouched_13 : decode prog_7_method_16_code 13 = .ok (.if_icmp .ne 7, 3) := by decide +kernel
theorem d_P_isLeafTouched_16 : decode prog_7_method_16_code 16 = .ok (.iconst 1, 1) := by decide +kernel
theorem d_P_isLeafTouched_17 : decode prog_7_method_16_code 17 = .ok (.goto 4, 3) := by decide +kernel
theorem d_P_isLeafTouched_20 : decode prog_7_method_16_code 20 = .ok (.iconst 0, 1) := by decide +kernel
theorem d_P_isLeafTouched_21 : decode prog_7_method_16_code 21 = .ok (.ireturn, 1) := by decide +kernel
def f0_P_isLeafTouched (a0 : Nat) (p1 : Int32) (p2 : Int32) (h : Hp) : Option (Int32 × Hp) :=
  gd (isK h a0 5) (if (((hpI h a0 2) >>> ((((4 : Int32) * p1) + p2) &&& 31)) &&& (1 : Int32)) = (1 : Int32) then (some ((1 : Int32), h)) else (some ((0 : Int32), h)))
def f_P_isLeafTouched (a0 : Nat) (p1 : Int32) (p2 : Int32) (h : Hp) : Option (Int32 × Hp) := zbw (f0_P_isLeafTouched a0 p1 p2 h)
set_option maxRecDepth 100000 in
set_option maxHeartbeats 4000000 in
theorem zf_P_isLeafTouched {l : Launch} {C : Ct} {mi : Nat} {a0 : Nat} {p1 : Int32} {p2 : Int32} {h h' : Hp} {v : Int32} (hf : f0_P_isLeafTouched a0 p1 p2 h = some (v, h')) : Z l C mi m_P_isLeafTouched 0 0 [(0, vr (some a0)), (1, vi p1), (2, vi p2)] [] h (some (vi v)) h' := by
  unfold f0_P_isLeafTouched at hf
  refine z_aload_n 0 d_P_isLeafTouched_0 rfl rfl ?_
  obtain ⟨g1, hf⟩ := gd_some hf
  refine z_getI d_P_isLeafTouched_1 (fl_K (isK_eq g1) fl_P_18_5) (fi_K (isK_eq g1) rfl) rfl ?_
  refine z_iconst (v := (4 : Int32)) d_P_isLeafTouched_4 rfl ?_
  refine z_iload_n 1 d_P_isLeafTouched_5 rfl rfl ?_
  refine z_imul d_P_isLeafTouched_6 ?_
  refine z_iload_n 2 d_P_isLeafTouched_7 rfl rfl ?_
  refine z_iadd d_P_isLeafTouched_8 ?_
  refine z_ishr d_P_isLeafTouched_9 ?_
  refine z_iconst (v := (1 : Int32)) d_P_isLeafTouched_10 rfl ?_
  refine z_iand d_P_isLeafTouched_11 ?_
  refine z_iconst (v := (1 : Int32)) d_P_isLeafTouched_12 rfl ?_
  refine z_icmp_ne (tgt := 20) d_P_isLeafTouched_13 (by decide) (fun c2 => ?_) (fun c2 => ?_)
  · rw [if_neg c2] at hf
    refine z_iconst (v := (0 : Int32)) d_P_isLeafTouched_20 rfl ?_
    obtain ⟨rfl, rfl⟩ := Prod.mk.inj (Option.some.inj hf)
    exact z_ret d_P_isLeafTouched_21 rfl
  · rw [if_pos c2] at hf
    refine z_iconst (v := (1 : Int32)) d_P_isLeafTouched_16 rfl ?_
    refine z_goto (tgt := 21) d_P_isLeafTouched_17 (by decide) ?_
    obtain ⟨rfl, rfl⟩ := Prod.mk.inj (Option.some.inj hf)
    exact z_ret d_P_isLeafTouched_21 rfl
theorem c_P_isLeafTouched {l : Launch} {C : Ct} {mi : Nat} {a0 : Nat} {p1 : Int32} {p2 : Int32} {h h' : Hp} {v : Int32} (hf : f_P_isLeafTouched a0 p1 p2 h = some (v, h')) : Mt l C mi m_P_isLeafTouched 0 [vr (some a0), vi p1, vi p2] h (some (vi v)) h' := mt_I (ty := .boolean) rfl rfl (zb_eq (zbw_some hf).1) (by decide) (Nat.le_of_ble_eq_true rfl) (zf_P_isLeafTouched (zbw_some hf).2)
-- VersionMaps$Present.leafKeys(II)I
def m_P_leafKeys : Mi := (⟨"VersionMaps$Present", "leafKeys", "(II)I"⟩, prog_7_method_17_code, 3, (Option.some Jvm.ClassFile.FieldType.int), .ireturn)
theorem cw_P_leafKeys : cw_ok m_P_leafKeys 2 := ⟨by decide +kernel, by decide +kernel, by decide +kernel, by decide +kernel⟩
theorem im_P_leafKeys : Cond.instanceMethod m_P_leafKeys.1 ∈ lw_w := by decide +kernel
theorem se_P_leafKeys : Cond.selects "VersionMaps$Present" m_P_leafKeys.1 m_P_leafKeys.1 ∈ lw_w := by decide +kernel
theorem d_P_leafKeys_0 : decode prog_7_method_17_code 0 = .ok (.aload_n 0, 1) := by decide +kernel
theorem d_P_leafKeys_1 : decode prog_7_method_17_code 1 = .ok (.getfield 15, 3) := by decide +kernel
theorem d_P_leafKeys_4 : decode prog_7_method_17_code 4 = .ok (.iload_n 1, 1) := by decide +kernel
theorem d_P_leafKeys_5 : decode prog_7_method_17_code 5 = .ok (.iaload, 1) := by decide +kernel
theorem d_P_leafKeys_6 : decode prog_7_method_17_code 6 = .ok (.bipush 8, 2) := by decide +kernel
theorem d_P_leafKeys_8 : decode prog_7_method_17_code 8 = .ok (.iload_n 2, 1) := by decide +kernel
theorem d_P_leafKeys_9 : decode prog_7_method_17_code 9 = .ok (.imul, 1) := by decide +kernel
theorem d_P_leafKeys_10 : decode prog_7_method_17_code 10 = .ok (.iushr, 1) := by decide +kernel
theorem d_P_leafKeys_11 : decode prog_7_method_17_code 11 = .ok (.sipush 255, 3) := by decide +kernel
theorem d_P_leafKeys_14 : decode prog_7_method_17_code 14 = .ok (.iand, 1) := by decide +kernel
theorem d_P_leafKeys_15 : decode prog_7_method_17_code 15 = .ok (.ireturn, 1) := by decide +kernel
def f_P_leafKeys (a0 : Nat) (p1 : Int32) (p2 : Int32) (h : Hp) : Option (Int32 × Hp) :=
  gd (isK h a0 5) (dr (hpR h a0 1) fun a2 => gd (isA h a2 0) (gd (inb p1 (hpL h a2)) (some (((ushr (hpI h a2 p1.toNatClampNeg) ((8 : Int32) * p2)) &&& (255 : Int32)), h))))
set_option maxRecDepth 100000 in
set_option maxHeartbeats 4000000 in
theorem zf_P_leafKeys {l : Launch} {C : Ct} {mi : Nat} {a0 : Nat} {p1 : Int32} {p2 : Int32} {h h' : Hp} {v : Int32} (hf : f_P_leafKeys a0 p1 p2 h = some (v, h')) : Z l C mi m_P_leafKeys 0 0 [(0, vr (some a0)), (1, vi p1), (2, vi p2)] [] h (some (vi v)) h' := by
  unfold f_P_leafKeys at hf
  refine z_aload_n 0 d_P_leafKeys_0 rfl rfl ?_
  obtain ⟨g1, hf⟩ := gd_some hf
  refine z_getR d_P_leafKeys_1 (fl_K (isK_eq g1) fl_P_15_5) (fi_K (isK_eq g1) rfl) rfl ?_
  refine z_iload_n 1 d_P_leafKeys_4 rfl rfl ?_
  obtain ⟨a2, e3, hf⟩ := dr_some hf
  obtain ⟨g4, hf⟩ := gd_some hf
  obtain ⟨g5, hf⟩ := gd_some hf
  refine z_iald d_P_leafKeys_5 e3 (isA_eq g4).1 (isA_eq g4).2 (inb_vp g5) ?_
  refine z_bipush (v := (8 : Int32)) d_P_leafKeys_6 (by decide) ?_
  refine z_iload_n 2 d_P_leafKeys_8 rfl rfl ?_
  refine z_imul d_P_leafKeys_9 ?_
  refine z_iushr d_P_leafKeys_10 ?_
  refine z_sipush (v := (255 : Int32)) d_P_leafKeys_11 (by decide) ?_
  refine z_iand d_P_leafKeys_14 ?_
  obtain ⟨rfl, rfl⟩ := Prod.mk.inj (Option.some.inj hf)
  exact z_ret d_P_leafKeys_15 rfl
theorem c_P_leafKeys {l : Launch} {C : Ct} {mi : Nat} {a0 : Nat} {p1 : Int32} {p2 : Int32} {h h' : Hp} {v : Int32} (hf : f_P_leafKeys a0 p1 p2 h = some (v, h')) : Mt l C mi m_P_leafKeys 0 [vr (some a0), vi p1, vi p2] h (some (vi v)) h' := mt_I (ty := .int) rfl rfl rfl (by decide) (Nat.le_of_ble_eq_true rfl) (zf_P_leafKeys hf)
-- VersionMaps$Present.needsLeaf(II)Z
def m_P_needsLeaf : Mi := (⟨"VersionMaps$Present", "needsLeaf", "(II)Z"⟩, prog_7_method_19_code, 3, (Option.some Jvm.ClassFile.FieldType.boolean), .ireturn)
theorem cw_P_needsLeaf : cw_ok m_P_needsLeaf 2 := ⟨by decide +kernel, by decide +kernel, by decide +kernel, by decide +kernel⟩
theorem im_P_needsLeaf : Cond.instanceMethod m_P_needsLeaf.1 ∈ lw_w := by decide +kernel
theorem se_P_needsLeaf : Cond.selects "VersionMaps$Present" m_P_needsLeaf.1 m_P_needsLeaf.1 ∈ lw_w := by decide +kernel
theorem d_P_needsLeaf_0 : decode prog_7_method_19_code 0 = .ok (.aload_n 0, 1) := by decide +kernel
theorem d_P_needsLeaf_1 : decode prog_7_method_19_code 1 = .ok (.iload_n 1, 1) := by decide +kernel
theorem d_P_needsLeaf_2 : decode prog_7_method_19_code 2 = .ok (.iload_n 2, 1) := by decide +kernel
theorem d_P_needsLeaf_3 : decode prog_7_method_19_code 3 = .ok (.invokevirtual 99, 3) := by decide +kernel
theorem d_P_needsLeaf_6 : decode prog_7_method_19_code 6 = .ok (.ifCond .eq 16, 3) := by decide +kernel
theorem d_P_needsLeaf_9 : decode prog_7_method_19_code 9 = .ok (.aload_n 0, 1) := by decide +kernel
theorem d_P_needsLeaf_10 : decode prog_7_method_19_code 10 = .ok (.iload_n 1, 1) := by decide +kernel
theorem d_P_needsLeaf_11 : decode prog_7_method_19_code 11 = .ok (.iload_n 2, 1) := by decide +kernel
theorem d_P_needsLeaf_12 : decode prog_7_method_19_code 12 = .ok (.invokevirtual 107, 3) := by decide +kernel
theorem d_P_needsLeaf_15 : decode prog_7_method_19_code 15 = .ok (.ifCond .eq 7, 3) := by decide +kernel
theorem d_P_needsLeaf_18 : decode prog_7_method_19_code 18 = .ok (.iconst 1, 1) := by decide +kernel
theorem d_P_needsLeaf_19 : decode prog_7_method_19_code 19 = .ok (.goto 4, 3) := by decide +kernel
theorem d_P_needsLeaf_22 : decode prog_7_method_19_code 22 = .ok (.iconst 0, 1) := by decide +kernel
theorem d_P_needsLeaf_23 : decode prog_7_method_19_code 23 = .ok (.ireturn, 1) := by decide +kernel
def f0_P_needsLeaf (a0 : Nat) (p1 : Int32) (p2 : Int32) (h : Hp) : Option (Int32 × Hp) :=
  gd (isK h a0 5) (cl (f_P_isLeafTouched a0 p1 p2 h) fun v4 h2 => if v4 = 0 then (some ((0 : Int32), h2)) else (gd (isK h2 a0 5) (cl (f_P_leafKeys a0 p1 p2 h2) fun v9 h7 => if v9 = 0 then (some ((0 : Int32), h7)) else (some ((1 : Int32), h7)))))
def f_P_needsLeaf (a0 : Nat) (p1 : Int32) (p2 : Int32) (h : Hp) : Option (Int32 × Hp) := zbw (f0_P_needsLeaf a0 p1 p2 h)
set_option maxRecDepth 100000 in
set_option maxHeartbeats 4000000 in
theorem zf_P_needsLeaf {l : Launch} {C : Ct} {mi : Nat} {a0 : Nat} {p1 : Int32} {p2 : Int32} {h h' : Hp} {v : Int32} (hf : f0_P_needsLeaf a0 p1 p2 h = some (v, h')) : Z l C mi m_P_needsLeaf 1 0 [(0, vr (some a0)), (1, vi p1), (2, vi p2)] [] h (some (vi v)) h' := by
  unfold f0_P_needsLeaf at hf
  refine z_aload_n 0 d_P_needsLeaf_0 rfl rfl ?_
  refine z_iload_n 1 d_P_needsLeaf_1 rfl rfl ?_
  refine z_iload_n 2 d_P_needsLeaf_2 rfl rfl ?_
  obtain ⟨g1, hf⟩ := gd_some hf
  obtain ⟨v4, h2, ec3, hf⟩ := cl_some hf
  refine z_callVx rfl (c_P_isLeafTouched ec3) d_P_needsLeaf_3 cw_P_isLeafTouched lk_P_99 im_P_isLeafTouched se_P_isLeafTouched (kc_K (isK_eq g1) kc_5) ⟨by decide, by decide⟩ (Nat.le_of_ble_eq_true rfl) rfl ?_
  refine z_if_eq (tgt := 22) d_P_needsLeaf_6 (by decide) (fun c5 => ?_) (fun c5 => ?_)
  · rw [if_pos c5] at hf
    refine z_iconst (v := (0 : Int32)) d_P_needsLeaf_22 rfl ?_
    obtain ⟨rfl, rfl⟩ := Prod.mk.inj (Option.some.inj hf)
    exact z_ret d_P_needsLeaf_23 rfl
  · rw [if_neg c5] at hf
    refine z_aload_n 0 d_P_needsLeaf_9 rfl rfl ?_
    refine z_iload_n 1 d_P_needsLeaf_10 rfl rfl ?_
    refine z_iload_n 2 d_P_needsLeaf_11 rfl rfl ?_
    obtain ⟨g6, hf⟩ := gd_some hf
    obtain ⟨v9, h7, ec8, hf⟩ := cl_some hf
    refine z_callVx rfl (c_P_leafKeys ec8) d_P_needsLeaf_12 cw_P_leafKeys lk_P_107 im_P_leafKeys se_P_leafKeys (kc_K (isK_eq g6) kc_5) ⟨by decide, by decide⟩ (Nat.le_of_ble_eq_true rfl) rfl ?_
    refine z_if_eq (tgt := 22) d_P_needsLeaf_15 (by decide) (fun c10 => ?_) (fun c10 => ?_)
    · rw [if_pos c10] at hf
      refine z_iconst (v := (0 : Int32)) d_P_needsLeaf_22 rfl ?_
      obtain ⟨rfl, rfl⟩ := Prod.mk.inj (Option.some.inj hf)
      exact z_ret d_P_needsLeaf_23 rfl
    · rw [if_neg c10] at hf
      refine z_iconst (v := (1 : Int32)) d_P_needsLeaf_18 rfl ?_
      refine z_goto (tgt := 23) d_P_needsLeaf_19 (by decide) ?_
      obtain ⟨rfl, rfl⟩ := Prod.mk.inj (Option.some.inj hf)
      exact z_ret d_P_needsLeaf_23 rfl
theorem c_P_needsLeaf {l : Launch} {C : Ct} {mi : Nat} {a0 : Nat} {p1 : Int32} {p2 : Int32} {h h' : Hp} {v : Int32} (hf : f_P_needsLeaf a0 p1 p2 h = some (v, h')) : Mt l C mi m_P_needsLeaf 1 [vr (some a0), vi p1, vi p2] h (some (vi v)) h' := mt_I (ty := .boolean) rfl rfl (zb_eq (zbw_some hf).1) (by decide) (Nat.le_of_ble_eq_true rfl) (zf_P_needsLeaf (zbw_some hf).2)
-- VersionMaps$Present.pagesToWrite()I
def m_P_pagesToWrite : Mi := (⟨"VersionMaps$Present", "pagesToWrite", "()I"⟩, prog_7_method_11_code, 4, (Option.some Jvm.ClassFile.FieldType.int), .ireturn)
theorem cw_P_pagesToWrite : cw_ok m_P_pagesToWrite 0 := ⟨by decide +kernel, by decide +kernel, by decide +kernel, by decide +kernel⟩
theorem im_P_pagesToWrite : Cond.instanceMethod m_P_pagesToWrite.1 ∈ lw_w := by decide +kernel
theorem se_P_pagesToWrite : Cond.selects "VersionMaps$Present" m_P_pagesToWrite.1 m_P_pagesToWrite.1 ∈ lw_w := by decide +kernel
theorem d_P_pagesToWrite_0 : decode prog_7_method_11_code 0 = .ok (.iconst 1, 1) := by decide +kernel
theorem d_P_pagesToWrite_1 : decode prog_7_method_11_code 1 = .ok (.istore_n 1, 1) := by decide +kernel
theorem d_P_pagesToWrite_2 : decode prog_7_method_11_code 2 = .ok (.iconst 0, 1) := by decide +kernel
theorem d_P_pagesToWrite_3 : decode prog_7_method_11_code 3 = .ok (.istore_n 2, 1) := by decide +kernel
theorem d_P_pagesToWrite_4 : decode prog_7_method_11_code 4 = .ok (.iload_n 2, 1) := by decide +kernel
theorem d_P_pagesToWrite_5 : decode prog_7_method_11_code 5 = .ok (.iconst 4, 1) := by decide +kernel
theorem d_P_pagesToWrite_6 : decode prog_7_method_11_code 6 = .ok (.if_icmp .ge 45, 3) := by decide +kernel
theorem d_P_pagesToWrite_9 : decode prog_7_method_11_code 9 = .ok (.aload_n 0, 1) := by decide +kernel
theorem d_P_pagesToWrite_10 : decode prog_7_method_11_code 10 = .ok (.iload_n 2, 1) := by decide +kernel
theorem d_P_pagesToWrite_11 : decode prog_7_method_11_code 11 = .ok (.invokevirtual 66, 3) := by decide +kernel
theorem d_P_pagesToWrite_14 : decode prog_7_method_11_code 14 = .ok (.ifCond .eq 6, 3) := by decide +kernel
theorem d_P_pagesToWrite_17 : decode prog_7_method_11_code 17 = .ok (.iinc 1 1, 3) := by decide +kernel
theorem d_P_pagesToWrite_20 : decode prog_7_method_11_code 20 = .ok (.iconst 0, 1) := by decide +kernel
theorem d_P_pagesToWrite_21 : decode prog_7_method_11_code 21 = .ok (.istore_n 3, 1) := by decide +kernel
theorem d_P_pagesToWrite_22 : decode prog_7_method_11_code 22 = .ok (.iload_n 3, 1) := by decide +kernel
theorem d_P_pagesToWrite_23 : decode prog_7_method_11_code 23 = .ok (.iconst 4, 1) := by decide +kernel
theorem d_P_pagesToWrite_24 : decode prog_7_method_11_code 24 = .ok (.if_icmp .ge 21, 3) := by decide +kernel
theorem d_P_pagesToWrite_27 : decode prog_7_method_11_code 27 = .ok (.aload_n 0, 1) := by decide +kernel
theorem d_P_pagesToWrite_28 : decode prog_7_method_11_code 28 = .ok (.iload_n 2, 1) := by decide +kernel
theorem d_P_pagesToWrite_29 : decode prog_7_method_11_code 29 = .ok (.iload_n 3, 1) := by decide +kernel
theorem d_P_pagesToWrite_30 : decode prog_7_method_11_code 30 = .ok (.invokevirtual 70, 3) := by decide +kernel
theorem d_P_pagesToWrite_33 : decode prog_7_method_11_code 33 = .ok (.ifCond .eq 6, 3) := by decide +kernel
theorem d_P_pagesToWrite_36 : decode prog_7_method_11_code 36 = .ok (.iinc 1 1, 3) := by decide +kernel
theorem d_P_pagesToWrite_39 : decode prog_7_method_11_code 39 = .ok (.iinc 3 1, 3) := by decide +kernel
theorem d_P_pagesToWrite_42 : decode prog_7_method_11_code 42 = .ok (.goto (-20), 3) := by decide +kernel
theorem d_P_pagesToWrite_45 : decode prog_7_method_11_code 45 = .ok (.iinc 2 1, 3) := by decide +kernel
theorem d_P_pagesToWrite_48 : decode prog_7_method_11_code 48 = .ok (.goto (-44), 3) := by decide +kernel
theorem d_P_pagesToWrite_51 : decode prog_7_method_11_code 51 = .ok (.iload_n 1, 1) := by decide +kernel
theorem d_P_pagesToWrite_52 : decode prog_7_method_11_code 52 = .ok (.ireturn, 1) := by decide +kernel
def b_P_pagesToWrite_22 (y0 : Nat) (y1 : Int32) (y2 : Int32) (y3 : Int32) (h : Hp) : Option ((Int32 × Int32 × Hp) ⊕ (Int32 × Hp)) :=
  if (4 : Int32) ≤ y3 then (some (.inr (y1, h))) else (gd (isK h y0 5) (cl (f_P_needsLeaf y0 y2 y3 h) fun v11 h9 => if v11 = 0 then (some (.inl (y1, (y3 + (1 : Int32)), h9))) else (some (.inl ((y1 + (1 : Int32)), (y3 + (1 : Int32)), h9)))))
set_option maxRecDepth 100000 in
set_option maxHeartbeats 4000000 in
theorem zb_P_pagesToWrite_22 {l : Launch} {C : Ct} {mi : Nat} {y0 : Nat} {y1 : Int32} {y2 : Int32} {y3 : Int32} {h h' : Hp} {v : Int32} {q : ((Int32 × Int32 × Hp) ⊕ (Int32 × Hp))} (hf : b_P_pagesToWrite_22 y0 y1 y2 y3 h = some q) (kc : ∀ s, q = .inl s → Z l C mi m_P_pagesToWrite 2 22 [(0, vr (some y0)), (1, vi s.1), (2, vi y2), (3, vi s.2.1)] [] s.2.2 (some (vi v)) h') (ke : ∀ x, q = .inr x → Z l C mi m_P_pagesToWrite 2 45 [(0, vr (some y0)), (1, vi x.1), (2, vi y2)] [] x.2 (some (vi v)) h') : Z l C mi m_P_pagesToWrite 2 22 [(0, vr (some y0)), (1, vi y1), (2, vi y2), (3, vi y3)] [] h (some (vi v)) h' := by
  unfold b_P_pagesToWrite_22 at hf
  refine z_iload_n 3 d_P_pagesToWrite_22 rfl rfl ?_
  refine z_iconst (v := (4 : Int32)) d_P_pagesToWrite_23 rfl ?_
  refine z_icmp_ge (tgt := 45) d_P_pagesToWrite_24 (by decide) (fun c7 => ?_) (fun c7 => ?_)
  · rw [if_pos c7] at hf
    refine z_ls [0, 1, 2] rfl ?_
    exact ke (y1, h) (Option.some.inj hf).symm
  · rw [if_neg c7] at hf
    refine z_aload_n 0 d_P_pagesToWrite_27 rfl rfl ?_
    refine z_iload_n 2 d_P_pagesToWrite_28 rfl rfl ?_
    refine z_iload_n 3 d_P_pagesToWrite_29 rfl rfl ?_
    obtain ⟨g8, hf⟩ := gd_some hf
    obtain ⟨v11, h9, ec10, hf⟩ := cl_some hf
    refine z_callVx rfl (c_P_needsLeaf ec10) d_P_pagesToWrite_30 cw_P_needsLeaf lk_P_70 im_P_needsLeaf se_P_needsLeaf (kc_K (isK_eq g8) kc_5) ⟨by decide, by decide⟩ (Nat.le_of_ble_eq_true rfl) rfl ?_
    refine z_if_eq (tgt := 39) d_P_pagesToWrite_33 (by decide) (fun c12 => ?_) (fun c12 => ?_)
    · rw [if_pos c12] at hf
      refine z_iinc (ls2 := [(3, vi (y3 + (1 : Int32))), (0, vr (some y0)), (1, vi y1), (2, vi y2)]) 3 d_P_pagesToWrite_39 rfl rfl (by decide) rfl ?_
      refine z_goto (tgt := 22) d_P_pagesToWrite_42 (by decide) ?_
      refine z_ls [1, 2, 3, 0] rfl ?_
      exact kc (y1, (y3 + (1 : Int32)), h9) (Option.some.inj hf).symm
    · rw [if_neg c12] at hf
      refine z_iinc (ls2 := [(1, vi (y1 + (1 : Int32))), (0, vr (some y0)), (2, vi y2), (3, vi y3)]) 1 d_P_pagesToWrite_36 rfl rfl (by decide) rfl ?_
      refine z_iinc (ls2 := [(3, vi (y3 + (1 : Int32))), (1, vi (y1 + (1 : Int32))), (0, vr (some y0)), (2, vi y2)]) 3 d_P_pagesToWrite_39 rfl rfl (by decide) rfl ?_
      refine z_goto (tgt := 22) d_P_pagesToWrite_42 (by decide) ?_
      refine z_ls [2, 1, 3, 0] rfl ?_
      exact kc ((y1 + (1 : Int32)), (y3 + (1 : Int32)), h9) (Option.some.inj hf).symm
def l_P_pagesToWrite_22 (y0 : Nat) (y2 : Int32) (s : Int32 × Int32 × Hp) : Option (Int32 × Hp) := lp (fun s => b_P_pagesToWrite_22 y0 s.1 y2 s.2.1 s.2.2) FU s
theorem zzl_P_pagesToWrite_22 {l : Launch} {C : Ct} {mi : Nat} {y0 : Nat} {y2 : Int32} {h' : Hp} {v : Int32} : ∀ (n : Nat) (s : Int32 × Int32 × Hp) (x : (Int32 × Hp)), lp (fun s : Int32 × Int32 × Hp => b_P_pagesToWrite_22 y0 s.1 y2 s.2.1 s.2.2) n s = some x → Z l C mi m_P_pagesToWrite 2 45 [(0, vr (some y0)), (1, vi x.1), (2, vi y2)] [] x.2 (some (vi v)) h' → Z l C mi m_P_pagesToWrite 2 22 [(0, vr (some y0)), (1, vi s.1), (2, vi y2), (3, vi s.2.1)] [] s.2.2 (some (vi v)) h' := by
  intro n
  induction n with
  | zero => intro s x hl; cases hl
  | succ n ih =>
    intro s x hl ke
    rcases lp_some hl with ⟨s2, hb, hl2⟩ | hb
    · exact zb_P_pagesToWrite_22 hb (fun s3 e3 => by cases e3; refine z_ls [0, 1, 2, 3] rfl ?_; exact ih s2 x hl2 ke) (fun x e3 => by cases e3)
    · exact zb_P_pagesToWrite_22 hb (fun s3 e3 => by cases e3) (fun x e3 => by cases e3; exact ke)
theorem zl_P_pagesToWrite_22 {l : Launch} {C : Ct} {mi : Nat} {y0 : Nat} {y2 : Int32} {h' : Hp} {v : Int32} {s : Int32 × Int32 × Hp} {x : (Int32 × Hp)} (hl : l_P_pagesToWrite_22 y0 y2 s = some x) (ke : Z l C mi m_P_pagesToWrite 2 45 [(0, vr (some y0)), (1, vi x.1), (2, vi y2)] [] x.2 (some (vi v)) h') : Z l C mi m_P_pagesToWrite 2 22 [(0, vr (some y0)), (1, vi s.1), (2, vi y2), (3, vi s.2.1)] [] s.2.2 (some (vi v)) h' := zzl_P_pagesToWrite_22 FU s x hl ke
def j_P_pagesToWrite_20_L4 (y0 : Nat) (y1 : Int32) (y2 : Int32) (h : Hp) : Option ((Int32 × Int32 × Hp) ⊕ (Int32 × Hp)) :=
  bd (l_P_pagesToWrite_22 y0 y2 (y1, (0 : Int32), h)) fun x13 => some (.inl (x13.1, (y2 + (1 : Int32)), x13.2))
set_option maxRecDepth 100000 in
set_option maxHeartbeats 4000000 in
theorem zj_P_pagesToWrite_20_L4 {l : Launch} {C : Ct} {mi : Nat} {y0 : Nat} {y1 : Int32} {y2 : Int32} {h h' : Hp} {v : Int32} {q : ((Int32 × Int32 × Hp) ⊕ (Int32 × Hp))} (hf : j_P_pagesToWrite_20_L4 y0 y1 y2 h = some q) (kc : ∀ s, q = .inl s → Z l C mi m_P_pagesToWrite 2 4 [(0, vr (some y0)), (1, vi s.1), (2, vi s.2.1)] [] s.2.2 (some (vi v)) h') (ke : ∀ x, q = .inr x → Z l C mi m_P_pagesToWrite 2 51 [(1, vi x.1)] [] x.2 (some (vi v)) h') : Z l C mi m_P_pagesToWrite 2 20 [(0, vr (some y0)), (1, vi y1), (2, vi y2)] [] h (some (vi v)) h' := by
  unfold j_P_pagesToWrite_20_L4 at hf
  refine z_iconst (v := (0 : Int32)) d_P_pagesToWrite_20 rfl ?_
  refine z_istore_n (ls2 := [(3, vi (0 : Int32)), (0, vr (some y0)), (1, vi y1), (2, vi y2)]) d_P_pagesToWrite_21 rfl (by decide) rfl ?_
  obtain ⟨x13, el14, hf⟩ := bd_some hf
  refine z_ls [1, 2, 3, 0] rfl ?_
  refine zl_P_pagesToWrite_22 el14 ?_
  refine z_iinc (ls2 := [(2, vi (y2 + (1 : Int32))), (0, vr (some y0)), (1, vi x13.1)]) 2 d_P_pagesToWrite_45 rfl rfl (by decide) rfl ?_
  refine z_goto (tgt := 4) d_P_pagesToWrite_48 (by decide) ?_
  refine z_ls [1, 2, 0] rfl ?_
  exact kc (x13.1, (y2 + (1 : Int32)), x13.2) (Option.some.inj hf).symm
def b_P_pagesToWrite_4 (y0 : Nat) (y1 : Int32) (y2 : Int32) (h : Hp) : Option ((Int32 × Int32 × Hp) ⊕ (Int32 × Hp)) :=
  if (4 : Int32) ≤ y2 then (some (.inr (y1, h))) else (gd (isK h y0 5) (cl (f_P_needsRoot y0 y2 h) fun v5 h3 => if v5 = 0 then (j_P_pagesToWrite_20_L4 y0 y1 y2 h3) else (j_P_pagesToWrite_20_L4 y0 (y1 + (1 : Int32)) y2 h3)))
set_option maxRecDepth 100000 in
set_option maxHeartbeats 4000000 in
theorem zb_P_pagesToWrite_4 {l : Launch} {C : Ct} {mi : Nat} {y0 : Nat} {y1 : Int32} {y2 : Int32} {h h' : Hp} {v : Int32} {q : ((Int32 × Int32 × Hp) ⊕ (Int32 × Hp))} (hf : b_P_pagesToWrite_4 y0 y1 y2 h = some q) (kc : ∀ s, q = .inl s → Z l C mi m_P_pagesToWrite 2 4 [(0, vr (some y0)), (1, vi s.1), (2, vi s.2.1)] [] s.2.2 (some (vi v)) h') (ke : ∀ x, q = .inr x → Z l C mi m_P_pagesToWrite 2 51 [(1, vi x.1)] [] x.2 (some (vi v)) h') : Z l C mi m_P_pagesToWrite 2 4 [(0, vr (some y0)), (1, vi y1), (2, vi y2)] [] h (some (vi v)) h' := by
  unfold b_P_pagesToWrite_4 at hf
  refine z_iload_n 2 d_P_pagesToWrite_4 rfl rfl ?_
  refine z_iconst (v := (4 : Int32)) d_P_pagesToWrite_5 rfl ?_
  refine z_icmp_ge (tgt := 51) d_P_pagesToWrite_6 (by decide) (fun c1 => ?_) (fun c1 => ?_)
  · rw [if_pos c1] at hf
    refine z_ls [1] rfl ?_
    exact ke (y1, h) (Option.some.inj hf).symm
  · rw [if_neg c1] at hf
    refine z_aload_n 0 d_P_pagesToWrite_9 rfl rfl ?_
    refine z_iload_n 2 d_P_pagesToWrite_10 rfl rfl ?_
    obtain ⟨g2, hf⟩ := gd_some hf
    obtain ⟨v5, h3, ec4, hf⟩ := cl_some hf
    refine z_callVx rfl (c_P_needsRoot ec4) d_P_pagesToWrite_11 cw_P_needsRoot lk_P_66 im_P_needsRoot se_P_needsRoot (kc_K (isK_eq g2) kc_5) ⟨by decide, by decide⟩ (Nat.le_of_ble_eq_true rfl) rfl ?_
    refine z_if_eq (tgt := 20) d_P_pagesToWrite_14 (by decide) (fun c6 => ?_) (fun c6 => ?_)
    · rw [if_pos c6] at hf
      refine z_ls [0, 1, 2] rfl ?_
      exact zj_P_pagesToWrite_20_L4 hf kc ke
    · rw [if_neg c6] at hf
      refine z_iinc (ls2 := [(1, vi (y1 + (1 : Int32))), (0, vr (some y0)), (2, vi y2)]) 1 d_P_pagesToWrite_17 rfl rfl (by decide) rfl ?_
      refine z_ls [1, 0, 2] rfl ?_
      exact zj_P_pagesToWrite_20_L4 hf kc ke
def l_P_pagesToWrite_4 (y0 : Nat) (s : Int32 × Int32 × Hp) : Option (Int32 × Hp) := lp (fun s => b_P_pagesToWrite_4 y0 s.1 s.2.1 s.2.2) FU s
theorem zzl_P_pagesToWrite_4 {l : Launch} {C : Ct} {mi : Nat} {y0 : Nat} {h' : Hp} {v : Int32} : ∀ (n : Nat) (s : Int32 × Int32 × Hp) (x : (Int32 × Hp)), lp (fun s : Int32 × Int32 × Hp => b_P_pagesToWrite_4 y0 s.1 s.2.1 s.2.2) n s = some x → Z l C mi m_P_pagesToWrite 2 51 [(1, vi x.1)] [] x.2 (some (vi v)) h' → Z l C mi m_P_pagesToWrite 2 4 [(0, vr (some y0)), (1, vi s.1), (2, vi s.2.1)] [] s.2.2 (some (vi v)) h' := by
  intro n
  induction n with
  | zero => intro s x hl; cases hl
  | succ n ih =>
    intro s x hl ke
    rcases lp_some hl with ⟨s2, hb, hl2⟩ | hb
    · exact zb_P_pagesToWrite_4 hb (fun s3 e3 => by cases e3; refine z_ls [0, 1, 2] rfl ?_; exact ih s2 x hl2 ke) (fun x e3 => by cases e3)
    · exact zb_P_pagesToWrite_4 hb (fun s3 e3 => by cases e3) (fun x e3 => by cases e3; exact ke)
theorem zl_P_pagesToWrite_4 {l : Launch} {C : Ct} {mi : Nat} {y0 : Nat} {h' : Hp} {v : Int32} {s : Int32 × Int32 × Hp} {x : (Int32 × Hp)} (hl : l_P_pagesToWrite_4 y0 s = some x) (ke : Z l C mi m_P_pagesToWrite 2 51 [(1, vi x.1)] [] x.2 (some (vi v)) h') : Z l C mi m_P_pagesToWrite 2 4 [(0, vr (some y0)), (1, vi s.1), (2, vi s.2.1)] [] s.2.2 (some (vi v)) h' := zzl_P_pagesToWrite_4 FU s x hl ke
def f_P_pagesToWrite (a0 : Nat) (h : Hp) : Option (Int32 × Hp) :=
  bd (l_P_pagesToWrite_4 a0 ((1 : Int32), (0 : Int32), h)) fun x15 => some (x15.1, x15.2)
set_option maxRecDepth 100000 in
set_option maxHeartbeats 4000000 in
theorem zf_P_pagesToWrite {l : Launch} {C : Ct} {mi : Nat} {a0 : Nat} {h h' : Hp} {v : Int32} (hf : f_P_pagesToWrite a0 h = some (v, h')) : Z l C mi m_P_pagesToWrite 2 0 [(0, vr (some a0))] [] h (some (vi v)) h' := by
  unfold f_P_pagesToWrite at hf
  refine z_iconst (v := (1 : Int32)) d_P_pagesToWrite_0 rfl ?_
  refine z_istore_n (ls2 := [(1, vi (1 : Int32)), (0, vr (some a0))]) d_P_pagesToWrite_1 rfl (by decide) rfl ?_
  refine z_iconst (v := (0 : Int32)) d_P_pagesToWrite_2 rfl ?_
  refine z_istore_n (ls2 := [(2, vi (0 : Int32)), (1, vi (1 : Int32)), (0, vr (some a0))]) d_P_pagesToWrite_3 rfl (by decide) rfl ?_
  obtain ⟨x15, el16, hf⟩ := bd_some hf
  refine z_ls [2, 1, 0] rfl ?_
  refine zl_P_pagesToWrite_4 el16 ?_
  refine z_iload_n 0 d_P_pagesToWrite_51 rfl rfl ?_
  obtain ⟨rfl, rfl⟩ := Prod.mk.inj (Option.some.inj hf)
  exact z_ret d_P_pagesToWrite_52 rfl
theorem c_P_pagesToWrite {l : Launch} {C : Ct} {mi : Nat} {a0 : Nat} {h h' : Hp} {v : Int32} (hf : f_P_pagesToWrite a0 h = some (v, h')) : Mt l C mi m_P_pagesToWrite 2 [vr (some a0)] h (some (vi v)) h' := mt_I (ty := .int) rfl rfl rfl (by decide) (Nat.le_of_ble_eq_true rfl) (zf_P_pagesToWrite hf)
-- VersionMaps.blocksFor(I)I
def m_X_blocksFor : Mi := (⟨"VersionMaps", "blocksFor", "(I)I"⟩, prog_1_method_21_code, 1, (Option.some Jvm.ClassFile.FieldType.int), .ireturn)
theorem cw_X_blocksFor : cw_ok m_X_blocksFor 1 := ⟨by decide +kernel, by decide +kernel, by decide +kernel, by decide +kernel⟩
theorem d_X_blocksFor_0 : decode prog_1_method_21_code 0 = .ok (.iload_n 0, 1) := by decide +kernel
theorem d_X_blocksFor_1 : decode prog_1_method_21_code 1 = .ok (.iconst 2, 1) := by decide +kernel
theorem d_X_blocksFor_2 : decode prog_1_method_21_code 2 = .ok (.iadd, 1) := by decide +kernel
theorem d_X_blocksFor_3 : decode prog_1_method_21_code 3 = .ok (.iconst 1, 1) := by decide +kernel
theorem d_X_blocksFor_4 : decode prog_1_method_21_code 4 = .ok (.isub, 1) := by decide +kernel
theorem d_X_blocksFor_5 : decode prog_1_method_21_code 5 = .ok (.iconst 2, 1) := by decide +kernel
theorem d_X_blocksFor_6 : decode prog_1_method_21_code 6 = .ok (.idiv, 1) := by decide +kernel
theorem d_X_blocksFor_7 : decode prog_1_method_21_code 7 = .ok (.ireturn, 1) := by decide +kernel
def f_X_blocksFor (p1 : Int32) (h : Hp) : Option (Int32 × Hp) :=
  some ((((p1 + (2 : Int32)) - (1 : Int32)) / (2 : Int32)), h)
set_option maxRecDepth 100000 in
set_option maxHeartbeats 4000000 in
theorem zf_X_blocksFor {l : Launch} {C : Ct} {mi : Nat} {p1 : Int32} {h h' : Hp} {v : Int32} (hf : f_X_blocksFor p1 h = some (v, h')) : Z l C mi m_X_blocksFor 0 0 [(0, vi p1)] [] h (some (vi v)) h' := by
  unfold f_X_blocksFor at hf
  refine z_iload_n 0 d_X_blocksFor_0 rfl rfl ?_
  refine z_iconst (v := (2 : Int32)) d_X_blocksFor_1 rfl ?_
  refine z_iadd d_X_blocksFor_2 ?_
  refine z_iconst (v := (1 : Int32)) d_X_blocksFor_3 rfl ?_
  refine z_isub d_X_blocksFor_4 ?_
  refine z_iconst (v := (2 : Int32)) d_X_blocksFor_5 rfl ?_
  refine z_idiv d_X_blocksFor_6 (by decide) ?_
  obtain ⟨rfl, rfl⟩ := Prod.mk.inj (Option.some.inj hf)
  exact z_ret d_X_blocksFor_7 rfl
theorem c_X_blocksFor {l : Launch} {C : Ct} {mi : Nat} {p1 : Int32} {h h' : Hp} {v : Int32} (hf : f_X_blocksFor p1 h = some (v, h')) : Mt l C mi m_X_blocksFor 0 [vi p1] h (some (vi v)) h' := mt_I (ty := .int) rfl rfl rfl (by decide) (Nat.le_of_ble_eq_true rfl) (zf_X_blocksFor hf)
-- VersionMaps$Chunk.<init>(III)V
def m_K_init : Mi := (⟨"VersionMaps$Chunk", "<init>", "(III)V"⟩, prog_3_method_1_code, 4, (Option.none : Option Jvm.ClassFile.FieldType), .return_)
theorem cw_K_init : cw_ok m_K_init 3 := ⟨by decide +kernel, by decide +kernel, by decide +kernel, by decide +kernel⟩
theorem im_K_init : Cond.instanceMethod m_K_init.1 ∈ lw_w := by decide +kernel
theorem d_K_init_0 : decode prog_3_method_1_code 0 = .ok (.aload_n 0, 1) := by decide +kernel
theorem d_K_init_1 : decode prog_3_method_1_code 1 = .ok (.invokespecial 1, 3) := by decide +kernel
theorem d_K_init_4 : decode prog_3_method_1_code 4 = .ok (.aload_n 0, 1) := by decide +kernel
theorem d_K_init_5 : decode prog_3_method_1_code 5 = .ok (.iconst 0, 1) := by decide +kernel
theorem d_K_init_6 : decode prog_3_method_1_code 6 = .ok (.putfield 7, 3) := by decide +kernel
theorem d_K_init_9 : decode prog_3_method_1_code 9 = .ok (.aload_n 0, 1) := by decide +kernel
theorem d_K_init_10 : decode prog_3_method_1_code 10 = .ok (.aconst_null, 1) := by decide +kernel
theorem d_K_init_11 : decode prog_3_method_1_code 11 = .ok (.putfield 13, 3) := by decide +kernel
theorem d_K_init_14 : decode prog_3_method_1_code 14 = .ok (.aload_n 0, 1) := by decide +kernel
theorem d_K_init_15 : decode prog_3_method_1_code 15 = .ok (.iload_n 1, 1) := by decide +kernel
theorem d_K_init_16 : decode prog_3_method_1_code 16 = .ok (.putfield 17, 3) := by decide +kernel
theorem d_K_init_19 : decode prog_3_method_1_code 19 = .ok (.aload_n 0, 1) := by decide +kernel
theorem d_K_init_20 : decode prog_3_method_1_code 20 = .ok (.iload_n 2, 1) := by decide +kernel
theorem d_K_init_21 : decode prog_3_method_1_code 21 = .ok (.putfield 20, 3) := by decide +kernel
theorem d_K_init_24 : decode prog_3_method_1_code 24 = .ok (.aload_n 0, 1) := by decide +kernel
theorem d_K_init_25 : decode prog_3_method_1_code 25 = .ok (.iload_n 3, 1) := by decide +kernel
theorem d_K_init_26 : decode prog_3_method_1_code 26 = .ok (.anewarray 23, 3) := by decide +kernel
theorem d_K_init_29 : decode prog_3_method_1_code 29 = .ok (.putfield 25, 3) := by decide +kernel
theorem d_K_init_32 : decode prog_3_method_1_code 32 = .ok (.return_, 1) := by decide +kernel
def f_K_init (a0 : Nat) (p1 : Int32) (p2 : Int32) (p3 : Int32) (h : Hp) : Option Hp :=
  gd (isK h a0 2) (nm (wI h a0 3 (0 : Int32)) fun h2 => nm (wR h2 a0 4 none) fun h4 => nm (wI h4 a0 0 p1) fun h6 => nm (wI h6 a0 1 p2) fun h8 => gd (lnB p3) (nm (nw h8 103 p3.toNatClampNeg p3.toNatClampNeg) fun h11 => gd (isK h11 a0 2) (nm (wR h11 a0 2 (some (hpN h8))) fun h14 => some h14)))
set_option maxRecDepth 100000 in
set_option maxHeartbeats 4000000 in
theorem zf_K_init {l : Launch} {C : Ct} {mi : Nat} {a0 : Nat} {p1 : Int32} {p2 : Int32} {p3 : Int32} {h h' : Hp} (hf : f_K_init a0 p1 p2 p3 h = some h') : Z l C mi m_K_init 1 0 [(0, vr (some a0)), (1, vi p1), (2, vi p2), (3, vi p3)] [] h none h' := by
  unfold f_K_init at hf
  refine z_aload_n 0 d_K_init_0 rfl rfl ?_
  refine z_oinit d_K_init_1 (by decide +kernel) rfl (by decide) (Nat.le_of_ble_eq_true rfl) ?_
  refine z_aload_n 0 d_K_init_4 rfl rfl ?_
  refine z_iconst (v := (0 : Int32)) d_K_init_5 rfl ?_
  obtain ⟨g1, hf⟩ := gd_some hf
  obtain ⟨h2, eh3, hf⟩ := nm_some hf
  refine z_putI d_K_init_6 (fl_K (isK_eq g1) fl_K_7_2) (pu_K (isK_eq g1) (fun q hq => by cases (Option.some.inj hq); exact Or.inl rfl)) (fi_K (isK_eq g1) rfl) rfl ?_
  refine z_hp eh3 ?_
  refine z_aload_n 0 d_K_init_9 rfl rfl ?_
  refine z_aconst_null d_K_init_10 ?_
  obtain ⟨h4, eh5, hf⟩ := nm_some hf
  refine z_putR d_K_init_11 (fl_K (isK_eq (isK_wI eh3 g1)) fl_K_13_2) (pu_K (isK_eq (isK_wI eh3 g1)) (fun q hq => by cases (Option.some.inj hq); exact Or.inl rfl)) (fi_K (isK_eq (isK_wI eh3 g1)) rfl) rfl ?_
  refine z_hp eh5 ?_
  refine z_aload_n 0 d_K_init_14 rfl rfl ?_
  refine z_iload_n 1 d_K_init_15 rfl rfl ?_
  obtain ⟨h6, eh7, hf⟩ := nm_some hf
  refine z_putI d_K_init_16 (fl_K (isK_eq (isK_wR eh5 (isK_wI eh3 g1))) fl_K_17_2) (pu_K (isK_eq (isK_wR eh5 (isK_wI eh3 g1))) (fun q hq => by cases (Option.some.inj hq); exact Or.inr ⟨rfl, rfl⟩)) (fi_K (isK_eq (isK_wR eh5 (isK_wI eh3 g1))) rfl) rfl ?_
  refine z_hp eh7 ?_
  refine z_aload_n 0 d_K_init_19 rfl rfl ?_
  refine z_iload_n 2 d_K_init_20 rfl rfl ?_
  obtain ⟨h8, eh9, hf⟩ := nm_some hf
  refine z_putI d_K_init_21 (fl_K (isK_eq (isK_wI eh7 (isK_wR eh5 (isK_wI eh3 g1)))) fl_K_20_2) (pu_K (isK_eq (isK_wI eh7 (isK_wR eh5 (isK_wI eh3 g1)))) (fun q hq => by cases (Option.some.inj hq); exact Or.inr ⟨rfl, rfl⟩)) (fi_K (isK_eq (isK_wI eh7 (isK_wR eh5 (isK_wI eh3 g1)))) rfl) rfl ?_
  refine z_hp eh9 ?_
  refine z_aload_n 0 d_K_init_24 rfl rfl ?_
  refine z_iload_n 3 d_K_init_25 rfl rfl ?_
  obtain ⟨g10, hf⟩ := gd_some hf
  obtain ⟨h11, eh12, hf⟩ := nm_some hf
  refine z_newR (N := p3.toNatClampNeg) (κ := 103) (t := 3) d_K_init_26 (by decide +kernel) (by decide +kernel) (by decide) (by decide) rfl (lnB_eq g10).1 rfl (lnB_eq g10).2 ?_
  refine z_hp eh12 ?_
  obtain ⟨g13, hf⟩ := gd_some hf
  obtain ⟨h14, eh15, hf⟩ := nm_some hf
  refine z_putR d_K_init_29 (fl_K (isK_eq g13) fl_K_25_2) (pu_K (isK_eq g13) (fun q hq => by cases (Option.some.inj hq); exact Or.inr ⟨rfl, rfl⟩)) (fi_K (isK_eq g13) rfl) rfl ?_
  refine z_hp eh15 ?_
  cases (Option.some.inj hf)
  exact z_ret d_K_init_32 rfl
theorem c_K_init {l : Launch} {C : Ct} {mi : Nat} {a0 : Nat} {p1 : Int32} {p2 : Int32} {p3 : Int32} {h h' : Hp} (hf : f_K_init a0 p1 p2 p3 h = some h') : Mt l C mi m_K_init 1 [vr (some a0), vi p1, vi p2, vi p3] h none h' := mt_V rfl rfl (by decide) (Nat.le_of_ble_eq_true rfl) (zf_K_init hf)
-- VersionMaps$Page.<init>()V
def m_G_init : Mi := (⟨"VersionMaps$Page", "<init>", "()V"⟩, prog_6_method_1_code, 1, (Option.none : Option Jvm.ClassFile.FieldType), .return_)
theorem cw_G_init : cw_ok m_G_init 0 := ⟨by decide +kernel, by decide +kernel, by decide +kernel, by decide +kernel⟩
theorem im_G_init : Cond.instanceMethod m_G_init.1 ∈ lw_w := by decide +kernel
theorem d_G_init_0 : decode prog_6_method_1_code 0 = .ok (.aload_n 0, 1) := by decide +kernel
theorem d_G_init_1 : decode prog_6_method_1_code 1 = .ok (.invokespecial 1, 3) := by decide +kernel
theorem d_G_init_4 : decode prog_6_method_1_code 4 = .ok (.aload_n 0, 1) := by decide +kernel
theorem d_G_init_5 : decode prog_6_method_1_code 5 = .ok (.aconst_null, 1) := by decide +kernel
theorem d_G_init_6 : decode prog_6_method_1_code 6 = .ok (.putfield 7, 3) := by decide +kernel
theorem d_G_init_9 : decode prog_6_method_1_code 9 = .ok (.aload_n 0, 1) := by decide +kernel
theorem d_G_init_10 : decode prog_6_method_1_code 10 = .ok (.iconst 0, 1) := by decide +kernel
theorem d_G_init_11 : decode prog_6_method_1_code 11 = .ok (.putfield 13, 3) := by decide +kernel
theorem d_G_init_14 : decode prog_6_method_1_code 14 = .ok (.aload_n 0, 1) := by decide +kernel
theorem d_G_init_15 : decode prog_6_method_1_code 15 = .ok (.iconst 0, 1) := by decide +kernel
theorem d_G_init_16 : decode prog_6_method_1_code 16 = .ok (.putfield 17, 3) := by decide +kernel
theorem d_G_init_19 : decode prog_6_method_1_code 19 = .ok (.return_, 1) := by decide +kernel
def f_G_init (a0 : Nat) (h : Hp) : Option Hp :=
  gd (isPg h a0) (nm (wR h a0 0 none) fun h2 => nm (wI h2 a0 1 (0 : Int32)) fun h4 => nm (wI h4 a0 2 (0 : Int32)) fun h6 => some h6)
set_option maxRecDepth 100000 in
set_option maxHeartbeats 4000000 in
theorem zf_G_init {l : Launch} {C : Ct} {mi : Nat} {a0 : Nat} {h h' : Hp} (hf : f_G_init a0 h = some h') : Z l C mi m_G_init 1 0 [(0, vr (some a0))] [] h none h' := by
  unfold f_G_init at hf
  refine z_aload_n 0 d_G_init_0 rfl rfl ?_
  refine z_oinit d_G_init_1 (by decide +kernel) rfl (by decide) (Nat.le_of_ble_eq_true rfl) ?_
  refine z_aload_n 0 d_G_init_4 rfl rfl ?_
  refine z_aconst_null d_G_init_5 ?_
  obtain ⟨g1, hf⟩ := gd_some hf
  obtain ⟨h2, eh3, hf⟩ := nm_some hf
  refine z_putR d_G_init_6 (fl_P g1 fl_G_7_3 fl_G_7_4 fl_G_7_6) (pu_P g1 (fun q hq => by cases (Option.some.inj hq); exact Or.inl rfl) (fun q hq => by cases (Option.some.inj hq); exact Or.inl rfl) (fun q hq => by cases (Option.some.inj hq); exact Or.inl rfl)) (fi_P g1 rfl rfl rfl) rfl ?_
  refine z_hp eh3 ?_
  refine z_aload_n 0 d_G_init_9 rfl rfl ?_
  refine z_iconst (v := (0 : Int32)) d_G_init_10 rfl ?_
  obtain ⟨h4, eh5, hf⟩ := nm_some hf
  refine z_putI d_G_init_11 (fl_P (isPg_wR eh3 g1) fl_G_13_3 fl_G_13_4 fl_G_13_6) (pu_P (isPg_wR eh3 g1) (fun q hq => by cases (Option.some.inj hq); exact Or.inl rfl) (fun q hq => by cases (Option.some.inj hq); exact Or.inl rfl) (fun q hq => by cases (Option.some.inj hq); exact Or.inl rfl)) (fi_P (isPg_wR eh3 g1) rfl rfl rfl) rfl ?_
  refine z_hp eh5 ?_
  refine z_aload_n 0 d_G_init_14 rfl rfl ?_
  refine z_iconst (v := (0 : Int32)) d_G_init_15 rfl ?_
  obtain ⟨h6, eh7, hf⟩ := nm_some hf
  refine z_putI d_G_init_16 (fl_P (isPg_wI eh5 (isPg_wR eh3 g1)) fl_G_17_3 fl_G_17_4 fl_G_17_6) (pu_P (isPg_wI eh5 (isPg_wR eh3 g1)) (fun q hq => by cases (Option.some.inj hq); exact Or.inl rfl) (fun q hq => by cases (Option.some.inj hq); exact Or.inl rfl) (fun q hq => by cases (Option.some.inj hq); exact Or.inl rfl)) (fi_P (isPg_wI eh5 (isPg_wR eh3 g1)) rfl rfl rfl) rfl ?_
  refine z_hp eh7 ?_
  cases (Option.some.inj hf)
  exact z_ret d_G_init_19 rfl
theorem c_G_init {l : Launch} {C : Ct} {mi : Nat} {a0 : Nat} {h h' : Hp} (hf : f_G_init a0 h = some h') : Mt l C mi m_G_init 1 [vr (some a0)] h none h' := mt_V rfl rfl (by decide) (Nat.le_of_ble_eq_true rfl) (zf_G_init hf)
-- VersionMaps$Meta.<init>(I)V
def m_E_init : Mi := (⟨"VersionMaps$Meta", "<init>", "(I)V"⟩, prog_5_method_1_code, 2, (Option.none : Option Jvm.ClassFile.FieldType), .return_)
theorem cw_E_init : cw_ok m_E_init 1 := ⟨by decide +kernel, by decide +kernel, by decide +kernel, by decide +kernel⟩
theorem im_E_init : Cond.instanceMethod m_E_init.1 ∈ lw_w := by decide +kernel
theorem d_E_init_0 : decode prog_5_method_1_code 0 = .ok (.aload_n 0, 1) := by decide +kernel
theorem d_E_init_1 : decode prog_5_method_1_code 1 = .ok (.invokespecial 3, 3) := by decide +kernel
theorem d_E_init_4 : decode prog_5_method_1_code 4 = .ok (.aload_n 0, 1) := by decide +kernel
theorem d_E_init_5 : decode prog_5_method_1_code 5 = .ok (.iconst 4, 1) := by decide +kernel
theorem d_E_init_6 : decode prog_5_method_1_code 6 = .ok (.anewarray 9, 3) := by decide +kernel
theorem d_E_init_9 : decode prog_5_method_1_code 9 = .ok (.putfield 11, 3) := by decide +kernel
theorem d_E_init_12 : decode prog_5_method_1_code 12 = .ok (.aload_n 0, 1) := by decide +kernel
theorem d_E_init_13 : decode prog_5_method_1_code 13 = .ok (.iload_n 1, 1) := by decide +kernel
theorem d_E_init_14 : decode prog_5_method_1_code 14 = .ok (.putfield 17, 3) := by decide +kernel
theorem d_E_init_17 : decode prog_5_method_1_code 17 = .ok (.return_, 1) := by decide +kernel
def f_E_init (a0 : Nat) (p1 : Int32) (h : Hp) : Option Hp :=
  cv (f_G_init a0 h) fun h1 => nm (nw h1 104 4 4) fun h3 => gd (isK h3 a0 4) (nm (wR h3 a0 4 (some (hpN h1))) fun h6 => nm (wI h6 a0 3 p1) fun h8 => some h8)
set_option maxRecDepth 100000 in
set_option maxHeartbeats 4000000 in
theorem zf_E_init {l : Launch} {C : Ct} {mi : Nat} {a0 : Nat} {p1 : Int32} {h h' : Hp} (hf : f_E_init a0 p1 h = some h') : Z l C mi m_E_init 2 0 [(0, vr (some a0)), (1, vi p1)] [] h none h' := by
  unfold f_E_init at hf
  refine z_aload_n 0 d_E_init_0 rfl rfl ?_
  obtain ⟨h1, ec2, hf⟩ := cv_some hf
  refine z_callIN (host := "VersionMaps") (c_G_init ec2) d_E_init_1 rfl cw_G_init lk_E_3 im_G_init rfl ⟨by decide, by decide⟩ (Nat.le_of_ble_eq_true rfl) rfl ?_
  refine z_aload_n 0 d_E_init_4 rfl rfl ?_
  refine z_iconst (v := (4 : Int32)) d_E_init_5 rfl ?_
  obtain ⟨h3, eh4, hf⟩ := nm_some hf
  refine z_newR (N := 4) (κ := 104) (t := 4) d_E_init_6 (by decide +kernel) (by decide +kernel) (by decide) (by decide) rfl (by decide) (by decide) (by decide) ?_
  refine z_hp eh4 ?_
  obtain ⟨g5, hf⟩ := gd_some hf
  obtain ⟨h6, eh7, hf⟩ := nm_some hf
  refine z_putR d_E_init_9 (fl_K (isK_eq g5) fl_E_11_4) (pu_K (isK_eq g5) (fun q hq => by cases (Option.some.inj hq); exact Or.inr ⟨rfl, rfl⟩)) (fi_K (isK_eq g5) rfl) rfl ?_
  refine z_hp eh7 ?_
  refine z_aload_n 0 d_E_init_12 rfl rfl ?_
  refine z_iload_n 1 d_E_init_13 rfl rfl ?_
  obtain ⟨h8, eh9, hf⟩ := nm_some hf
  refine z_putI d_E_init_14 (fl_K (isK_eq (isK_wR eh7 g5)) fl_E_17_4) (pu_K (isK_eq (isK_wR eh7 g5)) (fun q hq => by cases (Option.some.inj hq); exact Or.inr ⟨rfl, rfl⟩)) (fi_K (isK_eq (isK_wR eh7 g5)) rfl) rfl ?_
  refine z_hp eh9 ?_
  cases (Option.some.inj hf)
  exact z_ret d_E_init_17 rfl
theorem c_E_init {l : Launch} {C : Ct} {mi : Nat} {a0 : Nat} {p1 : Int32} {h h' : Hp} (hf : f_E_init a0 p1 h = some h') : Mt l C mi m_E_init 2 [vr (some a0), vi p1] h none h' := mt_V rfl rfl (by decide) (Nat.le_of_ble_eq_true rfl) (zf_E_init hf)
-- VersionMaps$Root.<init>()V
def m_O_init : Mi := (⟨"VersionMaps$Root", "<init>", "()V"⟩, prog_8_method_1_code, 1, (Option.none : Option Jvm.ClassFile.FieldType), .return_)
theorem cw_O_init : cw_ok m_O_init 0 := ⟨by decide +kernel, by decide +kernel, by decide +kernel, by decide +kernel⟩
theorem im_O_init : Cond.instanceMethod m_O_init.1 ∈ lw_w := by decide +kernel
theorem d_O_init_0 : decode prog_8_method_1_code 0 = .ok (.aload_n 0, 1) := by decide +kernel
theorem d_O_init_1 : decode prog_8_method_1_code 1 = .ok (.invokespecial 3, 3) := by decide +kernel
theorem d_O_init_4 : decode prog_8_method_1_code 4 = .ok (.aload_n 0, 1) := by decide +kernel
theorem d_O_init_5 : decode prog_8_method_1_code 5 = .ok (.iconst 4, 1) := by decide +kernel
theorem d_O_init_6 : decode prog_8_method_1_code 6 = .ok (.anewarray 9, 3) := by decide +kernel
theorem d_O_init_9 : decode prog_8_method_1_code 9 = .ok (.putfield 11, 3) := by decide +kernel
theorem d_O_init_12 : decode prog_8_method_1_code 12 = .ok (.return_, 1) := by decide +kernel
def f_O_init (a0 : Nat) (h : Hp) : Option Hp :=
  cv (f_G_init a0 h) fun h1 => nm (nw h1 105 4 4) fun h3 => gd (isK h3 a0 6) (nm (wR h3 a0 3 (some (hpN h1))) fun h6 => some h6)
set_option maxRecDepth 100000 in
set_option maxHeartbeats 4000000 in
theorem zf_O_init {l : Launch} {C : Ct} {mi : Nat} {a0 : Nat} {h h' : Hp} (hf : f_O_init a0 h = some h') : Z l C mi m_O_init 2 0 [(0, vr (some a0))] [] h none h' := by
  unfold f_O_init at hf
  refine z_aload_n 0 d_O_init_0 rfl rfl ?_
  obtain ⟨h1, ec2, hf⟩ := cv_some hf
  refine z_callIN (host := "VersionMaps") (c_G_init ec2) d_O_init_1 rfl cw_G_init lk_O_3 im_G_init rfl ⟨by decide, by decide⟩ (Nat.le_of_ble_eq_true rfl) rfl ?_
  refine z_aload_n 0 d_O_init_4 rfl rfl ?_
  refine z_iconst (v := (4 : Int32)) d_O_init_5 rfl ?_
  obtain ⟨h3, eh4, hf⟩ := nm_some hf
  refine z_newR (N := 4) (κ := 105) (t := 5) d_O_init_6 (by decide +kernel) (by decide +kernel) (by decide) (by decide) rfl (by decide) (by decide) (by decide) ?_
  refine z_hp eh4 ?_
  obtain ⟨g5, hf⟩ := gd_some hf
  obtain ⟨h6, eh7, hf⟩ := nm_some hf
  refine z_putR d_O_init_9 (fl_K (isK_eq g5) fl_O_11_6) (pu_K (isK_eq g5) (fun q hq => by cases (Option.some.inj hq); exact Or.inr ⟨rfl, rfl⟩)) (fi_K (isK_eq g5) rfl) rfl ?_
  refine z_hp eh7 ?_
  cases (Option.some.inj hf)
  exact z_ret d_O_init_12 rfl
theorem c_O_init {l : Launch} {C : Ct} {mi : Nat} {a0 : Nat} {h h' : Hp} (hf : f_O_init a0 h = some h') : Mt l C mi m_O_init 2 [vr (some a0)] h none h' := mt_V rfl rfl (by decide) (Nat.le_of_ble_eq_true rfl) (zf_O_init hf)
-- VersionMaps$Leaf.<init>()V
def m_L_init : Mi := (⟨"VersionMaps$Leaf", "<init>", "()V"⟩, prog_4_method_1_code, 1, (Option.none : Option Jvm.ClassFile.FieldType), .return_)
theorem cw_L_init : cw_ok m_L_init 0 := ⟨by decide +kernel, by decide +kernel, by decide +kernel, by decide +kernel⟩
theorem im_L_init : Cond.instanceMethod m_L_init.1 ∈ lw_w := by decide +kernel
theorem d_L_init_0 : decode prog_4_method_1_code 0 = .ok (.aload_n 0, 1) := by decide +kernel
theorem d_L_init_1 : decode prog_4_method_1_code 1 = .ok (.invokespecial 3, 3) := by decide +kernel
theorem d_L_init_4 : decode prog_4_method_1_code 4 = .ok (.aload_n 0, 1) := by decide +kernel
theorem d_L_init_5 : decode prog_4_method_1_code 5 = .ok (.bipush 8, 2) := by decide +kernel
theorem d_L_init_7 : decode prog_4_method_1_code 7 = .ok (.newarray .int, 2) := by decide +kernel
theorem d_L_init_9 : decode prog_4_method_1_code 9 = .ok (.putfield 9, 3) := by decide +kernel
theorem d_L_init_12 : decode prog_4_method_1_code 12 = .ok (.aload_n 0, 1) := by decide +kernel
theorem d_L_init_13 : decode prog_4_method_1_code 13 = .ok (.iconst 0, 1) := by decide +kernel
theorem d_L_init_14 : decode prog_4_method_1_code 14 = .ok (.putfield 15, 3) := by decide +kernel
theorem d_L_init_17 : decode prog_4_method_1_code 17 = .ok (.return_, 1) := by decide +kernel
def f_L_init (a0 : Nat) (h : Hp) : Option Hp :=
  cv (f_G_init a0 h) fun h1 => nm (nw h1 106 8 8) fun h3 => gd (isK h3 a0 3) (nm (wR h3 a0 3 (some (hpN h1))) fun h6 => nm (wI h6 a0 4 (0 : Int32)) fun h8 => some h8)
set_option maxRecDepth 100000 in
set_option maxHeartbeats 4000000 in
theorem zf_L_init {l : Launch} {C : Ct} {mi : Nat} {a0 : Nat} {h h' : Hp} (hf : f_L_init a0 h = some h') : Z l C mi m_L_init 2 0 [(0, vr (some a0))] [] h none h' := by
  unfold f_L_init at hf
  refine z_aload_n 0 d_L_init_0 rfl rfl ?_
  obtain ⟨h1, ec2, hf⟩ := cv_some hf
  refine z_callIN (host := "VersionMaps") (c_G_init ec2) d_L_init_1 rfl cw_G_init lk_L_3 im_G_init rfl ⟨by decide, by decide⟩ (Nat.le_of_ble_eq_true rfl) rfl ?_
  refine z_aload_n 0 d_L_init_4 rfl rfl ?_
  refine z_bipush (v := (8 : Int32)) d_L_init_5 (by decide) ?_
  obtain ⟨h3, eh4, hf⟩ := nm_some hf
  refine z_newI (N := 8) (κ := 106) d_L_init_7 (by decide) rfl (by decide) (by decide) (by decide) ?_
  refine z_hp eh4 ?_
  obtain ⟨g5, hf⟩ := gd_some hf
  obtain ⟨h6, eh7, hf⟩ := nm_some hf
  refine z_putR d_L_init_9 (fl_K (isK_eq g5) fl_L_9_3) (pu_K (isK_eq g5) (fun q hq => by cases (Option.some.inj hq); exact Or.inr ⟨rfl, rfl⟩)) (fi_K (isK_eq g5) rfl) rfl ?_
  refine z_hp eh7 ?_
  refine z_aload_n 0 d_L_init_12 rfl rfl ?_
  refine z_iconst (v := (0 : Int32)) d_L_init_13 rfl ?_
  obtain ⟨h8, eh9, hf⟩ := nm_some hf
  refine z_putI d_L_init_14 (fl_K (isK_eq (isK_wR eh7 g5)) fl_L_15_3) (pu_K (isK_eq (isK_wR eh7 g5)) (fun q hq => by cases (Option.some.inj hq); exact Or.inl rfl)) (fi_K (isK_eq (isK_wR eh7 g5)) rfl) rfl ?_
  refine z_hp eh9 ?_
  cases (Option.some.inj hf)
  exact z_ret d_L_init_17 rfl
theorem c_L_init {l : Launch} {C : Ct} {mi : Nat} {a0 : Nat} {h h' : Hp} (hf : f_L_init a0 h = some h') : Mt l C mi m_L_init 2 [vr (some a0)] h none h' := mt_V rfl rfl (by decide) (Nat.le_of_ble_eq_true rfl) (zf_L_init hf)
-- VersionMaps$Chunk.append(LVersionMaps$Page;)V
def m_K_append : Mi := (⟨"VersionMaps$Chunk", "append", "(LVersionMaps$Page;)V"⟩, prog_3_method_2_code, 2, (Option.none : Option Jvm.ClassFile.FieldType), .return_)
theorem cw_K_append : cw_ok m_K_append 1 := ⟨by decide +kernel, by decide +kernel, by decide +kernel, by decide +kernel⟩
theorem im_K_append : Cond.instanceMethod m_K_append.1 ∈ lw_w := by decide +kernel
theorem se_K_append : Cond.selects "VersionMaps$Chunk" m_K_append.1 m_K_append.1 ∈ lw_w := by decide +kernel
theorem d_K_append_0 : decode prog_3_method_2_code 0 = .ok (.aload_n 1, 1) := by decide +kernel
theorem d_K_append_1 : decode prog_3_method_2_code 1 = .ok (.aload_n 0, 1) := by decide +kernel
theorem d_K_append_2 : decode prog_3_method_2_code 2 = .ok (.putfield 29, 3) := by decide +kernel
theorem d_K_append_5 : decode prog_3_method_2_code 5 = .ok (.aload_n 1, 1) := by decide +kernel
theorem d_K_append_6 : decode prog_3_method_2_code 6 = .ok (.aload_n 0, 1) := by decide +kernel
theorem d_K_append_7 : decode prog_3_method_2_code 7 = .ok (.getfield 7, 3) := by decide +kernel
theorem d_K_append_10 : decode prog_3_method_2_code 10 = .ok (.putfield 33, 3) := by decide +kernel
theorem d_K_append_13 : decode prog_3_method_2_code 13 = .ok (.aload_n 0, 1) := by decide +kernel
theorem d_K_append_14 : decode prog_3_method_2_code 14 = .ok (.getfield 25, 3) := by decide +kernel
theorem d_K_append_17 : decode prog_3_method_2_code 17 = .ok (.aload_n 0, 1) := by decide +kernel
theorem d_K_append_18 : decode prog_3_method_2_code 18 = .ok (.getfield 7, 3) := by decide +kernel
theorem d_K_append_21 : decode prog_3_method_2_code 21 = .ok (.aload_n 1, 1) := by decide +kernel
theorem d_K_append_22 : decode prog_3_method_2_code 22 = .ok (.aastore, 1) := by decide +kernel
theorem d_K_append_23 : decode prog_3_method_2_code 23 = .ok (.aload_n 0, 1) := by decide +kernel
theorem d_K_append_24 : decode prog_3_method_2_code 24 = .ok (.dup, 1) := by decide +kernel
theorem d_K_append_25 : decode prog_3_method_2_code 25 = .ok (.getfield 7, 3) := by decide +kernel
theorem d_K_append_28 : decode prog_3_method_2_code 28 = .ok (.iconst 1, 1) := by decide +kernel
theorem d_K_append_29 : decode prog_3_method_2_code 29 = .ok (.iadd, 1) := by decide +kernel
theorem d_K_append_30 : decode prog_3_method_2_code 30 = .ok (.putfield 7, 3) := by decide +kernel
theorem d_K_append_33 : decode prog_3_method_2_code 33 = .ok (.return_, 1) := by decide +kernel
def f_K_append (a0 : Nat) (p1 : Option Nat) (h : Hp) : Option Hp :=
  dr p1 fun a1 => gd (isPg h a1) (nm (wR h a1 0 (some a0)) fun h4 => gd (isK h4 a0 2) (nm (wI h4 a1 1 (hpI h4 a0 3)) fun h7 => dr (hpR h7 a0 2) fun a9 => gd (isO h7 a9 3) (gd (inb (hpI h7 a0 3) (hpL h7 a9)) (gd (asV h7 p1 a9) (nm (wR h7 a9 (hpI h7 a0 3).toNatClampNeg p1) fun h14 => nm (wI h14 a0 3 ((hpI h14 a0 3) + (1 : Int32))) fun h16 => some h16)))))
set_option maxRecDepth 100000 in
set_option maxHeartbeats 4000000 in
theorem zf_K_append {l : Launch} {C : Ct} {mi : Nat} {a0 : Nat} {p1 : Option Nat} {h h' : Hp} (hf : f_K_append a0 p1 h = some h') : Z l C mi m_K_append 0 0 [(0, vr (some a0)), (1, vr p1)] [] h none h' := by
  unfold f_K_append at hf
  refine z_aload_n 1 d_K_append_0 rfl rfl ?_
  refine z_aload_n 0 d_K_append_1 rfl rfl ?_
  obtain ⟨a1, e2, hf⟩ := dr_some hf
  obtain ⟨g3, hf⟩ := gd_some hf
  obtain ⟨h4, eh5, hf⟩ := nm_some hf
  refine z_putR d_K_append_2 (fl_P g3 fl_K_29_3 fl_K_29_4 fl_K_29_6) (pu_P g3 (fun q hq => by cases (Option.some.inj hq); exact Or.inl rfl) (fun q hq => by cases (Option.some.inj hq); exact Or.inl rfl) (fun q hq => by cases (Option.some.inj hq); exact Or.inl rfl)) (fi_P g3 rfl rfl rfl) e2 ?_
  refine z_hp eh5 ?_
  refine z_aload_n 1 d_K_append_5 rfl rfl ?_
  refine z_aload_n 0 d_K_append_6 rfl rfl ?_
  obtain ⟨g6, hf⟩ := gd_some hf
  refine z_getI d_K_append_7 (fl_K (isK_eq g6) fl_K_7_2) (fi_K (isK_eq g6) rfl) rfl ?_
  obtain ⟨h7, eh8, hf⟩ := nm_some hf
  refine z_putI d_K_append_10 (fl_P (isPg_wR eh5 g3) fl_K_33_3 fl_K_33_4 fl_K_33_6) (pu_P (isPg_wR eh5 g3) (fun q hq => by cases (Option.some.inj hq); exact Or.inl rfl) (fun q hq => by cases (Option.some.inj hq); exact Or.inl rfl) (fun q hq => by cases (Option.some.inj hq); exact Or.inl rfl)) (fi_P (isPg_wR eh5 g3) rfl rfl rfl) e2 ?_
  refine z_hp eh8 ?_
  refine z_aload_n 0 d_K_append_13 rfl rfl ?_
  refine z_getR d_K_append_14 (fl_K (isK_eq (isK_wI eh8 g6)) fl_K_25_2) (fi_K (isK_eq (isK_wI eh8 g6)) rfl) rfl ?_
  refine z_aload_n 0 d_K_append_17 rfl rfl ?_
  refine z_getI d_K_append_18 (fl_K (isK_eq (isK_wI eh8 g6)) fl_K_7_2) (fi_K (isK_eq (isK_wI eh8 g6)) rfl) rfl ?_
  refine z_aload_n 1 d_K_append_21 rfl rfl ?_
  obtain ⟨a9, e10, hf⟩ := dr_some hf
  obtain ⟨g11, hf⟩ := gd_some hf
  obtain ⟨g12, hf⟩ := gd_some hf
  obtain ⟨g13, hf⟩ := gd_some hf
  obtain ⟨h14, eh15, hf⟩ := nm_some hf
  refine z_aast d_K_append_22 e10 (isO_eq g11).1 (by rw [(isO_eq g11).2]; decide) (asV_ok g13) (inb_vp g12) ?_
  refine z_hp eh15 ?_
  refine z_aload_n 0 d_K_append_23 rfl rfl ?_
  refine z_dup d_K_append_24 rfl ?_
  refine z_getI d_K_append_25 (fl_K (isK_eq (isK_wR eh15 (isK_wI eh8 g6))) fl_K_7_2) (fi_K (isK_eq (isK_wR eh15 (isK_wI eh8 g6))) rfl) rfl ?_
  refine z_iconst (v := (1 : Int32)) d_K_append_28 rfl ?_
  refine z_iadd d_K_append_29 ?_
  obtain ⟨h16, eh17, hf⟩ := nm_some hf
  refine z_putI d_K_append_30 (fl_K (isK_eq (isK_wR eh15 (isK_wI eh8 g6))) fl_K_7_2) (pu_K (isK_eq (isK_wR eh15 (isK_wI eh8 g6))) (fun q hq => by cases (Option.some.inj hq); exact Or.inl rfl)) (fi_K (isK_eq (isK_wR eh15 (isK_wI eh8 g6))) rfl) rfl ?_
  refine z_hp eh17 ?_
  cases (Option.some.inj hf)
  exact z_ret d_K_append_33 rfl
theorem c_K_append {l : Launch} {C : Ct} {mi : Nat} {a0 : Nat} {p1 : Option Nat} {h h' : Hp} (hf : f_K_append a0 p1 h = some h') : Mt l C mi m_K_append 0 [vr (some a0), vr p1] h none h' := mt_V rfl rfl (by decide) (Nat.le_of_ble_eq_true rfl) (zf_K_append hf)
-- VersionMaps$Present.writeLeaf(LVersionMaps$Chunk;II)LVersionMaps$Leaf;
def m_P_writeLeaf : Mi := (⟨"VersionMaps$Present", "writeLeaf", "(LVersionMaps$Chunk;II)LVersionMaps$Leaf;"⟩, prog_7_method_14_code, 5, (Option.some (Jvm.ClassFile.FieldType.object "VersionMaps$Leaf")), .areturn)
theorem cw_P_writeLeaf : cw_ok m_P_writeLeaf 3 := ⟨by decide +kernel, by decide +kernel, by decide +kernel, by decide +kernel⟩
theorem im_P_writeLeaf : Cond.instanceMethod m_P_writeLeaf.1 ∈ lw_w := by decide +kernel
theorem se_P_writeLeaf : Cond.selects "VersionMaps$Present" m_P_writeLeaf.1 m_P_writeLeaf.1 ∈ lw_w := by decide +kernel
theorem d_P_writeLeaf_0 : decode prog_7_method_14_code 0 = .ok (.new 52, 3) := by decide +kernel
theorem d_P_writeLeaf_3 : decode prog_7_method_14_code 3 = .ok (.dup, 1) := by decide +kernel
theorem d_P_writeLeaf_4 : decode prog_7_method_14_code 4 = .ok (.invokespecial 106, 3) := by decide +kernel
theorem d_P_writeLeaf_7 : decode prog_7_method_14_code 7 = .ok (.astore 4, 2) := by decide +kernel
theorem d_P_writeLeaf_9 : decode prog_7_method_14_code 9 = .ok (.aload 4, 2) := by decide +kernel
theorem d_P_writeLeaf_11 : decode prog_7_method_14_code 11 = .ok (.aload_n 0, 1) := by decide +kernel
theorem d_P_writeLeaf_12 : decode prog_7_method_14_code 12 = .ok (.iload_n 2, 1) := by decide +kernel
theorem d_P_writeLeaf_13 : decode prog_7_method_14_code 13 = .ok (.iload_n 3, 1) := by decide +kernel
theorem d_P_writeLeaf_14 : decode prog_7_method_14_code 14 = .ok (.invokevirtual 107, 3) := by decide +kernel
theorem d_P_writeLeaf_17 : decode prog_7_method_14_code 17 = .ok (.putfield 57, 3) := by decide +kernel
theorem d_P_writeLeaf_20 : decode prog_7_method_14_code 20 = .ok (.aload_n 0, 1) := by decide +kernel
theorem d_P_writeLeaf_21 : decode prog_7_method_14_code 21 = .ok (.getfield 9, 3) := by decide +kernel
theorem d_P_writeLeaf_24 : decode prog_7_method_14_code 24 = .ok (.bipush 32, 2) := by decide +kernel
theorem d_P_writeLeaf_26 : decode prog_7_method_14_code 26 = .ok (.iload_n 2, 1) := by decide +kernel
theorem d_P_writeLeaf_27 : decode prog_7_method_14_code 27 = .ok (.imul, 1) := by decide +kernel
theorem d_P_writeLeaf_28 : decode prog_7_method_14_code 28 = .ok (.bipush 8, 2) := by decide +kernel
theorem d_P_writeLeaf_30 : decode prog_7_method_14_code 30 = .ok (.iload_n 3, 1) := by decide +kernel
theorem d_P_writeLeaf_31 : decode prog_7_method_14_code 31 = .ok (.imul, 1) := by decide +kernel
theorem d_P_writeLeaf_32 : decode prog_7_method_14_code 32 = .ok (.iadd, 1) := by decide +kernel
theorem d_P_writeLeaf_33 : decode prog_7_method_14_code 33 = .ok (.aload 4, 2) := by decide +kernel
theorem d_P_writeLeaf_35 : decode prog_7_method_14_code 35 = .ok (.getfield 59, 3) := by decide +kernel
theorem d_P_writeLeaf_38 : decode prog_7_method_14_code 38 = .ok (.iconst 0, 1) := by decide +kernel
theorem d_P_writeLeaf_39 : decode prog_7_method_14_code 39 = .ok (.bipush 8, 2) := by decide +kernel
theorem d_P_writeLeaf_41 : decode prog_7_method_14_code 41 = .ok (.invokestatic 60, 3) := by decide +kernel
theorem d_P_writeLeaf_44 : decode prog_7_method_14_code 44 = .ok (.aload_n 1, 1) := by decide +kernel
theorem d_P_writeLeaf_45 : decode prog_7_method_14_code 45 = .ok (.aload 4, 2) := by decide +kernel
theorem d_P_writeLeaf_47 : decode prog_7_method_14_code 47 = .ok (.invokevirtual 102, 3) := by decide +kernel
theorem d_P_writeLeaf_50 : decode prog_7_method_14_code 50 = .ok (.aload 4, 2) := by decide +kernel
theorem d_P_writeLeaf_52 : decode prog_7_method_14_code 52 = .ok (.areturn, 1) := by decide +kernel
def f_P_writeLeaf (a0 : Nat) (p1 : Option Nat) (p2 : Int32) (p3 : Int32) (h : Hp) : Option (Option Nat × Hp) :=
  nm (nw h 3 0 5) fun h1 => cv (f_L_init (hpN h) h1) fun h3 => gd (isK h3 a0 5) (cl (f_P_leafKeys a0 p2 p3 h3) fun v8 h6 => gd (isK h6 (hpN h) 3) (nm (wI h6 (hpN h) 4 v8) fun h10 => gd (isK h10 a0 5) (dr (hpR h10 a0 0) fun a13 => dr (hpR h10 (hpN h) 3) fun a15 => gd (isA h10 a13 0) (gd (isO h10 a15 0) (gd (cpB h10 a13 a15 (((32 : Int32) * p2) + ((8 : Int32) * p3)) (0 : Int32) (8 : Int32)) (nm (cpI h10 a13 (((32 : Int32) * p2) + ((8 : Int32) * p3)).toNatClampNeg a15 (0 : Int32).toNatClampNeg (8 : Int32).toNatClampNeg) fun h20 => dr p1 fun a22 => gd (isK h20 a22 2) (cv (f_K_append a22 (some (hpN h)) h20) fun h25 => some ((some (hpN h)), h25))))))))
set_option maxRecDepth 100000 in
set_option maxHeartbeats 4000000 in
theorem zf_P_writeLeaf {l : Launch} {C : Ct} {mi : Nat} {a0 : Nat} {p1 : Option Nat} {p2 : Int32} {p3 : Int32} {h h' : Hp} {v : Option Nat} (hf : f_P_writeLeaf a0 p1 p2 p3 h = some (v, h')) : Z l C mi m_P_writeLeaf 3 0 [(0, vr (some a0)), (1, vr p1), (2, vi p2), (3, vi p3)] [] h (some (vr v)) h' := by
  unfold f_P_writeLeaf at hf
  obtain ⟨h1, eh2, hf⟩ := nm_some hf
  refine z_new (κ := 3) d_P_writeLeaf_0 rfl (by decide +kernel) ?_
  refine z_hp eh2 ?_
  refine z_dup d_P_writeLeaf_3 rfl ?_
  obtain ⟨h3, ec4, hf⟩ := cv_some hf
  refine z_callIN (host := "VersionMaps") (c_L_init ec4) d_P_writeLeaf_4 rfl cw_L_init lk_P_106 im_L_init rfl ⟨by decide, by decide⟩ (Nat.le_of_ble_eq_true rfl) rfl ?_
  refine z_astore (ls2 := [(4, vr (some (hpN h))), (0, vr (some a0)), (1, vr p1), (2, vi p2), (3, vi p3)]) d_P_writeLeaf_7 (by decide) rfl ?_
  refine z_aload 0 d_P_writeLeaf_9 rfl ?_
  refine z_aload_n 1 d_P_writeLeaf_11 rfl rfl ?_
  refine z_iload_n 3 d_P_writeLeaf_12 rfl rfl ?_
  refine z_iload_n 4 d_P_writeLeaf_13 rfl rfl ?_
  obtain ⟨g5, hf⟩ := gd_some hf
  obtain ⟨v8, h6, ec7, hf⟩ := cl_some hf
  refine z_callVx rfl (c_P_leafKeys ec7) d_P_writeLeaf_14 cw_P_leafKeys lk_P_107 im_P_leafKeys se_P_leafKeys (kc_K (isK_eq g5) kc_5) ⟨by decide, by decide⟩ (Nat.le_of_ble_eq_true rfl) rfl ?_
  obtain ⟨g9, hf⟩ := gd_some hf
  obtain ⟨h10, eh11, hf⟩ := nm_some hf
  refine z_putI d_P_writeLeaf_17 (fl_K (isK_eq g9) fl_P_57_3) (pu_K (isK_eq g9) (fun q hq => by cases (Option.some.inj hq); exact Or.inl rfl)) (fi_K (isK_eq g9) rfl) rfl ?_
  refine z_hp eh11 ?_
  refine z_aload_n 1 d_P_writeLeaf_20 rfl rfl ?_
  obtain ⟨g12, hf⟩ := gd_some hf
  refine z_getR d_P_writeLeaf_21 (fl_K (isK_eq g12) fl_P_9_5) (fi_K (isK_eq g12) rfl) rfl ?_
  refine z_bipush (v := (32 : Int32)) d_P_writeLeaf_24 (by decide) ?_
  refine z_iload_n 3 d_P_writeLeaf_26 rfl rfl ?_
  refine z_imul d_P_writeLeaf_27 ?_
  refine z_bipush (v := (8 : Int32)) d_P_writeLeaf_28 (by decide) ?_
  refine z_iload_n 4 d_P_writeLeaf_30 rfl rfl ?_
  refine z_imul d_P_writeLeaf_31 ?_
  refine z_iadd d_P_writeLeaf_32 ?_
  refine z_aload 0 d_P_writeLeaf_33 rfl ?_
  refine z_getR d_P_writeLeaf_35 (fl_K (isK_eq (isK_wI eh11 g9)) fl_P_59_3) (fi_K (isK_eq (isK_wI eh11 g9)) rfl) rfl ?_
  refine z_iconst (v := (0 : Int32)) d_P_writeLeaf_38 rfl ?_
  refine z_bipush (v := (8 : Int32)) d_P_writeLeaf_39 (by decide) ?_
  obtain ⟨a13, e14, hf⟩ := dr_some hf
  obtain ⟨a15, e16, hf⟩ := dr_some hf
  obtain ⟨g17, hf⟩ := gd_some hf
  obtain ⟨g18, hf⟩ := gd_some hf
  obtain ⟨g19, hf⟩ := gd_some hf
  obtain ⟨h20, eh21, hf⟩ := nm_some hf
  refine z_copyI d_P_writeLeaf_41 (show Cond.methodLink _ _ _ ∈ lw_w by decide +kernel) (by decide) (Nat.le_of_ble_eq_true rfl) e14 e16 (isA_eq g17).1 (isA_eq g17).2 (isO_eq g18).1 (isO_eq g18).2 (cpB_eq g19).1 (cpB_eq g19).2.1 (cpB_eq g19).2.2.1 (cpB_eq g19).2.2.2.1 (cpB_eq g19).2.2.2.2 ?_
  refine z_hp eh21 ?_
  refine z_aload_n 2 d_P_writeLeaf_44 rfl rfl ?_
  refine z_aload 0 d_P_writeLeaf_45 rfl ?_
  obtain ⟨a22, e23, hf⟩ := dr_some hf
  obtain ⟨g24, hf⟩ := gd_some hf
  obtain ⟨h25, ec26, hf⟩ := cv_some hf
  refine z_callVx e23 (c_K_append ec26) d_P_writeLeaf_47 cw_K_append lk_P_102 im_K_append se_K_append (kc_K (isK_eq g24) kc_2) ⟨by decide, by decide⟩ (Nat.le_of_ble_eq_true rfl) rfl ?_
  refine z_aload 0 d_P_writeLeaf_50 rfl ?_
  obtain ⟨rfl, rfl⟩ := Prod.mk.inj (Option.some.inj hf)
  exact z_ret d_P_writeLeaf_52 rfl
theorem c_P_writeLeaf {l : Launch} {C : Ct} {mi : Nat} {a0 : Nat} {p1 : Option Nat} {p2 : Int32} {p3 : Int32} {h h' : Hp} {v : Option Nat} (hf : f_P_writeLeaf a0 p1 p2 p3 h = some (v, h')) : Mt l C mi m_P_writeLeaf 3 [vr (some a0), vr p1, vi p2, vi p3] h (some (vr v)) h' := mt_R rfl (Or.inl ⟨_, rfl⟩) rfl (by decide) (Nat.le_of_ble_eq_true rfl) (zf_P_writeLeaf hf)
-- VersionMaps$Present.writeMap(LVersionMaps$Chunk;ILVersionMaps$Meta;)LVersionMaps$Root;
def m_P_writeMap : Mi := (⟨"VersionMaps$Present", "writeMap", "(LVersionMaps$Chunk;ILVersionMaps$Meta;)LVersionMaps$Root;"⟩, prog_7_method_13_code, 6, (Option.some (Jvm.ClassFile.FieldType.object "VersionMaps$Root")), .areturn)
theorem cw_P_writeMap : cw_ok m_P_writeMap 3 := ⟨by decide +kernel, by decide +kernel, by decide +kernel, by decide +kernel⟩
theorem im_P_writeMap : Cond.instanceMethod m_P_writeMap.1 ∈ lw_w := by decide +kernel
theorem se_P_writeMap : Cond.selects "VersionMaps$Present" m_P_writeMap.1 m_P_writeMap.1 ∈ lw_w := by decide +kernel
theorem d_P_writeMap_0 : decode prog_7_method_13_code 0 = .ok (.aload_n 0, 1) := by decide +kernel
theorem d_P_writeMap_1 : decode prog_7_method_13_code 1 = .ok (.iload_n 2, 1) := by decide +kernel
theorem d_P_writeMap_2 : decode prog_7_method_13_code 2 = .ok (.invokevirtual 66, 3) := by decide +kernel
theorem d_P_writeMap_5 : decode prog_7_method_13_code 5 = .ok (.ifCond .ne 5, 3) := by decide +kernel
theorem d_P_writeMap_8 : decode prog_7_method_13_code 8 = .ok (.aconst_null, 1) := by decide +kernel
theorem d_P_writeMap_9 : decode prog_7_method_13_code 9 = .ok (.areturn, 1) := by decide +kernel
theorem d_P_writeMap_10 : decode prog_7_method_13_code 10 = .ok (.new 42, 3) := by decide +kernel
theorem d_P_writeMap_13 : decode prog_7_method_13_code 13 = .ok (.dup, 1) := by decide +kernel
theorem d_P_writeMap_14 : decode prog_7_method_13_code 14 = .ok (.invokespecial 90, 3) := by decide +kernel
theorem d_P_writeMap_17 : decode prog_7_method_13_code 17 = .ok (.astore 4, 2) := by decide +kernel
theorem d_P_writeMap_19 : decode prog_7_method_13_code 19 = .ok (.iconst 0, 1) := by decide +kernel
theorem d_P_writeMap_20 : decode prog_7_method_13_code 20 = .ok (.istore 5, 2) := by decide +kernel
theorem d_P_writeMap_22 : decode prog_7_method_13_code 22 = .ok (.iload 5, 2) := by decide +kernel
theorem d_P_writeMap_24 : decode prog_7_method_13_code 24 = .ok (.iconst 4, 1) := by decide +kernel
theorem d_P_writeMap_25 : decode prog_7_method_13_code 25 = .ok (.if_icmp .ge 67, 3) := by decide +kernel
theorem d_P_writeMap_28 : decode prog_7_method_13_code 28 = .ok (.aload_n 0, 1) := by decide +kernel
theorem d_P_writeMap_29 : decode prog_7_method_13_code 29 = .ok (.iload_n 2, 1) := by decide +kernel
theorem d_P_writeMap_30 : decode prog_7_method_13_code 30 = .ok (.iload 5, 2) := by decide +kernel
theorem d_P_writeMap_32 : decode prog_7_method_13_code 32 = .ok (.invokevirtual 70, 3) := by decide +kernel
theorem d_P_writeMap_35 : decode prog_7_method_13_code 35 = .ok (.ifCond .eq 22, 3) := by decide +kernel
theorem d_P_writeMap_38 : decode prog_7_method_13_code 38 = .ok (.aload 4, 2) := by decide +kernel
theorem d_P_writeMap_40 : decode prog_7_method_13_code 40 = .ok (.getfield 91, 3) := by decide +kernel
theorem d_P_writeMap_43 : decode prog_7_method_13_code 43 = .ok (.iload 5, 2) := by decide +kernel
theorem d_P_writeMap_45 : decode prog_7_method_13_code 45 = .ok (.aload_n 0, 1) := by decide +kernel
theorem d_P_writeMap_46 : decode prog_7_method_13_code 46 = .ok (.aload_n 1, 1) := by decide +kernel
theorem d_P_writeMap_47 : decode prog_7_method_13_code 47 = .ok (.iload_n 2, 1) := by decide +kernel
theorem d_P_writeMap_48 : decode prog_7_method_13_code 48 = .ok (.iload 5, 2) := by decide +kernel
theorem d_P_writeMap_50 : decode prog_7_method_13_code 50 = .ok (.invokevirtual 95, 3) := by decide +kernel
theorem d_P_writeMap_53 : decode prog_7_method_13_code 53 = .ok (.aastore, 1) := by decide +kernel
theorem d_P_writeMap_54 : decode prog_7_method_13_code 54 = .ok (.goto 32, 3) := by decide +kernel
theorem d_P_writeMap_57 : decode prog_7_method_13_code 57 = .ok (.aload_n 0, 1) := by decide +kernel
theorem d_P_writeMap_58 : decode prog_7_method_13_code 58 = .ok (.iload_n 2, 1) := by decide +kernel
theorem d_P_writeMap_59 : decode prog_7_method_13_code 59 = .ok (.iload 5, 2) := by decide +kernel
theorem d_P_writeMap_61 : decode prog_7_method_13_code 61 = .ok (.invokevirtual 99, 3) := by decide +kernel
theorem d_P_writeMap_64 : decode prog_7_method_13_code 64 = .ok (.ifCond .ne 22, 3) := by decide +kernel
theorem d_P_writeMap_67 : decode prog_7_method_13_code 67 = .ok (.aload_n 3, 1) := by decide +kernel
theorem d_P_writeMap_68 : decode prog_7_method_13_code 68 = .ok (.ifnull 18, 3) := by decide +kernel
theorem d_P_writeMap_71 : decode prog_7_method_13_code 71 = .ok (.aload 4, 2) := by decide +kernel
theorem d_P_writeMap_73 : decode prog_7_method_13_code 73 = .ok (.getfield 91, 3) := by decide +kernel
theorem d_P_writeMap_76 : decode prog_7_method_13_code 76 = .ok (.iload 5, 2) := by decide +kernel
theorem d_P_writeMap_78 : decode prog_7_method_13_code 78 = .ok (.aload_n 3, 1) := by decide +kernel
theorem d_P_writeMap_79 : decode prog_7_method_13_code 79 = .ok (.iload_n 2, 1) := by decide +kernel
theorem d_P_writeMap_80 : decode prog_7_method_13_code 80 = .ok (.iload 5, 2) := by decide +kernel
theorem d_P_writeMap_82 : decode prog_7_method_13_code 82 = .ok (.invokevirtual 47, 3) := by decide +kernel
theorem d_P_writeMap_85 : decode prog_7_method_13_code 85 = .ok (.aastore, 1) := by decide +kernel
theorem d_P_writeMap_86 : decode prog_7_method_13_code 86 = .ok (.iinc 5 1, 3) := by decide +kernel
theorem d_P_writeMap_89 : decode prog_7_method_13_code 89 = .ok (.goto (-67), 3) := by decide +kernel
theorem d_P_writeMap_92 : decode prog_7_method_13_code 92 = .ok (.aload_n 1, 1) := by decide +kernel
theorem d_P_writeMap_93 : decode prog_7_method_13_code 93 = .ok (.aload 4, 2) := by decide +kernel
theorem d_P_writeMap_95 : decode prog_7_method_13_code 95 = .ok (.invokevirtual 102, 3) := by decide +kernel
theorem d_P_writeMap_98 : decode prog_7_method_13_code 98 = .ok (.aload 4, 2) := by decide +kernel
theorem d_P_writeMap_100 : decode prog_7_method_13_code 100 = .ok (.areturn, 1) := by decide +kernel
def b_P_writeMap_22 (y0 : Nat) (y1 : Option Nat) (y2 : Int32) (y3 : Option Nat) (y4 : Option Nat) (y5 : Int32) (h : Hp) : Option ((Int32 × Hp) ⊕ (Hp)) :=
  if (4 : Int32) ≤ y5 then (some (.inr h)) else (gd (isK h y0 5) (cl (f_P_needsLeaf y0 y2 y5 h) fun v14 h12 => if v14 = 0 then (gd (isK h12 y0 5) (cl (f_P_isLeafTouched y0 y2 y5 h12) fun v19 h17 => if v19 = 0 then (if y3 = none then (some (.inl ((y5 + (1 : Int32)), h17))) else (dr y4 fun a22 => gd (isK h17 a22 6) (dr y3 fun a25 => gd (isK h17 a25 4) (cl (f_E_leafOf a25 y2 y5 h17) fun v30 h28 => dr (hpR h17 a22 3) fun a31 => gd (isO h28 a31 5) (gd (inb y5 (hpL h28 a31)) (gd (asV h28 v30 a31) (nm (wR h28 a31 y5.toNatClampNeg v30) fun h36 => some (.inl ((y5 + (1 : Int32)), h36))))))))) else (some (.inl ((y5 + (1 : Int32)), h17))))) else (dr y4 fun a38 => gd (isK h12 a38 6) (gd (isK h12 y0 5) (cl (f_P_writeLeaf y0 y1 y2 y5 h12) fun v44 h42 => dr (hpR h12 a38 3) fun a45 => gd (isO h42 a45 5) (gd (inb y5 (hpL h42 a45)) (gd (asV h42 v44 a45) (nm (wR h42 a45 y5.toNatClampNeg v44) fun h50 => some (.inl ((y5 + (1 : Int32)), h50))))))))))
set_option maxRecDepth 100000 in
set_option maxHeartbeats 4000000 in
theorem zb_P_writeMap_22 {l : Launch} {C : Ct} {mi : Nat} {y0 : Nat} {y1 : Option Nat} {y2 : Int32} {y3 : Option Nat} {y4 : Option Nat} {y5 : Int32} {h h' : Hp} {v : Option Nat} {q : ((Int32 × Hp) ⊕ (Hp))} (hf : b_P_writeMap_22 y0 y1 y2 y3 y4 y5 h = some q) (kc : ∀ s, q = .inl s → Z l C mi m_P_writeMap 4 22 [(0, vr (some y0)), (1, vr y1), (2, vi y2), (3, vr y3), (4, vr y4), (5, vi s.1)] [] s.2 (some (vr v)) h') (ke : ∀ x, q = .inr x → Z l C mi m_P_writeMap 4 92 [(1, vr y1), (4, vr y4)] [] x (some (vr v)) h') : Z l C mi m_P_writeMap 4 22 [(0, vr (some y0)), (1, vr y1), (2, vi y2), (3, vr y3), (4, vr y4), (5, vi y5)] [] h (some (vr v)) h' := by
  unfold b_P_writeMap_22 at hf
  refine z_iload 5 d_P_writeMap_22 rfl ?_
  refine z_iconst (v := (4 : Int32)) d_P_writeMap_24 rfl ?_
  refine z_icmp_ge (tgt := 92) d_P_writeMap_25 (by decide) (fun c10 => ?_) (fun c10 => ?_)
  · rw [if_pos c10] at hf
    refine z_ls [1, 4] rfl ?_
    exact ke h (Option.some.inj hf).symm
  · rw [if_neg c10] at hf
    refine z_aload_n 0 d_P_writeMap_28 rfl rfl ?_
    refine z_iload_n 2 d_P_writeMap_29 rfl rfl ?_
    refine z_iload 5 d_P_writeMap_30 rfl ?_
    obtain ⟨g11, hf⟩ := gd_some hf
    obtain ⟨v14, h12, ec13, hf⟩ := cl_some hf
    refine z_callVx rfl (c_P_needsLeaf ec13) d_P_writeMap_32 cw_P_needsLeaf lk_P_70 im_P_needsLeaf se_P_needsLeaf (kc_K (isK_eq g11) kc_5) ⟨by decide, by decide⟩ (Nat.le_of_ble_eq_true rfl) rfl ?_
    refine z_if_eq (tgt := 57) d_P_writeMap_35 (by decide) (fun c15 => ?_) (fun c15 => ?_)
    · rw [if_pos c15] at hf
      refine z_aload_n 0 d_P_writeMap_57 rfl rfl ?_
      refine z_iload_n 2 d_P_writeMap_58 rfl rfl ?_
      refine z_iload 5 d_P_writeMap_59 rfl ?_
      obtain ⟨g16, hf⟩ := gd_some hf
      obtain ⟨v19, h17, ec18, hf⟩ := cl_some hf
      refine z_callVx rfl (c_P_isLeafTouched ec18) d_P_writeMap_61 cw_P_isLeafTouched lk_P_99 im_P_isLeafTouched se_P_isLeafTouched (kc_K (isK_eq g16) kc_5) ⟨by decide, by decide⟩ (Nat.le_of_ble_eq_true rfl) rfl ?_
      refine z_if_ne (tgt := 86) d_P_writeMap_64 (by decide) (fun c20 => ?_) (fun c20 => ?_)
      · rw [if_neg c20] at hf
        refine z_iinc (ls2 := [(5, vi (y5 + (1 : Int32))), (0, vr (some y0)), (1, vr y1), (2, vi y2), (3, vr y3), (4, vr y4)]) 5 d_P_writeMap_86 rfl rfl (by decide) rfl ?_
        refine z_goto (tgt := 22) d_P_writeMap_89 (by decide) ?_
        refine z_ls [1, 2, 3, 4, 5, 0] rfl ?_
        exact kc ((y5 + (1 : Int32)), h17) (Option.some.inj hf).symm
      · rw [if_pos c20] at hf
        refine z_aload_n 3 d_P_writeMap_67 rfl rfl ?_
        refine z_ifnull (tgt := 86) d_P_writeMap_68 (by decide) (fun c21 => ?_) (fun c21 => ?_)
        · rw [if_pos c21] at hf
          refine z_iinc (ls2 := [(5, vi (y5 + (1 : Int32))), (0, vr (some y0)), (1, vr y1), (2, vi y2), (3, vr y3), (4, vr y4)]) 5 d_P_writeMap_86 rfl rfl (by decide) rfl ?_
          refine z_goto (tgt := 22) d_P_writeMap_89 (by decide) ?_
          refine z_ls [1, 2, 3, 4, 5, 0] rfl ?_
          exact kc ((y5 + (1 : Int32)), h17) (Option.some.inj hf).symm
        · rw [if_neg c21] at hf
          refine z_aload 4 d_P_writeMap_71 rfl ?_
          obtain ⟨a22, e23, hf⟩ := dr_some hf
          obtain ⟨g24, hf⟩ := gd_some hf
          refine z_getR d_P_writeMap_73 (fl_K (isK_eq g24) fl_P_91_6) (fi_K (isK_eq g24) rfl) e23 ?_
          refine z_iload 5 d_P_writeMap_76 rfl ?_
          refine z_aload_n 3 d_P_writeMap_78 rfl rfl ?_
          refine z_iload_n 2 d_P_writeMap_79 rfl rfl ?_
          refine z_iload 5 d_P_writeMap_80 rfl ?_
          obtain ⟨a25, e26, hf⟩ := dr_some hf
          obtain ⟨g27, hf⟩ := gd_some hf
          obtain ⟨v30, h28, ec29, hf⟩ := cl_some hf
          refine z_callVx e26 (c_E_leafOf ec29) d_P_writeMap_82 cw_E_leafOf lk_P_47 im_E_leafOf se_E_leafOf (kc_K (isK_eq g27) kc_4) ⟨by decide, by decide⟩ (Nat.le_of_ble_eq_true rfl) rfl ?_
          obtain ⟨a31, e32, hf⟩ := dr_some hf
          obtain ⟨g33, hf⟩ := gd_some hf
          obtain ⟨g34, hf⟩ := gd_some hf
          obtain ⟨g35, hf⟩ := gd_some hf
          obtain ⟨h36, eh37, hf⟩ := nm_some hf
          refine z_aast d_P_writeMap_85 e32 (isO_eq g33).1 (by rw [(isO_eq g33).2]; decide) (asV_ok g35) (inb_vp g34) ?_
          refine z_hp eh37 ?_
          refine z_iinc (ls2 := [(5, vi (y5 + (1 : Int32))), (0, vr (some y0)), (1, vr y1), (2, vi y2), (3, vr y3), (4, vr y4)]) 5 d_P_writeMap_86 rfl rfl (by decide) rfl ?_
          refine z_goto (tgt := 22) d_P_writeMap_89 (by decide) ?_
          refine z_ls [1, 2, 3, 4, 5, 0] rfl ?_
          exact kc ((y5 + (1 : Int32)), h36) (Option.some.inj hf).symm
    · rw [if_neg c15] at hf
      refine z_aload 4 d_P_writeMap_38 rfl ?_
      obtain ⟨a38, e39, hf⟩ := dr_some hf
      obtain ⟨g40, hf⟩ := gd_some hf
      refine z_getR d_P_writeMap_40 (fl_K (isK_eq g40) fl_P_91_6) (fi_K (isK_eq g40) rfl) e39 ?_
      refine z_iload 5 d_P_writeMap_43 rfl ?_
      refine z_aload_n 0 d_P_writeMap_45 rfl rfl ?_
      refine z_aload_n 1 d_P_writeMap_46 rfl rfl ?_
      refine z_iload_n 2 d_P_writeMap_47 rfl rfl ?_
      refine z_iload 5 d_P_writeMap_48 rfl ?_
      obtain ⟨g41, hf⟩ := gd_some hf
      obtain ⟨v44, h42, ec43, hf⟩ := cl_some hf
      refine z_callVx rfl (c_P_writeLeaf ec43) d_P_writeMap_50 cw_P_writeLeaf lk_P_95 im_P_writeLeaf se_P_writeLeaf (kc_K (isK_eq g41) kc_5) ⟨by decide, by decide⟩ (Nat.le_of_ble_eq_true rfl) rfl ?_
      obtain ⟨a45, e46, hf⟩ := dr_some hf
      obtain ⟨g47, hf⟩ := gd_some hf
      obtain ⟨g48, hf⟩ := gd_some hf
      obtain ⟨g49, hf⟩ := gd_some hf
      obtain ⟨h50, eh51, hf⟩ := nm_some hf
      refine z_aast d_P_writeMap_53 e46 (isO_eq g47).1 (by rw [(isO_eq g47).2]; decide) (asV_ok g49) (inb_vp g48) ?_
      refine z_hp eh51 ?_
      refine z_goto (tgt := 86) d_P_writeMap_54 (by decide) ?_
      refine z_iinc (ls2 := [(5, vi (y5 + (1 : Int32))), (0, vr (some y0)), (1, vr y1), (2, vi y2), (3, vr y3), (4, vr y4)]) 5 d_P_writeMap_86 rfl rfl (by decide) rfl ?_
      refine z_goto (tgt := 22) d_P_writeMap_89 (by decide) ?_
      refine z_ls [1, 2, 3, 4, 5, 0] rfl ?_
      exact kc ((y5 + (1 : Int32)), h50) (Option.some.inj hf).symm
def l_P_writeMap_22 (y0 : Nat) (y1 : Option Nat) (y2 : Int32) (y3 : Option Nat) (y4 : Option Nat) (s : Int32 × Hp) : Option (Hp) := lp (fun s => b_P_writeMap_22 y0 y1 y2 y3 y4 s.1 s.2) FU s
theorem zzl_P_writeMap_22 {l : Launch} {C : Ct} {mi : Nat} {y0 : Nat} {y1 : Option Nat} {y2 : Int32} {y3 : Option Nat} {y4 : Option Nat} {h' : Hp} {v : Option Nat} : ∀ (n : Nat) (s : Int32 × Hp) (x : (Hp)), lp (fun s : Int32 × Hp => b_P_writeMap_22 y0 y1 y2 y3 y4 s.1 s.2) n s = some x → Z l C mi m_P_writeMap 4 92 [(1, vr y1), (4, vr y4)] [] x (some (vr v)) h' → Z l C mi m_P_writeMap 4 22 [(0, vr (some y0)), (1, vr y1), (2, vi y2), (3, vr y3), (4, vr y4), (5, vi s.1)] [] s.2 (some (vr v)) h' := by
  intro n
  induction n with
  | zero => intro s x hl; cases hl
  | succ n ih =>
    intro s x hl ke
    rcases lp_some hl with ⟨s2, hb, hl2⟩ | hb
    · exact zb_P_writeMap_22 hb (fun s3 e3 => by cases e3; refine z_ls [0, 1, 2, 3, 4, 5] rfl ?_; exact ih s2 x hl2 ke) (fun x e3 => by cases e3)
    · exact zb_P_writeMap_22 hb (fun s3 e3 => by cases e3) (fun x e3 => by cases e3; exact ke)
theorem zl_P_writeMap_22 {l : Launch} {C : Ct} {mi : Nat} {y0 : Nat} {y1 : Option Nat} {y2 : Int32} {y3 : Option Nat} {y4 : Option Nat} {h' : Hp} {v : Option Nat} {s : Int32 × Hp} {x : (Hp)} (hl : l_P_writeMap_22 y0 y1 y2 y3 y4 s = some x) (ke : Z l C mi m_P_writeMap 4 92 [(1, vr y1), (4, vr y4)] [] x (some (vr v)) h') : Z l C mi m_P_writeMap 4 22 [(0, vr (some y0)), (1, vr y1), (2, vi y2), (3, vr y3), (4, vr y4), (5, vi s.1)] [] s.2 (some (vr v)) h' := zzl_P_writeMap_22 FU s x hl ke
def f_P_writeMap (a0 : Nat) (p1 : Option Nat) (p2 : Int32) (p3 : Option Nat) (h : Hp) : Option (Option Nat × Hp) :=
  gd (isK h a0 5) (cl (f_P_needsRoot a0 p2 h) fun v4 h2 => if v4 = 0 then (some (none, h2)) else (nm (nw h2 6 0 4) fun h6 => cv (f_O_init (hpN h2) h6) fun h8 => bd (l_P_writeMap_22 a0 p1 p2 p3 (some (hpN h2)) ((0 : Int32), h8)) fun x52 => dr p1 fun a54 => gd (isK x52 a54 2) (cv (f_K_append a54 (some (hpN h2)) x52) fun h57 => some ((some (hpN h2)), h57))))
set_option maxRecDepth 100000 in
set_option maxHeartbeats 4000000 in
theorem zf_P_writeMap {l : Launch} {C : Ct} {mi : Nat} {a0 : Nat} {p1 : Option Nat} {p2 : Int32} {p3 : Option Nat} {h h' : Hp} {v : Option Nat} (hf : f_P_writeMap a0 p1 p2 p3 h = some (v, h')) : Z l C mi m_P_writeMap 4 0 [(0, vr (some a0)), (1, vr p1), (2, vi p2), (3, vr p3)] [] h (some (vr v)) h' := by
  unfold f_P_writeMap at hf
  refine z_aload_n 0 d_P_writeMap_0 rfl rfl ?_
  refine z_iload_n 2 d_P_writeMap_1 rfl rfl ?_
  obtain ⟨g1, hf⟩ := gd_some hf
  obtain ⟨v4, h2, ec3, hf⟩ := cl_some hf
  refine z_callVx rfl (c_P_needsRoot ec3) d_P_writeMap_2 cw_P_needsRoot lk_P_66 im_P_needsRoot se_P_needsRoot (kc_K (isK_eq g1) kc_5) ⟨by decide, by decide⟩ (Nat.le_of_ble_eq_true rfl) rfl ?_
  refine z_if_ne (tgt := 10) d_P_writeMap_5 (by decide) (fun c5 => ?_) (fun c5 => ?_)
  · rw [if_neg c5] at hf
    obtain ⟨h6, eh7, hf⟩ := nm_some hf
    refine z_new (κ := 6) d_P_writeMap_10 rfl (by decide +kernel) ?_
    refine z_hp eh7 ?_
    refine z_dup d_P_writeMap_13 rfl ?_
    obtain ⟨h8, ec9, hf⟩ := cv_some hf
    refine z_callIN (host := "VersionMaps") (c_O_init ec9) d_P_writeMap_14 rfl cw_O_init lk_P_90 im_O_init rfl ⟨by decide, by decide⟩ (Nat.le_of_ble_eq_true rfl) rfl ?_
    refine z_astore (ls2 := [(4, vr (some (hpN h2))), (0, vr (some a0)), (1, vr p1), (2, vi p2), (3, vr p3)]) d_P_writeMap_17 (by decide) rfl ?_
    refine z_iconst (v := (0 : Int32)) d_P_writeMap_19 rfl ?_
    refine z_istore (ls2 := [(5, vi (0 : Int32)), (4, vr (some (hpN h2))), (0, vr (some a0)), (1, vr p1), (2, vi p2), (3, vr p3)]) d_P_writeMap_20 (by decide) rfl ?_
    obtain ⟨x52, el53, hf⟩ := bd_some hf
    refine z_ls [2, 3, 4, 5, 1, 0] rfl ?_
    refine zl_P_writeMap_22 el53 ?_
    refine z_aload_n 0 d_P_writeMap_92 rfl rfl ?_
    refine z_aload 1 d_P_writeMap_93 rfl ?_
    obtain ⟨a54, e55, hf⟩ := dr_some hf
    obtain ⟨g56, hf⟩ := gd_some hf
    obtain ⟨h57, ec58, hf⟩ := cv_some hf
    refine z_callVx e55 (c_K_append ec58) d_P_writeMap_95 cw_K_append lk_P_102 im_K_append se_K_append (kc_K (isK_eq g56) kc_2) ⟨by decide, by decide⟩ (Nat.le_of_ble_eq_true rfl) rfl ?_
    refine z_aload 1 d_P_writeMap_98 rfl ?_
    obtain ⟨rfl, rfl⟩ := Prod.mk.inj (Option.some.inj hf)
    exact z_ret d_P_writeMap_100 rfl
  · rw [if_pos c5] at hf
    refine z_aconst_null d_P_writeMap_8 ?_
    obtain ⟨rfl, rfl⟩ := Prod.mk.inj (Option.some.inj hf)
    exact z_ret d_P_writeMap_9 rfl
theorem c_P_writeMap {l : Launch} {C : Ct} {mi : Nat} {a0 : Nat} {p1 : Option Nat} {p2 : Int32} {p3 : Option Nat} {h h' : Hp} {v : Option Nat} (hf : f_P_writeMap a0 p1 p2 p3 h = some (v, h')) : Mt l C mi m_P_writeMap 4 [vr (some a0), vr p1, vi p2, vr p3] h (some (vr v)) h' := mt_R rfl (Or.inl ⟨_, rfl⟩) rfl (by decide) (Nat.le_of_ble_eq_true rfl) (zf_P_writeMap hf)
-- VersionMaps$Chunk.close(LVersionMaps$Meta;)V
def m_K_close : Mi := (⟨"VersionMaps$Chunk", "close", "(LVersionMaps$Meta;)V"⟩, prog_3_method_3_code, 2, (Option.none : Option Jvm.ClassFile.FieldType), .return_)
theorem cw_K_close : cw_ok m_K_close 1 := ⟨by decide +kernel, by decide +kernel, by decide +kernel, by decide +kernel⟩
theorem im_K_close : Cond.instanceMethod m_K_close.1 ∈ lw_w := by decide +kernel
theorem se_K_close : Cond.selects "VersionMaps$Chunk" m_K_close.1 m_K_close.1 ∈ lw_w := by decide +kernel
theorem d_K_close_0 : decode prog_3_method_3_code 0 = .ok (.aload_n 0, 1) := by decide +kernel
theorem d_K_close_1 : decode prog_3_method_3_code 1 = .ok (.aload_n 1, 1) := by decide +kernel
theorem d_K_close_2 : decode prog_3_method_3_code 2 = .ok (.invokevirtual 36, 3) := by decide +kernel
theorem d_K_close_5 : decode prog_3_method_3_code 5 = .ok (.aload_n 0, 1) := by decide +kernel
theorem d_K_close_6 : decode prog_3_method_3_code 6 = .ok (.aload_n 1, 1) := by decide +kernel
theorem d_K_close_7 : decode prog_3_method_3_code 7 = .ok (.putfield 13, 3) := by decide +kernel
theorem d_K_close_10 : decode prog_3_method_3_code 10 = .ok (.return_, 1) := by decide +kernel
def f_K_close (a0 : Nat) (p1 : Option Nat) (h : Hp) : Option Hp :=
  gd (isK h a0 2) (cv (f_K_append a0 p1 h) fun h2 => gd (isK h2 a0 2) (nm (wR h2 a0 4 p1) fun h5 => some h5))
set_option maxRecDepth 100000 in
set_option maxHeartbeats 4000000 in
theorem zf_K_close {l : Launch} {C : Ct} {mi : Nat} {a0 : Nat} {p1 : Option Nat} {h h' : Hp} (hf : f_K_close a0 p1 h = some h') : Z l C mi m_K_close 1 0 [(0, vr (some a0)), (1, vr p1)] [] h none h' := by
  unfold f_K_close at hf
  refine z_aload_n 0 d_K_close_0 rfl rfl ?_
  refine z_aload_n 1 d_K_close_1 rfl rfl ?_
  obtain ⟨g1, hf⟩ := gd_some hf
  obtain ⟨h2, ec3, hf⟩ := cv_some hf
  refine z_callVx rfl (c_K_append ec3) d_K_close_2 cw_K_append lk_K_36 im_K_append se_K_append (kc_K (isK_eq g1) kc_2) ⟨by decide, by decide⟩ (Nat.le_of_ble_eq_true rfl) rfl ?_
  refine z_aload_n 0 d_K_close_5 rfl rfl ?_
  refine z_aload_n 1 d_K_close_6 rfl rfl ?_
  obtain ⟨g4, hf⟩ := gd_some hf
  obtain ⟨h5, eh6, hf⟩ := nm_some hf
  refine z_putR d_K_close_7 (fl_K (isK_eq g4) fl_K_13_2) (pu_K (isK_eq g4) (fun q hq => by cases (Option.some.inj hq); exact Or.inl rfl)) (fi_K (isK_eq g4) rfl) rfl ?_
  refine z_hp eh6 ?_
  cases (Option.some.inj hf)
  exact z_ret d_K_close_10 rfl
theorem c_K_close {l : Launch} {C : Ct} {mi : Nat} {a0 : Nat} {p1 : Option Nat} {h h' : Hp} (hf : f_K_close a0 p1 h = some h') : Mt l C mi m_K_close 1 [vr (some a0), vr p1] h none h' := mt_V rfl rfl (by decide) (Nat.le_of_ble_eq_true rfl) (zf_K_close hf)
-- VersionMaps$Present.writeTouched(LVersionMaps$Chunk;ILVersionMaps$Meta;)V
def m_P_writeTouched : Mi := (⟨"VersionMaps$Present", "writeTouched", "(LVersionMaps$Chunk;ILVersionMaps$Meta;)V"⟩, prog_7_method_12_code, 6, (Option.none : Option Jvm.ClassFile.FieldType), .return_)
theorem cw_P_writeTouched : cw_ok m_P_writeTouched 3 := ⟨by decide +kernel, by decide +kernel, by decide +kernel, by decide +kernel⟩
theorem im_P_writeTouched : Cond.instanceMethod m_P_writeTouched.1 ∈ lw_w := by decide +kernel
theorem se_P_writeTouched : Cond.selects "VersionMaps$Present" m_P_writeTouched.1 m_P_writeTouched.1 ∈ lw_w := by decide +kernel
theorem d_P_writeTouched_0 : decode prog_7_method_12_code 0 = .ok (.new 36, 3) := by decide +kernel
theorem d_P_writeTouched_3 : decode prog_7_method_12_code 3 = .ok (.dup, 1) := by decide +kernel
theorem d_P_writeTouched_4 : decode prog_7_method_12_code 4 = .ok (.iload_n 2, 1) := by decide +kernel
theorem d_P_writeTouched_5 : decode prog_7_method_12_code 5 = .ok (.invokespecial 74, 3) := by decide +kernel
theorem d_P_writeTouched_8 : decode prog_7_method_12_code 8 = .ok (.astore 4, 2) := by decide +kernel
theorem d_P_writeTouched_10 : decode prog_7_method_12_code 10 = .ok (.iconst 0, 1) := by decide +kernel
theorem d_P_writeTouched_11 : decode prog_7_method_12_code 11 = .ok (.istore 5, 2) := by decide +kernel
theorem d_P_writeTouched_13 : decode prog_7_method_12_code 13 = .ok (.iload 5, 2) := by decide +kernel
theorem d_P_writeTouched_15 : decode prog_7_method_12_code 15 = .ok (.iconst 4, 1) := by decide +kernel
theorem d_P_writeTouched_16 : decode prog_7_method_12_code 16 = .ok (.if_icmp .ge 56, 3) := by decide +kernel
theorem d_P_writeTouched_19 : decode prog_7_method_12_code 19 = .ok (.aload_n 0, 1) := by decide +kernel
theorem d_P_writeTouched_20 : decode prog_7_method_12_code 20 = .ok (.iload 5, 2) := by decide +kernel
theorem d_P_writeTouched_22 : decode prog_7_method_12_code 22 = .ok (.invokevirtual 77, 3) := by decide +kernel
theorem d_P_writeTouched_25 : decode prog_7_method_12_code 25 = .ok (.ifCond .eq 22, 3) := by decide +kernel
theorem d_P_writeTouched_28 : decode prog_7_method_12_code 28 = .ok (.aload 4, 2) := by decide +kernel
theorem d_P_writeTouched_30 : decode prog_7_method_12_code 30 = .ok (.getfield 35, 3) := by decide +kernel
theorem d_P_writeTouched_33 : decode prog_7_method_12_code 33 = .ok (.iload 5, 2) := by decide +kernel
theorem d_P_writeTouched_35 : decode prog_7_method_12_code 35 = .ok (.aload_n 0, 1) := by decide +kernel
theorem d_P_writeTouched_36 : decode prog_7_method_12_code 36 = .ok (.aload_n 1, 1) := by decide +kernel
theorem d_P_writeTouched_37 : decode prog_7_method_12_code 37 = .ok (.iload 5, 2) := by decide +kernel
theorem d_P_writeTouched_39 : decode prog_7_method_12_code 39 = .ok (.aload_n 3, 1) := by decide +kernel
theorem d_P_writeTouched_40 : decode prog_7_method_12_code 40 = .ok (.invokevirtual 80, 3) := by decide +kernel
theorem d_P_writeTouched_43 : decode prog_7_method_12_code 43 = .ok (.aastore, 1) := by decide +kernel
theorem d_P_writeTouched_44 : decode prog_7_method_12_code 44 = .ok (.goto 22, 3) := by decide +kernel
theorem d_P_writeTouched_47 : decode prog_7_method_12_code 47 = .ok (.aload_n 3, 1) := by decide +kernel
theorem d_P_writeTouched_48 : decode prog_7_method_12_code 48 = .ok (.ifnull 18, 3) := by decide +kernel
theorem d_P_writeTouched_51 : decode prog_7_method_12_code 51 = .ok (.aload 4, 2) := by decide +kernel
theorem d_P_writeTouched_53 : decode prog_7_method_12_code 53 = .ok (.getfield 35, 3) := by decide +kernel
theorem d_P_writeTouched_56 : decode prog_7_method_12_code 56 = .ok (.iload 5, 2) := by decide +kernel
theorem d_P_writeTouched_58 : decode prog_7_method_12_code 58 = .ok (.aload_n 3, 1) := by decide +kernel
theorem d_P_writeTouched_59 : decode prog_7_method_12_code 59 = .ok (.getfield 35, 3) := by decide +kernel
theorem d_P_writeTouched_62 : decode prog_7_method_12_code 62 = .ok (.iload 5, 2) := by decide +kernel
theorem d_P_writeTouched_64 : decode prog_7_method_12_code 64 = .ok (.aaload, 1) := by decide +kernel
theorem d_P_writeTouched_65 : decode prog_7_method_12_code 65 = .ok (.aastore, 1) := by decide +kernel
theorem d_P_writeTouched_66 : decode prog_7_method_12_code 66 = .ok (.iinc 5 1, 3) := by decide +kernel
theorem d_P_writeTouched_69 : decode prog_7_method_12_code 69 = .ok (.goto (-56), 3) := by decide +kernel
theorem d_P_writeTouched_72 : decode prog_7_method_12_code 72 = .ok (.aload_n 1, 1) := by decide +kernel
theorem d_P_writeTouched_73 : decode prog_7_method_12_code 73 = .ok (.aload 4, 2) := by decide +kernel
theorem d_P_writeTouched_75 : decode prog_7_method_12_code 75 = .ok (.invokevirtual 84, 3) := by decide +kernel
theorem d_P_writeTouched_78 : decode prog_7_method_12_code 78 = .ok (.return_, 1) := by decide +kernel
def b_P_writeTouched_13 (y0 : Nat) (y1 : Option Nat) (y3 : Option Nat) (y4 : Option Nat) (y5 : Int32) (h : Hp) : Option ((Int32 × Hp) ⊕ (Hp)) :=
  if (4 : Int32) ≤ y5 then (some (.inr h)) else (gd (isK h y0 5) (cl (f_P_isMapChanged y0 y5 h) fun v9 h7 => if v9 = 0 then (if y3 = none then (some (.inl ((y5 + (1 : Int32)), h7))) else (dr y4 fun a12 => gd (isK h7 a12 4) (dr y3 fun a15 => gd (isK h7 a15 4) (dr (hpR h7 a15 4) fun a18 => gd (isA h7 a18 4) (gd (inb y5 (hpL h7 a18)) (dr (hpR h7 a12 4) fun a22 => gd (isO h7 a22 4) (gd (inb y5 (hpL h7 a22)) (gd (asV h7 (hpR h7 a18 y5.toNatClampNeg) a22) (nm (wR h7 a22 y5.toNatClampNeg (hpR h7 a18 y5.toNatClampNeg)) fun h27 => some (.inl ((y5 + (1 : Int32)), h27))))))))))) else (dr y4 fun a29 => gd (isK h7 a29 4) (gd (isK h7 y0 5) (cl (f_P_writeMap y0 y1 y5 y3 h7) fun v35 h33 => dr (hpR h7 a29 4) fun a36 => gd (isO h33 a36 4) (gd (inb y5 (hpL h33 a36)) (gd (asV h33 v35 a36) (nm (wR h33 a36 y5.toNatClampNeg v35) fun h41 => some (.inl ((y5 + (1 : Int32)), h41))))))))))
set_option maxRecDepth 100000 in
set_option maxHeartbeats 4000000 in
theorem zb_P_writeTouched_13 {l : Launch} {C : Ct} {mi : Nat} {y0 : Nat} {y1 : Option Nat} {y3 : Option Nat} {y4 : Option Nat} {y5 : Int32} {h h' : Hp} {q : ((Int32 × Hp) ⊕ (Hp))} (hf : b_P_writeTouched_13 y0 y1 y3 y4 y5 h = some q) (kc : ∀ s, q = .inl s → Z l C mi m_P_writeTouched 5 13 [(0, vr (some y0)), (1, vr y1), (3, vr y3), (4, vr y4), (5, vi s.1)] [] s.2 none h') (ke : ∀ x, q = .inr x → Z l C mi m_P_writeTouched 5 72 [(1, vr y1), (4, vr y4)] [] x none h') : Z l C mi m_P_writeTouched 5 13 [(0, vr (some y0)), (1, vr y1), (3, vr y3), (4, vr y4), (5, vi y5)] [] h none h' := by
  unfold b_P_writeTouched_13 at hf
  refine z_iload 4 d_P_writeTouched_13 rfl ?_
  refine z_iconst (v := (4 : Int32)) d_P_writeTouched_15 rfl ?_
  refine z_icmp_ge (tgt := 72) d_P_writeTouched_16 (by decide) (fun c5 => ?_) (fun c5 => ?_)
  · rw [if_pos c5] at hf
    refine z_ls [1, 3] rfl ?_
    exact ke h (Option.some.inj hf).symm
  · rw [if_neg c5] at hf
    refine z_aload_n 0 d_P_writeTouched_19 rfl rfl ?_
    refine z_iload 4 d_P_writeTouched_20 rfl ?_
    obtain ⟨g6, hf⟩ := gd_some hf
    obtain ⟨v9, h7, ec8, hf⟩ := cl_some hf
    refine z_callVx rfl (c_P_isMapChanged ec8) d_P_writeTouched_22 cw_P_isMapChanged lk_P_77 im_P_isMapChanged se_P_isMapChanged (kc_K (isK_eq g6) kc_5) ⟨by decide, by decide⟩ (Nat.le_of_ble_eq_true rfl) rfl ?_
    refine z_if_eq (tgt := 47) d_P_writeTouched_25 (by decide) (fun c10 => ?_) (fun c10 => ?_)
    · rw [if_pos c10] at hf
      refine z_aload_n 2 d_P_writeTouched_47 rfl rfl ?_
      refine z_ifnull (tgt := 66) d_P_writeTouched_48 (by decide) (fun c11 => ?_) (fun c11 => ?_)
      · rw [if_pos c11] at hf
        refine z_iinc (ls2 := [(5, vi (y5 + (1 : Int32))), (0, vr (some y0)), (1, vr y1), (3, vr y3), (4, vr y4)]) 4 d_P_writeTouched_66 rfl rfl (by decide) rfl ?_
        refine z_goto (tgt := 13) d_P_writeTouched_69 (by decide) ?_
        refine z_ls [1, 2, 3, 4, 0] rfl ?_
        exact kc ((y5 + (1 : Int32)), h7) (Option.some.inj hf).symm
      · rw [if_neg c11] at hf
        refine z_aload 3 d_P_writeTouched_51 rfl ?_
        obtain ⟨a12, e13, hf⟩ := dr_some hf
        obtain ⟨g14, hf⟩ := gd_some hf
        refine z_getR d_P_writeTouched_53 (fl_K (isK_eq g14) fl_P_35_4) (fi_K (isK_eq g14) rfl) e13 ?_
        refine z_iload 4 d_P_writeTouched_56 rfl ?_
        refine z_aload_n 2 d_P_writeTouched_58 rfl rfl ?_
        obtain ⟨a15, e16, hf⟩ := dr_some hf
        obtain ⟨g17, hf⟩ := gd_some hf
        refine z_getR d_P_writeTouched_59 (fl_K (isK_eq g17) fl_P_35_4) (fi_K (isK_eq g17) rfl) e16 ?_
        refine z_iload 4 d_P_writeTouched_62 rfl ?_
        obtain ⟨a18, e19, hf⟩ := dr_some hf
        obtain ⟨g20, hf⟩ := gd_some hf
        obtain ⟨g21, hf⟩ := gd_some hf
        refine z_aald d_P_writeTouched_64 e19 (isA_eq g20).1 (by rw [(isA_eq g20).2]; decide) (inb_vp g21) ?_
        obtain ⟨a22, e23, hf⟩ := dr_some hf
        obtain ⟨g24, hf⟩ := gd_some hf
        obtain ⟨g25, hf⟩ := gd_some hf
        obtain ⟨g26, hf⟩ := gd_some hf
        obtain ⟨h27, eh28, hf⟩ := nm_some hf
        refine z_aast d_P_writeTouched_65 e23 (isO_eq g24).1 (by rw [(isO_eq g24).2]; decide) (asV_ok g26) (inb_vp g25) ?_
        refine z_hp eh28 ?_
        refine z_iinc (ls2 := [(5, vi (y5 + (1 : Int32))), (0, vr (some y0)), (1, vr y1), (3, vr y3), (4, vr y4)]) 4 d_P_writeTouched_66 rfl rfl (by decide) rfl ?_
        refine z_goto (tgt := 13) d_P_writeTouched_69 (by decide) ?_
        refine z_ls [1, 2, 3, 4, 0] rfl ?_
        exact kc ((y5 + (1 : Int32)), h27) (Option.some.inj hf).symm
    · rw [if_neg c10] at hf
      refine z_aload 3 d_P_writeTouched_28 rfl ?_
      obtain ⟨a29, e30, hf⟩ := dr_some hf
      obtain ⟨g31, hf⟩ := gd_some hf
      refine z_getR d_P_writeTouched_30 (fl_K (isK_eq g31) fl_P_35_4) (fi_K (isK_eq g31) rfl) e30 ?_
      refine z_iload 4 d_P_writeTouched_33 rfl ?_
      refine z_aload_n 0 d_P_writeTouched_35 rfl rfl ?_
      refine z_aload_n 1 d_P_writeTouched_36 rfl rfl ?_
      refine z_iload 4 d_P_writeTouched_37 rfl ?_
      refine z_aload_n 2 d_P_writeTouched_39 rfl rfl ?_
      obtain ⟨g32, hf⟩ := gd_some hf
      obtain ⟨v35, h33, ec34, hf⟩ := cl_some hf
      refine z_callVx rfl (c_P_writeMap ec34) d_P_writeTouched_40 cw_P_writeMap lk_P_80 im_P_writeMap se_P_writeMap (kc_K (isK_eq g32) kc_5) ⟨by decide, by decide⟩ (Nat.le_of_ble_eq_true rfl) rfl ?_
      obtain ⟨a36, e37, hf⟩ := dr_some hf
      obtain ⟨g38, hf⟩ := gd_some hf
      obtain ⟨g39, hf⟩ := gd_some hf
      obtain ⟨g40, hf⟩ := gd_some hf
      obtain ⟨h41, eh42, hf⟩ := nm_some hf
      refine z_aast d_P_writeTouched_43 e37 (isO_eq g38).1 (by rw [(isO_eq g38).2]; decide) (asV_ok g40) (inb_vp g39) ?_
      refine z_hp eh42 ?_
      refine z_goto (tgt := 66) d_P_writeTouched_44 (by decide) ?_
      refine z_iinc (ls2 := [(5, vi (y5 + (1 : Int32))), (0, vr (some y0)), (1, vr y1), (3, vr y3), (4, vr y4)]) 4 d_P_writeTouched_66 rfl rfl (by decide) rfl ?_
      refine z_goto (tgt := 13) d_P_writeTouched_69 (by decide) ?_
      refine z_ls [1, 2, 3, 4, 0] rfl ?_
      exact kc ((y5 + (1 : Int32)), h41) (Option.some.inj hf).symm
def l_P_writeTouched_13 (y0 : Nat) (y1 : Option Nat) (y3 : Option Nat) (y4 : Option Nat) (s : Int32 × Hp) : Option (Hp) := lp (fun s => b_P_writeTouched_13 y0 y1 y3 y4 s.1 s.2) FU s
theorem zzl_P_writeTouched_13 {l : Launch} {C : Ct} {mi : Nat} {y0 : Nat} {y1 : Option Nat} {y3 : Option Nat} {y4 : Option Nat} {h' : Hp} : ∀ (n : Nat) (s : Int32 × Hp) (x : (Hp)), lp (fun s : Int32 × Hp => b_P_writeTouched_13 y0 y1 y3 y4 s.1 s.2) n s = some x → Z l C mi m_P_writeTouched 5 72 [(1, vr y1), (4, vr y4)] [] x none h' → Z l C mi m_P_writeTouched 5 13 [(0, vr (some y0)), (1, vr y1), (3, vr y3), (4, vr y4), (5, vi s.1)] [] s.2 none h' := by
  intro n
  induction n with
  | zero => intro s x hl; cases hl
  | succ n ih =>
    intro s x hl ke
    rcases lp_some hl with ⟨s2, hb, hl2⟩ | hb
    · exact zb_P_writeTouched_13 hb (fun s3 e3 => by cases e3; refine z_ls [0, 1, 2, 3, 4] rfl ?_; exact ih s2 x hl2 ke) (fun x e3 => by cases e3)
    · exact zb_P_writeTouched_13 hb (fun s3 e3 => by cases e3) (fun x e3 => by cases e3; exact ke)
theorem zl_P_writeTouched_13 {l : Launch} {C : Ct} {mi : Nat} {y0 : Nat} {y1 : Option Nat} {y3 : Option Nat} {y4 : Option Nat} {h' : Hp} {s : Int32 × Hp} {x : (Hp)} (hl : l_P_writeTouched_13 y0 y1 y3 y4 s = some x) (ke : Z l C mi m_P_writeTouched 5 72 [(1, vr y1), (4, vr y4)] [] x none h') : Z l C mi m_P_writeTouched 5 13 [(0, vr (some y0)), (1, vr y1), (3, vr y3), (4, vr y4), (5, vi s.1)] [] s.2 none h' := zzl_P_writeTouched_13 FU s x hl ke
def f_P_writeTouched (a0 : Nat) (p1 : Option Nat) (p2 : Int32) (p3 : Option Nat) (h : Hp) : Option Hp :=
  nm (nw h 4 0 5) fun h1 => cv (f_E_init (hpN h) p2 h1) fun h3 => bd (l_P_writeTouched_13 a0 p1 p3 (some (hpN h)) ((0 : Int32), h3)) fun x43 => dr p1 fun a45 => gd (isK x43 a45 2) (cv (f_K_close a45 (some (hpN h)) x43) fun h48 => some h48)
set_option maxRecDepth 100000 in
set_option maxHeartbeats 4000000 in
theorem zf_P_writeTouched {l : Launch} {C : Ct} {mi : Nat} {a0 : Nat} {p1 : Option Nat} {p2 : Int32} {p3 : Option Nat} {h h' : Hp} (hf : f_P_writeTouched a0 p1 p2 p3 h = some h') : Z l C mi m_P_writeTouched 5 0 [(0, vr (some a0)), (1, vr p1), (2, vi p2), (3, vr p3)] [] h none h' := by
  unfold f_P_writeTouched at hf
  obtain ⟨h1, eh2, hf⟩ := nm_some hf
  refine z_new (κ := 4) d_P_writeTouched_0 rfl (by decide +kernel) ?_
  refine z_hp eh2 ?_
  refine z_dup d_P_writeTouched_3 rfl ?_
  refine z_iload_n 2 d_P_writeTouched_4 rfl rfl ?_
  obtain ⟨h3, ec4, hf⟩ := cv_some hf
  refine z_callI (c_E_init ec4) d_P_writeTouched_5 rfl cw_E_init lk_P_74 im_E_init rfl ⟨by decide, by decide⟩ (Nat.le_of_ble_eq_true rfl) rfl ?_
  refine z_astore (ls2 := [(4, vr (some (hpN h))), (0, vr (some a0)), (1, vr p1), (2, vi p2), (3, vr p3)]) d_P_writeTouched_8 (by decide) rfl ?_
  refine z_iconst (v := (0 : Int32)) d_P_writeTouched_10 rfl ?_
  refine z_istore (ls2 := [(5, vi (0 : Int32)), (4, vr (some (hpN h))), (0, vr (some a0)), (1, vr p1), (2, vi p2), (3, vr p3)]) d_P_writeTouched_11 (by decide) rfl ?_
  obtain ⟨x43, el44, hf⟩ := bd_some hf
  refine z_ls [2, 3, 5, 1, 0] rfl ?_
  refine zl_P_writeTouched_13 el44 ?_
  refine z_aload_n 0 d_P_writeTouched_72 rfl rfl ?_
  refine z_aload 1 d_P_writeTouched_73 rfl ?_
  obtain ⟨a45, e46, hf⟩ := dr_some hf
  obtain ⟨g47, hf⟩ := gd_some hf
  obtain ⟨h48, ec49, hf⟩ := cv_some hf
  refine z_callVx e46 (c_K_close ec49) d_P_writeTouched_75 cw_K_close lk_P_84 im_K_close se_K_close (kc_K (isK_eq g47) kc_2) ⟨by decide, by decide⟩ (Nat.le_of_ble_eq_true rfl) rfl ?_
  cases (Option.some.inj hf)
  exact z_ret d_P_writeTouched_78 rfl
theorem c_P_writeTouched {l : Launch} {C : Ct} {mi : Nat} {a0 : Nat} {p1 : Option Nat} {p2 : Int32} {p3 : Option Nat} {h h' : Hp} (hf : f_P_writeTouched a0 p1 p2 p3 h = some h') : Mt l C mi m_P_writeTouched 5 [vr (some a0), vr p1, vi p2, vr p3] h none h' := mt_V rfl rfl (by decide) (Nat.le_of_ble_eq_true rfl) (zf_P_writeTouched hf)
-- VersionMaps$Present.forgetTouched()V
def m_P_forgetTouched : Mi := (⟨"VersionMaps$Present", "forgetTouched", "()V"⟩, prog_7_method_8_code, 1, (Option.none : Option Jvm.ClassFile.FieldType), .return_)
theorem cw_P_forgetTouched : cw_ok m_P_forgetTouched 0 := ⟨by decide +kernel, by decide +kernel, by decide +kernel, by decide +kernel⟩
theorem im_P_forgetTouched : Cond.instanceMethod m_P_forgetTouched.1 ∈ lw_w := by decide +kernel
theorem se_P_forgetTouched : Cond.selects "VersionMaps$Present" m_P_forgetTouched.1 m_P_forgetTouched.1 ∈ lw_w := by decide +kernel
theorem d_P_forgetTouched_0 : decode prog_7_method_8_code 0 = .ok (.aload_n 0, 1) := by decide +kernel
theorem d_P_forgetTouched_1 : decode prog_7_method_8_code 1 = .ok (.iconst 0, 1) := by decide +kernel
theorem d_P_forgetTouched_2 : decode prog_7_method_8_code 2 = .ok (.putfield 18, 3) := by decide +kernel
theorem d_P_forgetTouched_5 : decode prog_7_method_8_code 5 = .ok (.aload_n 0, 1) := by decide +kernel
theorem d_P_forgetTouched_6 : decode prog_7_method_8_code 6 = .ok (.iconst 0, 1) := by decide +kernel
theorem d_P_forgetTouched_7 : decode prog_7_method_8_code 7 = .ok (.putfield 22, 3) := by decide +kernel
theorem d_P_forgetTouched_10 : decode prog_7_method_8_code 10 = .ok (.return_, 1) := by decide +kernel
def f_P_forgetTouched (a0 : Nat) (h : Hp) : Option Hp :=
  gd (isK h a0 5) (nm (wI h a0 2 (0 : Int32)) fun h2 => nm (wI h2 a0 3 (0 : Int32)) fun h4 => some h4)
set_option maxRecDepth 100000 in
set_option maxHeartbeats 4000000 in
theorem zf_P_forgetTouched {l : Launch} {C : Ct} {mi : Nat} {a0 : Nat} {h h' : Hp} (hf : f_P_forgetTouched a0 h = some h') : Z l C mi m_P_forgetTouched 0 0 [(0, vr (some a0))] [] h none h' := by
  unfold f_P_forgetTouched at hf
  refine z_aload_n 0 d_P_forgetTouched_0 rfl rfl ?_
  refine z_iconst (v := (0 : Int32)) d_P_forgetTouched_1 rfl ?_
  obtain ⟨g1, hf⟩ := gd_some hf
  obtain ⟨h2, eh3, hf⟩ := nm_some hf
  refine z_putI d_P_forgetTouched_2 (fl_K (isK_eq g1) fl_P_18_5) (pu_K (isK_eq g1) (fun q hq => by cases (Option.some.inj hq); exact Or.inl rfl)) (fi_K (isK_eq g1) rfl) rfl ?_
  refine z_hp eh3 ?_
  refine z_aload_n 0 d_P_forgetTouched_5 rfl rfl ?_
  refine z_iconst (v := (0 : Int32)) d_P_forgetTouched_6 rfl ?_
  obtain ⟨h4, eh5, hf⟩ := nm_some hf
  refine z_putI d_P_forgetTouched_7 (fl_K (isK_eq (isK_wI eh3 g1)) fl_P_22_5) (pu_K (isK_eq (isK_wI eh3 g1)) (fun q hq => by cases (Option.some.inj hq); exact Or.inl rfl)) (fi_K (isK_eq (isK_wI eh3 g1)) rfl) rfl ?_
  refine z_hp eh5 ?_
  cases (Option.some.inj hf)
  exact z_ret d_P_forgetTouched_10 rfl
theorem c_P_forgetTouched {l : Launch} {C : Ct} {mi : Nat} {a0 : Nat} {h h' : Hp} (hf : f_P_forgetTouched a0 h = some h') : Mt l C mi m_P_forgetTouched 0 [vr (some a0)] h none h' := mt_V rfl rfl (by decide) (Nat.le_of_ble_eq_true rfl) (zf_P_forgetTouched hf)
-- VersionMaps$Chunk.blockCount()I
def m_K_blockCount : Mi := (⟨"VersionMaps$Chunk", "blockCount", "()I"⟩, prog_3_method_4_code, 1, (Option.some Jvm.ClassFile.FieldType.int), .ireturn)
theorem cw_K_blockCount : cw_ok m_K_blockCount 0 := ⟨by decide +kernel, by decide +kernel, by decide +kernel, by decide +kernel⟩
theorem im_K_blockCount : Cond.instanceMethod m_K_blockCount.1 ∈ lw_w := by decide +kernel
theorem se_K_blockCount : Cond.selects "VersionMaps$Chunk" m_K_blockCount.1 m_K_blockCount.1 ∈ lw_w := by decide +kernel
theorem d_K_blockCount_0 : decode prog_3_method_4_code 0 = .ok (.aload_n 0, 1) := by decide +kernel
theorem d_K_blockCount_1 : decode prog_3_method_4_code 1 = .ok (.getfield 25, 3) := by decide +kernel
theorem d_K_blockCount_4 : decode prog_3_method_4_code 4 = .ok (.arraylength, 1) := by decide +kernel
theorem d_K_blockCount_5 : decode prog_3_method_4_code 5 = .ok (.invokestatic 40, 3) := by decide +kernel
theorem d_K_blockCount_8 : decode prog_3_method_4_code 8 = .ok (.ireturn, 1) := by decide +kernel
def f_K_blockCount (a0 : Nat) (h : Hp) : Option (Int32 × Hp) :=
  gd (isK h a0 2) (dr (hpR h a0 2) fun a2 => gd (isA h a2 3) (cl (f_X_blocksFor (Int32.ofNat (hpL h a2)) h) fun v7 h5 => some (v7, h5)))
set_option maxRecDepth 100000 in
set_option maxHeartbeats 4000000 in
theorem zf_K_blockCount {l : Launch} {C : Ct} {mi : Nat} {a0 : Nat} {h h' : Hp} {v : Int32} (hf : f_K_blockCount a0 h = some (v, h')) : Z l C mi m_K_blockCount 1 0 [(0, vr (some a0))] [] h (some (vi v)) h' := by
  unfold f_K_blockCount at hf
  refine z_aload_n 0 d_K_blockCount_0 rfl rfl ?_
  obtain ⟨g1, hf⟩ := gd_some hf
  refine z_getR d_K_blockCount_1 (fl_K (isK_eq g1) fl_K_25_2) (fi_K (isK_eq g1) rfl) rfl ?_
  obtain ⟨a2, e3, hf⟩ := dr_some hf
  obtain ⟨g4, hf⟩ := gd_some hf
  refine z_alen d_K_blockCount_4 e3 (isA_eq g4).1 ?_
  obtain ⟨v7, h5, ec6, hf⟩ := cl_some hf
  refine z_callSN (host := "VersionMaps") (c_X_blocksFor ec6) d_K_blockCount_5 cw_X_blocksFor lk_K_40 (by decide +kernel) ⟨by decide, by decide⟩ (Nat.le_of_ble_eq_true rfl) rfl ?_
  obtain ⟨rfl, rfl⟩ := Prod.mk.inj (Option.some.inj hf)
  exact z_ret d_K_blockCount_8 rfl
theorem c_K_blockCount {l : Launch} {C : Ct} {mi : Nat} {a0 : Nat} {h h' : Hp} {v : Int32} (hf : f_K_blockCount a0 h = some (v, h')) : Mt l C mi m_K_blockCount 1 [vr (some a0)] h (some (vi v)) h' := mt_I (ty := .int) rfl rfl rfl (by decide) (Nat.le_of_ble_eq_true rfl) (zf_K_blockCount hf)
-- VersionMaps$Root.markLive(I)V
def m_O_markLive : Mi := (⟨"VersionMaps$Root", "markLive", "(I)V"⟩, prog_8_method_2_code, 3, (Option.none : Option Jvm.ClassFile.FieldType), .return_)
theorem cw_O_markLive : cw_ok m_O_markLive 1 := ⟨by decide +kernel, by decide +kernel, by decide +kernel, by decide +kernel⟩
theorem im_O_markLive : Cond.instanceMethod m_O_markLive.1 ∈ lw_w := by decide +kernel
theorem se_O_markLive : Cond.selects "VersionMaps$Root" m_O_markLive.1 m_O_markLive.1 ∈ lw_w := by decide +kernel
theorem d_O_markLive_0 : decode prog_8_method_2_code 0 = .ok (.aload_n 0, 1) := by decide +kernel
theorem d_O_markLive_1 : decode prog_8_method_2_code 1 = .ok (.iload_n 1, 1) := by decide +kernel
theorem d_O_markLive_2 : decode prog_8_method_2_code 2 = .ok (.putfield 17, 3) := by decide +kernel
theorem d_O_markLive_5 : decode prog_8_method_2_code 5 = .ok (.iconst 0, 1) := by decide +kernel
theorem d_O_markLive_6 : decode prog_8_method_2_code 6 = .ok (.istore_n 2, 1) := by decide +kernel
theorem d_O_markLive_7 : decode prog_8_method_2_code 7 = .ok (.iload_n 2, 1) := by decide +kernel
theorem d_O_markLive_8 : decode prog_8_method_2_code 8 = .ok (.iconst 4, 1) := by decide +kernel
theorem d_O_markLive_9 : decode prog_8_method_2_code 9 = .ok (.if_icmp .ge 28, 3) := by decide +kernel
theorem d_O_markLive_12 : decode prog_8_method_2_code 12 = .ok (.aload_n 0, 1) := by decide +kernel
theorem d_O_markLive_13 : decode prog_8_method_2_code 13 = .ok (.getfield 11, 3) := by decide +kernel
theorem d_O_markLive_16 : decode prog_8_method_2_code 16 = .ok (.iload_n 2, 1) := by decide +kernel
theorem d_O_markLive_17 : decode prog_8_method_2_code 17 = .ok (.aaload, 1) := by decide +kernel
theorem d_O_markLive_18 : decode prog_8_method_2_code 18 = .ok (.ifnull 13, 3) := by decide +kernel
theorem d_O_markLive_21 : decode prog_8_method_2_code 21 = .ok (.aload_n 0, 1) := by decide +kernel
theorem d_O_markLive_22 : decode prog_8_method_2_code 22 = .ok (.getfield 11, 3) := by decide +kernel
theorem d_O_markLive_25 : decode prog_8_method_2_code 25 = .ok (.iload_n 2, 1) := by decide +kernel
theorem d_O_markLive_26 : decode prog_8_method_2_code 26 = .ok (.aaload, 1) := by decide +kernel
theorem d_O_markLive_27 : decode prog_8_method_2_code 27 = .ok (.iload_n 1, 1) := by decide +kernel
theorem d_O_markLive_28 : decode prog_8_method_2_code 28 = .ok (.putfield 21, 3) := by decide +kernel
theorem d_O_markLive_31 : decode prog_8_method_2_code 31 = .ok (.iinc 2 1, 3) := by decide +kernel
theorem d_O_markLive_34 : decode prog_8_method_2_code 34 = .ok (.goto (-27), 3) := by decide +kernel
theorem d_O_markLive_37 : decode prog_8_method_2_code 37 = .ok (.return_, 1) := by decide +kernel
def b_O_markLive_7 (y0 : Nat) (y1 : Int32) (y2 : Int32) (h : Hp) : Option ((Int32 × Hp) ⊕ (Hp)) :=
  if (4 : Int32) ≤ y2 then (some (.inr h)) else (gd (isK h y0 6) (dr (hpR h y0 3) fun a6 => gd (isA h a6 5) (gd (inb y2 (hpL h a6)) (if (hpR h a6 y2.toNatClampNeg) = none then (some (.inl ((y2 + (1 : Int32)), h))) else (dr (hpR h a6 y2.toNatClampNeg) fun a11 => gd (isK h a11 3) (nm (wI h a11 2 y1) fun h14 => some (.inl ((y2 + (1 : Int32)), h14))))))))
set_option maxRecDepth 100000 in
set_option maxHeartbeats 4000000 in
theorem zb_O_markLive_7 {l : Launch} {C : Ct} {mi : Nat} {y0 : Nat} {y1 : Int32} {y2 : Int32} {h h' : Hp} {q : ((Int32 × Hp) ⊕ (Hp))} (hf : b_O_markLive_7 y0 y1 y2 h = some q) (kc : ∀ s, q = .inl s → Z l C mi m_O_markLive 0 7 [(0, vr (some y0)), (1, vi y1), (2, vi s.1)] [] s.2 none h') (ke : ∀ x, q = .inr x → Z l C mi m_O_markLive 0 37 [] [] x none h') : Z l C mi m_O_markLive 0 7 [(0, vr (some y0)), (1, vi y1), (2, vi y2)] [] h none h' := by
  unfold b_O_markLive_7 at hf
  refine z_iload_n 2 d_O_markLive_7 rfl rfl ?_
  refine z_iconst (v := (4 : Int32)) d_O_markLive_8 rfl ?_
  refine z_icmp_ge (tgt := 37) d_O_markLive_9 (by decide) (fun c4 => ?_) (fun c4 => ?_)
  · rw [if_pos c4] at hf
    refine z_ls [] rfl ?_
    exact ke h (Option.some.inj hf).symm
  · rw [if_neg c4] at hf
    refine z_aload_n 0 d_O_markLive_12 rfl rfl ?_
    obtain ⟨g5, hf⟩ := gd_some hf
    refine z_getR d_O_markLive_13 (fl_K (isK_eq g5) fl_O_11_6) (fi_K (isK_eq g5) rfl) rfl ?_
    refine z_iload_n 2 d_O_markLive_16 rfl rfl ?_
    obtain ⟨a6, e7, hf⟩ := dr_some hf
    obtain ⟨g8, hf⟩ := gd_some hf
    obtain ⟨g9, hf⟩ := gd_some hf
    refine z_aald d_O_markLive_17 e7 (isA_eq g8).1 (by rw [(isA_eq g8).2]; decide) (inb_vp g9) ?_
    refine z_ifnull (tgt := 31) d_O_markLive_18 (by decide) (fun c10 => ?_) (fun c10 => ?_)
    · rw [if_pos c10] at hf
      refine z_iinc (ls2 := [(2, vi (y2 + (1 : Int32))), (0, vr (some y0)), (1, vi y1)]) 2 d_O_markLive_31 rfl rfl (by decide) rfl ?_
      refine z_goto (tgt := 7) d_O_markLive_34 (by decide) ?_
      refine z_ls [1, 2, 0] rfl ?_
      exact kc ((y2 + (1 : Int32)), h) (Option.some.inj hf).symm
    · rw [if_neg c10] at hf
      refine z_aload_n 0 d_O_markLive_21 rfl rfl ?_
      refine z_getR d_O_markLive_22 (fl_K (isK_eq g5) fl_O_11_6) (fi_K (isK_eq g5) rfl) rfl ?_
      refine z_iload_n 2 d_O_markLive_25 rfl rfl ?_
      refine z_aald d_O_markLive_26 e7 (isA_eq g8).1 (by rw [(isA_eq g8).2]; decide) (inb_vp g9) ?_
      refine z_iload_n 1 d_O_markLive_27 rfl rfl ?_
      obtain ⟨a11, e12, hf⟩ := dr_some hf
      obtain ⟨g13, hf⟩ := gd_some hf
      obtain ⟨h14, eh15, hf⟩ := nm_some hf
      refine z_putI d_O_markLive_28 (fl_K (isK_eq g13) fl_O_21_3) (pu_K (isK_eq g13) (fun q hq => by cases (Option.some.inj hq); exact Or.inl rfl)) (fi_K (isK_eq g13) rfl) e12 ?_
      refine z_hp eh15 ?_
      refine z_iinc (ls2 := [(2, vi (y2 + (1 : Int32))), (0, vr (some y0)), (1, vi y1)]) 2 d_O_markLive_31 rfl rfl (by decide) rfl ?_
      refine z_goto (tgt := 7) d_O_markLive_34 (by decide) ?_
      refine z_ls [1, 2, 0] rfl ?_
      exact kc ((y2 + (1 : Int32)), h14) (Option.some.inj hf).symm
def l_O_markLive_7 (y0 : Nat) (y1 : Int32) (s : Int32 × Hp) : Option (Hp) := lp (fun s => b_O_markLive_7 y0 y1 s.1 s.2) FU s
theorem zzl_O_markLive_7 {l : Launch} {C : Ct} {mi : Nat} {y0 : Nat} {y1 : Int32} {h' : Hp} : ∀ (n : Nat) (s : Int32 × Hp) (x : (Hp)), lp (fun s : Int32 × Hp => b_O_markLive_7 y0 y1 s.1 s.2) n s = some x → Z l C mi m_O_markLive 0 37 [] [] x none h' → Z l C mi m_O_markLive 0 7 [(0, vr (some y0)), (1, vi y1), (2, vi s.1)] [] s.2 none h' := by
  intro n
  induction n with
  | zero => intro s x hl; cases hl
  | succ n ih =>
    intro s x hl ke
    rcases lp_some hl with ⟨s2, hb, hl2⟩ | hb
    · exact zb_O_markLive_7 hb (fun s3 e3 => by cases e3; refine z_ls [0, 1, 2] rfl ?_; exact ih s2 x hl2 ke) (fun x e3 => by cases e3)
    · exact zb_O_markLive_7 hb (fun s3 e3 => by cases e3) (fun x e3 => by cases e3; exact ke)
theorem zl_O_markLive_7 {l : Launch} {C : Ct} {mi : Nat} {y0 : Nat} {y1 : Int32} {h' : Hp} {s : Int32 × Hp} {x : (Hp)} (hl : l_O_markLive_7 y0 y1 s = some x) (ke : Z l C mi m_O_markLive 0 37 [] [] x none h') : Z l C mi m_O_markLive 0 7 [(0, vr (some y0)), (1, vi y1), (2, vi s.1)] [] s.2 none h' := zzl_O_markLive_7 FU s x hl ke
def f_O_markLive (a0 : Nat) (p1 : Int32) (h : Hp) : Option Hp :=
  gd (isK h a0 6) (nm (wI h a0 2 p1) fun h2 => bd (l_O_markLive_7 a0 p1 ((0 : Int32), h2)) fun x16 => some x16)
set_option maxRecDepth 100000 in
set_option maxHeartbeats 4000000 in
theorem zf_O_markLive {l : Launch} {C : Ct} {mi : Nat} {a0 : Nat} {p1 : Int32} {h h' : Hp} (hf : f_O_markLive a0 p1 h = some h') : Z l C mi m_O_markLive 0 0 [(0, vr (some a0)), (1, vi p1)] [] h none h' := by
  unfold f_O_markLive at hf
  refine z_aload_n 0 d_O_markLive_0 rfl rfl ?_
  refine z_iload_n 1 d_O_markLive_1 rfl rfl ?_
  obtain ⟨g1, hf⟩ := gd_some hf
  obtain ⟨h2, eh3, hf⟩ := nm_some hf
  refine z_putI d_O_markLive_2 (fl_K (isK_eq g1) fl_O_17_6) (pu_K (isK_eq g1) (fun q hq => by cases (Option.some.inj hq); exact Or.inl rfl)) (fi_K (isK_eq g1) rfl) rfl ?_
  refine z_hp eh3 ?_
  refine z_iconst (v := (0 : Int32)) d_O_markLive_5 rfl ?_
  refine z_istore_n (ls2 := [(2, vi (0 : Int32)), (0, vr (some a0)), (1, vi p1)]) d_O_markLive_6 rfl (by decide) rfl ?_
  obtain ⟨x16, el17, hf⟩ := bd_some hf
  refine z_ls [1, 2, 0] rfl ?_
  refine zl_O_markLive_7 el17 ?_
  cases (Option.some.inj hf)
  exact z_ret d_O_markLive_37 rfl
theorem c_O_markLive {l : Launch} {C : Ct} {mi : Nat} {a0 : Nat} {p1 : Int32} {h h' : Hp} (hf : f_O_markLive a0 p1 h = some h') : Mt l C mi m_O_markLive 0 [vr (some a0), vi p1] h none h' := mt_V rfl rfl (by decide) (Nat.le_of_ble_eq_true rfl) (zf_O_markLive hf)
-- VersionMaps$Meta.markLive(I)V
def m_E_markLive : Mi := (⟨"VersionMaps$Meta", "markLive", "(I)V"⟩, prog_5_method_4_code, 3, (Option.none : Option Jvm.ClassFile.FieldType), .return_)
theorem cw_E_markLive : cw_ok m_E_markLive 1 := ⟨by decide +kernel, by decide +kernel, by decide +kernel, by decide +kernel⟩
theorem im_E_markLive : Cond.instanceMethod m_E_markLive.1 ∈ lw_w := by decide +kernel
theorem se_E_markLive : Cond.selects "VersionMaps$Meta" m_E_markLive.1 m_E_markLive.1 ∈ lw_w := by decide +kernel
theorem d_E_markLive_0 : decode prog_5_method_4_code 0 = .ok (.aload_n 0, 1) := by decide +kernel
theorem d_E_markLive_1 : decode prog_5_method_4_code 1 = .ok (.iload_n 1, 1) := by decide +kernel
theorem d_E_markLive_2 : decode prog_5_method_4_code 2 = .ok (.putfield 40, 3) := by decide +kernel
theorem d_E_markLive_5 : decode prog_5_method_4_code 5 = .ok (.iconst 0, 1) := by decide +kernel
theorem d_E_markLive_6 : decode prog_5_method_4_code 6 = .ok (.istore_n 2, 1) := by decide +kernel
theorem d_E_markLive_7 : decode prog_5_method_4_code 7 = .ok (.iload_n 2, 1) := by decide +kernel
theorem d_E_markLive_8 : decode prog_5_method_4_code 8 = .ok (.iconst 4, 1) := by decide +kernel
theorem d_E_markLive_9 : decode prog_5_method_4_code 9 = .ok (.if_icmp .ge 28, 3) := by decide +kernel
theorem d_E_markLive_12 : decode prog_5_method_4_code 12 = .ok (.aload_n 0, 1) := by decide +kernel
theorem d_E_markLive_13 : decode prog_5_method_4_code 13 = .ok (.getfield 11, 3) := by decide +kernel
theorem d_E_markLive_16 : decode prog_5_method_4_code 16 = .ok (.iload_n 2, 1) := by decide +kernel
theorem d_E_markLive_17 : decode prog_5_method_4_code 17 = .ok (.aaload, 1) := by decide +kernel
theorem d_E_markLive_18 : decode prog_5_method_4_code 18 = .ok (.ifnull 13, 3) := by decide +kernel
theorem d_E_markLive_21 : decode prog_5_method_4_code 21 = .ok (.aload_n 0, 1) := by decide +kernel
theorem d_E_markLive_22 : decode prog_5_method_4_code 22 = .ok (.getfield 11, 3) := by decide +kernel
theorem d_E_markLive_25 : decode prog_5_method_4_code 25 = .ok (.iload_n 2, 1) := by decide +kernel
theorem d_E_markLive_26 : decode prog_5_method_4_code 26 = .ok (.aaload, 1) := by decide +kernel
theorem d_E_markLive_27 : decode prog_5_method_4_code 27 = .ok (.iload_n 1, 1) := by decide +kernel
theorem d_E_markLive_28 : decode prog_5_method_4_code 28 = .ok (.invokevirtual 43, 3) := by decide +kernel
theorem d_E_markLive_31 : decode prog_5_method_4_code 31 = .ok (.iinc 2 1, 3) := by decide +kernel
theorem d_E_markLive_34 : decode prog_5_method_4_code 34 = .ok (.goto (-27), 3) := by decide +kernel
theorem d_E_markLive_37 : decode prog_5_method_4_code 37 = .ok (.return_, 1) := by decide +kernel
def b_E_markLive_7 (y0 : Nat) (y1 : Int32) (y2 : Int32) (h : Hp) : Option ((Int32 × Hp) ⊕ (Hp)) :=
  if (4 : Int32) ≤ y2 then (some (.inr h)) else (gd (isK h y0 4) (dr (hpR h y0 4) fun a6 => gd (isA h a6 4) (gd (inb y2 (hpL h a6)) (if (hpR h a6 y2.toNatClampNeg) = none then (some (.inl ((y2 + (1 : Int32)), h))) else (dr (hpR h a6 y2.toNatClampNeg) fun a11 => gd (isK h a11 6) (cv (f_O_markLive a11 y1 h) fun h14 => some (.inl ((y2 + (1 : Int32)), h14))))))))
set_option maxRecDepth 100000 in
set_option maxHeartbeats 4000000 in
theorem zb_E_markLive_7 {l : Launch} {C : Ct} {mi : Nat} {y0 : Nat} {y1 : Int32} {y2 : Int32} {h h' : Hp} {q : ((Int32 × Hp) ⊕ (Hp))} (hf : b_E_markLive_7 y0 y1 y2 h = some q) (kc : ∀ s, q = .inl s → Z l C mi m_E_markLive 1 7 [(0, vr (some y0)), (1, vi y1), (2, vi s.1)] [] s.2 none h') (ke : ∀ x, q = .inr x → Z l C mi m_E_markLive 1 37 [] [] x none h') : Z l C mi m_E_markLive 1 7 [(0, vr (some y0)), (1, vi y1), (2, vi y2)] [] h none h' := by
  unfold b_E_markLive_7 at hf
  refine z_iload_n 2 d_E_markLive_7 rfl rfl ?_
  refine z_iconst (v := (4 : Int32)) d_E_markLive_8 rfl ?_
  refine z_icmp_ge (tgt := 37) d_E_markLive_9 (by decide) (fun c4 => ?_) (fun c4 => ?_)
  · rw [if_pos c4] at hf
    refine z_ls [] rfl ?_
    exact ke h (Option.some.inj hf).symm
  · rw [if_neg c4] at hf
    refine z_aload_n 0 d_E_markLive_12 rfl rfl ?_
    obtain ⟨g5, hf⟩ := gd_some hf
    refine z_getR d_E_markLive_13 (fl_K (isK_eq g5) fl_E_11_4) (fi_K (isK_eq g5) rfl) rfl ?_
    refine z_iload_n 2 d_E_markLive_16 rfl rfl ?_
    obtain ⟨a6, e7, hf⟩ := dr_some hf
    obtain ⟨g8, hf⟩ := gd_some hf
    obtain ⟨g9, hf⟩ := gd_some hf
    refine z_aald d_E_markLive_17 e7 (isA_eq g8).1 (by rw [(isA_eq g8).2]; decide) (inb_vp g9) ?_
    refine z_ifnull (tgt := 31) d_E_markLive_18 (by decide) (fun c10 => ?_) (fun c10 => ?_)
    · rw [if_pos c10] at hf
      refine z_iinc (ls2 := [(2, vi (y2 + (1 : Int32))), (0, vr (some y0)), (1, vi y1)]) 2 d_E_markLive_31 rfl rfl (by decide) rfl ?_
      refine z_goto (tgt := 7) d_E_markLive_34 (by decide) ?_
      refine z_ls [1, 2, 0] rfl ?_
      exact kc ((y2 + (1 : Int32)), h) (Option.some.inj hf).symm
    · rw [if_neg c10] at hf
      refine z_aload_n 0 d_E_markLive_21 rfl rfl ?_
      refine z_getR d_E_markLive_22 (fl_K (isK_eq g5) fl_E_11_4) (fi_K (isK_eq g5) rfl) rfl ?_
      refine z_iload_n 2 d_E_markLive_25 rfl rfl ?_
      refine z_aald d_E_markLive_26 e7 (isA_eq g8).1 (by rw [(isA_eq g8).2]; decide) (inb_vp g9) ?_
      refine z_iload_n 1 d_E_markLive_27 rfl rfl ?_
      obtain ⟨a11, e12, hf⟩ := dr_some hf
      obtain ⟨g13, hf⟩ := gd_some hf
      obtain ⟨h14, ec15, hf⟩ := cv_some hf
      refine z_callVx e12 (c_O_markLive ec15) d_E_markLive_28 cw_O_markLive lk_E_43 im_O_markLive se_O_markLive (kc_K (isK_eq g13) kc_6) ⟨by decide, by decide⟩ (Nat.le_of_ble_eq_true rfl) rfl ?_
      refine z_iinc (ls2 := [(2, vi (y2 + (1 : Int32))), (0, vr (some y0)), (1, vi y1)]) 2 d_E_markLive_31 rfl rfl (by decide) rfl ?_
      refine z_goto (tgt := 7) d_E_markLive_34 (by decide) ?_
      refine z_ls [1, 2, 0] rfl ?_
      exact kc ((y2 + (1 : Int32)), h14) (Option.some.inj hf).symm
def l_E_markLive_7 (y0 : Nat) (y1 : Int32) (s : Int32 × Hp) : Option (Hp) := lp (fun s => b_E_markLive_7 y0 y1 s.1 s.2) FU s
theorem zzl_E_markLive_7 {l : Launch} {C : Ct} {mi : Nat} {y0 : Nat} {y1 : Int32} {h' : Hp} : ∀ (n : Nat) (s : Int32 × Hp) (x : (Hp)), lp (fun s : Int32 × Hp => b_E_markLive_7 y0 y1 s.1 s.2) n s = some x → Z l C mi m_E_markLive 1 37 [] [] x none h' → Z l C mi m_E_markLive 1 7 [(0, vr (some y0)), (1, vi y1), (2, vi s.1)] [] s.2 none h' := by
  intro n
  induction n with
  | zero => intro s x hl; cases hl
  | succ n ih =>
    intro s x hl ke
    rcases lp_some hl with ⟨s2, hb, hl2⟩ | hb
    · exact zb_E_markLive_7 hb (fun s3 e3 => by cases e3; refine z_ls [0, 1, 2] rfl ?_; exact ih s2 x hl2 ke) (fun x e3 => by cases e3)
    · exact zb_E_markLive_7 hb (fun s3 e3 => by cases e3) (fun x e3 => by cases e3; exact ke)
theorem zl_E_markLive_7 {l : Launch} {C : Ct} {mi : Nat} {y0 : Nat} {y1 : Int32} {h' : Hp} {s : Int32 × Hp} {x : (Hp)} (hl : l_E_markLive_7 y0 y1 s = some x) (ke : Z l C mi m_E_markLive 1 37 [] [] x none h') : Z l C mi m_E_markLive 1 7 [(0, vr (some y0)), (1, vi y1), (2, vi s.1)] [] s.2 none h' := zzl_E_markLive_7 FU s x hl ke
def f_E_markLive (a0 : Nat) (p1 : Int32) (h : Hp) : Option Hp :=
  gd (isK h a0 4) (nm (wI h a0 2 p1) fun h2 => bd (l_E_markLive_7 a0 p1 ((0 : Int32), h2)) fun x16 => some x16)
set_option maxRecDepth 100000 in
set_option maxHeartbeats 4000000 in
theorem zf_E_markLive {l : Launch} {C : Ct} {mi : Nat} {a0 : Nat} {p1 : Int32} {h h' : Hp} (hf : f_E_markLive a0 p1 h = some h') : Z l C mi m_E_markLive 1 0 [(0, vr (some a0)), (1, vi p1)] [] h none h' := by
  unfold f_E_markLive at hf
  refine z_aload_n 0 d_E_markLive_0 rfl rfl ?_
  refine z_iload_n 1 d_E_markLive_1 rfl rfl ?_
  obtain ⟨g1, hf⟩ := gd_some hf
  obtain ⟨h2, eh3, hf⟩ := nm_some hf
  refine z_putI d_E_markLive_2 (fl_K (isK_eq g1) fl_E_40_4) (pu_K (isK_eq g1) (fun q hq => by cases (Option.some.inj hq); exact Or.inl rfl)) (fi_K (isK_eq g1) rfl) rfl ?_
  refine z_hp eh3 ?_
  refine z_iconst (v := (0 : Int32)) d_E_markLive_5 rfl ?_
  refine z_istore_n (ls2 := [(2, vi (0 : Int32)), (0, vr (some a0)), (1, vi p1)]) d_E_markLive_6 rfl (by decide) rfl ?_
  obtain ⟨x16, el17, hf⟩ := bd_some hf
  refine z_ls [1, 2, 0] rfl ?_
  refine zl_E_markLive_7 el17 ?_
  cases (Option.some.inj hf)
  exact z_ret d_E_markLive_37 rfl
theorem c_E_markLive {l : Launch} {C : Ct} {mi : Nat} {a0 : Nat} {p1 : Int32} {h h' : Hp} (hf : f_E_markLive a0 p1 h = some h') : Mt l C mi m_E_markLive 1 [vr (some a0), vi p1] h none h' := mt_V rfl rfl (by decide) (Nat.le_of_ble_eq_true rfl) (zf_E_markLive hf)
-- VersionMaps$Present.load(LVersionMaps$Meta;)V
def m_P_load : Mi := (⟨"VersionMaps$Present", "load", "(LVersionMaps$Meta;)V"⟩, prog_7_method_10_code, 5, (Option.none : Option Jvm.ClassFile.FieldType), .return_)
theorem cw_P_load : cw_ok m_P_load 1 := ⟨by decide +kernel, by decide +kernel, by decide +kernel, by decide +kernel⟩
theorem im_P_load : Cond.instanceMethod m_P_load.1 ∈ lw_w := by decide +kernel
theorem se_P_load : Cond.selects "VersionMaps$Present" m_P_load.1 m_P_load.1 ∈ lw_w := by decide +kernel
theorem d_P_load_0 : decode prog_7_method_10_code 0 = .ok (.aload_n 0, 1) := by decide +kernel
theorem d_P_load_1 : decode prog_7_method_10_code 1 = .ok (.invokevirtual 54, 3) := by decide +kernel
theorem d_P_load_4 : decode prog_7_method_10_code 4 = .ok (.iconst 0, 1) := by decide +kernel
theorem d_P_load_5 : decode prog_7_method_10_code 5 = .ok (.istore_n 2, 1) := by decide +kernel
theorem d_P_load_6 : decode prog_7_method_10_code 6 = .ok (.iload_n 2, 1) := by decide +kernel
theorem d_P_load_7 : decode prog_7_method_10_code 7 = .ok (.iconst 4, 1) := by decide +kernel
theorem d_P_load_8 : decode prog_7_method_10_code 8 = .ok (.if_icmp .ge 93, 3) := by decide +kernel
theorem d_P_load_11 : decode prog_7_method_10_code 11 = .ok (.aload_n 0, 1) := by decide +kernel
theorem d_P_load_12 : decode prog_7_method_10_code 12 = .ok (.getfield 15, 3) := by decide +kernel
theorem d_P_load_15 : decode prog_7_method_10_code 15 = .ok (.iload_n 2, 1) := by decide +kernel
theorem d_P_load_16 : decode prog_7_method_10_code 16 = .ok (.iconst 0, 1) := by decide +kernel
theorem d_P_load_17 : decode prog_7_method_10_code 17 = .ok (.iastore, 1) := by decide +kernel
theorem d_P_load_18 : decode prog_7_method_10_code 18 = .ok (.iconst 0, 1) := by decide +kernel
theorem d_P_load_19 : decode prog_7_method_10_code 19 = .ok (.istore_n 3, 1) := by decide +kernel
theorem d_P_load_20 : decode prog_7_method_10_code 20 = .ok (.iload_n 3, 1) := by decide +kernel
theorem d_P_load_21 : decode prog_7_method_10_code 21 = .ok (.iconst 4, 1) := by decide +kernel
theorem d_P_load_22 : decode prog_7_method_10_code 22 = .ok (.if_icmp .ge 73, 3) := by decide +kernel
theorem d_P_load_25 : decode prog_7_method_10_code 25 = .ok (.aload_n 1, 1) := by decide +kernel
theorem d_P_load_26 : decode prog_7_method_10_code 26 = .ok (.ifnonnull 7, 3) := by decide +kernel
theorem d_P_load_29 : decode prog_7_method_10_code 29 = .ok (.aconst_null, 1) := by decide +kernel
theorem d_P_load_30 : decode prog_7_method_10_code 30 = .ok (.goto 9, 3) := by decide +kernel
theorem d_P_load_33 : decode prog_7_method_10_code 33 = .ok (.aload_n 1, 1) := by decide +kernel
theorem d_P_load_34 : decode prog_7_method_10_code 34 = .ok (.iload_n 2, 1) := by decide +kernel
theorem d_P_load_35 : decode prog_7_method_10_code 35 = .ok (.iload_n 3, 1) := by decide +kernel
theorem d_P_load_36 : decode prog_7_method_10_code 36 = .ok (.invokevirtual 47, 3) := by decide +kernel
theorem d_P_load_39 : decode prog_7_method_10_code 39 = .ok (.astore 4, 2) := by decide +kernel
theorem d_P_load_41 : decode prog_7_method_10_code 41 = .ok (.aload 4, 2) := by decide +kernel
theorem d_P_load_43 : decode prog_7_method_10_code 43 = .ok (.ifnull 46, 3) := by decide +kernel
theorem d_P_load_46 : decode prog_7_method_10_code 46 = .ok (.aload_n 0, 1) := by decide +kernel
theorem d_P_load_47 : decode prog_7_method_10_code 47 = .ok (.getfield 15, 3) := by decide +kernel
theorem d_P_load_50 : decode prog_7_method_10_code 50 = .ok (.iload_n 2, 1) := by decide +kernel
theorem d_P_load_51 : decode prog_7_method_10_code 51 = .ok (.dup2, 1) := by decide +kernel
theorem d_P_load_52 : decode prog_7_method_10_code 52 = .ok (.iaload, 1) := by decide +kernel
theorem d_P_load_53 : decode prog_7_method_10_code 53 = .ok (.aload 4, 2) := by decide +kernel
theorem d_P_load_55 : decode prog_7_method_10_code 55 = .ok (.getfield 57, 3) := by decide +kernel
theorem d_P_load_58 : decode prog_7_method_10_code 58 = .ok (.bipush 8, 2) := by decide +kernel
theorem d_P_load_60 : decode prog_7_method_10_code 60 = .ok (.iload_n 3, 1) := by decide +kernel
theorem d_P_load_61 : decode prog_7_method_10_code 61 = .ok (.imul, 1) := by decide +kernel
theorem d_P_load_62 : decode prog_7_method_10_code 62 = .ok (.ishl, 1) := by decide +kernel
theorem d_P_load_63 : decode prog_7_method_10_code 63 = .ok (.ior, 1) := by decide +kernel
theorem d_P_load_64 : decode prog_7_method_10_code 64 = .ok (.iastore, 1) := by decide +kernel
theorem d_P_load_65 : decode prog_7_method_10_code 65 = .ok (.aload 4, 2) := by decide +kernel
theorem d_P_load_67 : decode prog_7_method_10_code 67 = .ok (.getfield 59, 3) := by decide +kernel
theorem d_P_load_70 : decode prog_7_method_10_code 70 = .ok (.iconst 0, 1) := by decide +kernel
theorem d_P_load_71 : decode prog_7_method_10_code 71 = .ok (.aload_n 0, 1) := by decide +kernel
theorem d_P_load_72 : decode prog_7_method_10_code 72 = .ok (.getfield 9, 3) := by decide +kernel
theorem d_P_load_75 : decode prog_7_method_10_code 75 = .ok (.bipush 32, 2) := by decide +kernel
theorem d_P_load_77 : decode prog_7_method_10_code 77 = .ok (.iload_n 2, 1) := by decide +kernel
theorem d_P_load_78 : decode prog_7_method_10_code 78 = .ok (.imul, 1) := by decide +kernel
theorem d_P_load_79 : decode prog_7_method_10_code 79 = .ok (.bipush 8, 2) := by decide +kernel
theorem d_P_load_81 : decode prog_7_method_10_code 81 = .ok (.iload_n 3, 1) := by decide +kernel
theorem d_P_load_82 : decode prog_7_method_10_code 82 = .ok (.imul, 1) := by decide +kernel
theorem d_P_load_83 : decode prog_7_method_10_code 83 = .ok (.iadd, 1) := by decide +kernel
theorem d_P_load_84 : decode prog_7_method_10_code 84 = .ok (.bipush 8, 2) := by decide +kernel
theorem d_P_load_86 : decode prog_7_method_10_code 86 = .ok (.invokestatic 60, 3) := by decide +kernel
theorem d_P_load_89 : decode prog_7_method_10_code 89 = .ok (.iinc 3 1, 3) := by decide +kernel
theorem d_P_load_92 : decode prog_7_method_10_code 92 = .ok (.goto (-72), 3) := by decide +kernel
theorem d_P_load_95 : decode prog_7_method_10_code 95 = .ok (.iinc 2 1, 3) := by decide +kernel
theorem d_P_load_98 : decode prog_7_method_10_code 98 = .ok (.goto (-92), 3) := by decide +kernel
theorem d_P_load_101 : decode prog_7_method_10_code 101 = .ok (.return_, 1) := by decide +kernel
def j_P_load_39_L20 (y0 : Nat) (y1 : Option Nat) (y2 : Int32) (y3 : Int32) (w0 : Option Nat) (h : Hp) : Option ((Int32 × Hp) ⊕ (Hp)) :=
  if w0 = none then (some (.inl ((y3 + (1 : Int32)), h))) else (gd (isK h y0 5) (dr (hpR h y0 1) fun a22 => gd (isA h a22 0) (gd (inb y2 (hpL h a22)) (dr w0 fun a26 => gd (isK h a26 3) (gd (isO h a22 0) (nm (wI h a22 y2.toNatClampNeg ((hpI h a22 y2.toNatClampNeg) ||| ((hpI h a26 4) <<< (((8 : Int32) * y3) &&& 31)))) fun h30 => dr (hpR h30 a26 3) fun a32 => dr (hpR h30 y0 0) fun a34 => gd (isA h30 a32 0) (gd (isO h30 a34 0) (gd (cpB h30 a32 a34 (0 : Int32) (((32 : Int32) * y2) + ((8 : Int32) * y3)) (8 : Int32)) (nm (cpI h30 a32 (0 : Int32).toNatClampNeg a34 (((32 : Int32) * y2) + ((8 : Int32) * y3)).toNatClampNeg (8 : Int32).toNatClampNeg) fun h39 => some (.inl ((y3 + (1 : Int32)), h39)))))))))))
set_option maxRecDepth 100000 in
set_option maxHeartbeats 4000000 in
theorem zj_P_load_39_L20 {l : Launch} {C : Ct} {mi : Nat} {y0 : Nat} {y1 : Option Nat} {y2 : Int32} {y3 : Int32} {w0 : Option Nat} {h h' : Hp} {q : ((Int32 × Hp) ⊕ (Hp))} (hf : j_P_load_39_L20 y0 y1 y2 y3 w0 h = some q) (kc : ∀ s, q = .inl s → Z l C mi m_P_load 1 20 [(0, vr (some y0)), (1, vr y1), (2, vi y2), (3, vi s.1)] [] s.2 none h') (ke : ∀ x, q = .inr x → Z l C mi m_P_load 1 95 [(0, vr (some y0)), (1, vr y1), (2, vi y2)] [] x none h') : Z l C mi m_P_load 1 39 [(0, vr (some y0)), (1, vr y1), (2, vi y2), (3, vi y3)] [vr w0] h none h' := by
  unfold j_P_load_39_L20 at hf
  refine z_astore (ls2 := [(4, vr w0), (0, vr (some y0)), (1, vr y1), (2, vi y2), (3, vi y3)]) d_P_load_39 (by decide) rfl ?_
  refine z_aload 0 d_P_load_41 rfl ?_
  refine z_ifnull (tgt := 89) d_P_load_43 (by decide) (fun c20 => ?_) (fun c20 => ?_)
  · rw [if_pos c20] at hf
    refine z_iinc (ls2 := [(3, vi (y3 + (1 : Int32))), (4, vr w0), (0, vr (some y0)), (1, vr y1), (2, vi y2)]) 4 d_P_load_89 rfl rfl (by decide) rfl ?_
    refine z_goto (tgt := 20) d_P_load_92 (by decide) ?_
    refine z_ls [2, 3, 4, 0] rfl ?_
    exact kc ((y3 + (1 : Int32)), h) (Option.some.inj hf).symm
  · rw [if_neg c20] at hf
    refine z_aload_n 1 d_P_load_46 rfl rfl ?_
    obtain ⟨g21, hf⟩ := gd_some hf
    refine z_getR d_P_load_47 (fl_K (isK_eq g21) fl_P_15_5) (fi_K (isK_eq g21) rfl) rfl ?_
    refine z_iload_n 3 d_P_load_50 rfl rfl ?_
    refine z_dup2 d_P_load_51 rfl rfl ?_
    obtain ⟨a22, e23, hf⟩ := dr_some hf
    obtain ⟨g24, hf⟩ := gd_some hf
    obtain ⟨g25, hf⟩ := gd_some hf
    refine z_iald d_P_load_52 e23 (isA_eq g24).1 (isA_eq g24).2 (inb_vp g25) ?_
    refine z_aload 0 d_P_load_53 rfl ?_
    obtain ⟨a26, e27, hf⟩ := dr_some hf
    obtain ⟨g28, hf⟩ := gd_some hf
    refine z_getI d_P_load_55 (fl_K (isK_eq g28) fl_P_57_3) (fi_K (isK_eq g28) rfl) e27 ?_
    refine z_bipush (v := (8 : Int32)) d_P_load_58 (by decide) ?_
    refine z_iload_n 4 d_P_load_60 rfl rfl ?_
    refine z_imul d_P_load_61 ?_
    refine z_ishl d_P_load_62 ?_
    refine z_ior d_P_load_63 ?_
    obtain ⟨g29, hf⟩ := gd_some hf
    obtain ⟨h30, eh31, hf⟩ := nm_some hf
    refine z_iast d_P_load_64 e23 (isO_eq g29).1 (isO_eq g29).2 (inb_vp g25) ?_
    refine z_hp eh31 ?_
    refine z_aload 0 d_P_load_65 rfl ?_
    refine z_getR d_P_load_67 (fl_K (isK_eq (isK_wI eh31 g28)) fl_P_59_3) (fi_K (isK_eq (isK_wI eh31 g28)) rfl) e27 ?_
    refine z_iconst (v := (0 : Int32)) d_P_load_70 rfl ?_
    refine z_aload_n 1 d_P_load_71 rfl rfl ?_
    refine z_getR d_P_load_72 (fl_K (isK_eq (isK_wI eh31 g21)) fl_P_9_5) (fi_K (isK_eq (isK_wI eh31 g21)) rfl) rfl ?_
    refine z_bipush (v := (32 : Int32)) d_P_load_75 (by decide) ?_
    refine z_iload_n 3 d_P_load_77 rfl rfl ?_
    refine z_imul d_P_load_78 ?_
    refine z_bipush (v := (8 : Int32)) d_P_load_79 (by decide) ?_
    refine z_iload_n 4 d_P_load_81 rfl rfl ?_
    refine z_imul d_P_load_82 ?_
    refine z_iadd d_P_load_83 ?_
    refine z_bipush (v := (8 : Int32)) d_P_load_84 (by decide) ?_
    obtain ⟨a32, e33, hf⟩ := dr_some hf
    obtain ⟨a34, e35, hf⟩ := dr_some hf
    obtain ⟨g36, hf⟩ := gd_some hf
    obtain ⟨g37, hf⟩ := gd_some hf
    obtain ⟨g38, hf⟩ := gd_some hf
    obtain ⟨h39, eh40, hf⟩ := nm_some hf
    refine z_copyI d_P_load_86 (show Cond.methodLink _ _ _ ∈ lw_w by decide +kernel) (by decide) (Nat.le_of_ble_eq_true rfl) e33 e35 (isA_eq g36).1 (isA_eq g36).2 (isO_eq g37).1 (isO_eq g37).2 (cpB_eq g38).1 (cpB_eq g38).2.1 (cpB_eq g38).2.2.1 (cpB_eq g38).2.2.2.1 (cpB_eq g38).2.2.2.2 ?_
    refine z_hp eh40 ?_
    refine z_iinc (ls2 := [(3, vi (y3 + (1 : Int32))), (4, vr w0), (0, vr (some y0)), (1, vr y1), (2, vi y2)]) 4 d_P_load_89 rfl rfl (by decide) rfl ?_
    refine z_goto (tgt := 20) d_P_load_92 (by decide) ?_
    refine z_ls [2, 3, 4, 0] rfl ?_
    exact kc ((y3 + (1 : Int32)), h39) (Option.some.inj hf).symm
def b_P_load_20 (y0 : Nat) (y1 : Option Nat) (y2 : Int32) (y3 : Int32) (h : Hp) : Option ((Int32 × Hp) ⊕ (Hp)) :=
  if (4 : Int32) ≤ y3 then (some (.inr h)) else (if y1 = none then (j_P_load_39_L20 y0 y1 y2 y3 none h) else (dr y1 fun a14 => gd (isK h a14 4) (cl (f_E_leafOf a14 y2 y3 h) fun v19 h17 => j_P_load_39_L20 y0 y1 y2 y3 v19 h17)))
set_option maxRecDepth 100000 in
set_option maxHeartbeats 4000000 in
theorem zb_P_load_20 {l : Launch} {C : Ct} {mi : Nat} {y0 : Nat} {y1 : Option Nat} {y2 : Int32} {y3 : Int32} {h h' : Hp} {q : ((Int32 × Hp) ⊕ (Hp))} (hf : b_P_load_20 y0 y1 y2 y3 h = some q) (kc : ∀ s, q = .inl s → Z l C mi m_P_load 1 20 [(0, vr (some y0)), (1, vr y1), (2, vi y2), (3, vi s.1)] [] s.2 none h') (ke : ∀ x, q = .inr x → Z l C mi m_P_load 1 95 [(0, vr (some y0)), (1, vr y1), (2, vi y2)] [] x none h') : Z l C mi m_P_load 1 20 [(0, vr (some y0)), (1, vr y1), (2, vi y2), (3, vi y3)] [] h none h' := by
  unfold b_P_load_20 at hf
  refine z_iload_n 3 d_P_load_20 rfl rfl ?_
  refine z_iconst (v := (4 : Int32)) d_P_load_21 rfl ?_
  refine z_icmp_ge (tgt := 95) d_P_load_22 (by decide) (fun c12 => ?_) (fun c12 => ?_)
  · rw [if_pos c12] at hf
    refine z_ls [0, 1, 2] rfl ?_
    exact ke h (Option.some.inj hf).symm
  · rw [if_neg c12] at hf
    refine z_aload_n 1 d_P_load_25 rfl rfl ?_
    refine z_ifnonnull (tgt := 33) d_P_load_26 (by decide) (fun c13 => ?_) (fun c13 => ?_)
    · rw [if_neg c13] at hf
      refine z_aload_n 1 d_P_load_33 rfl rfl ?_
      refine z_iload_n 2 d_P_load_34 rfl rfl ?_
      refine z_iload_n 3 d_P_load_35 rfl rfl ?_
      obtain ⟨a14, e15, hf⟩ := dr_some hf
      obtain ⟨g16, hf⟩ := gd_some hf
      obtain ⟨v19, h17, ec18, hf⟩ := cl_some hf
      refine z_callVx e15 (c_E_leafOf ec18) d_P_load_36 cw_E_leafOf lk_P_47 im_E_leafOf se_E_leafOf (kc_K (isK_eq g16) kc_4) ⟨by decide, by decide⟩ (Nat.le_of_ble_eq_true rfl) rfl ?_
      refine z_ls [0, 1, 2, 3] rfl ?_
      exact zj_P_load_39_L20 hf kc ke
    · rw [if_pos c13] at hf
      refine z_aconst_null d_P_load_29 ?_
      refine z_goto (tgt := 39) d_P_load_30 (by decide) ?_
      refine z_ls [0, 1, 2, 3] rfl ?_
      exact zj_P_load_39_L20 hf kc ke
def l_P_load_20 (y0 : Nat) (y1 : Option Nat) (y2 : Int32) (s : Int32 × Hp) : Option (Hp) := lp (fun s => b_P_load_20 y0 y1 y2 s.1 s.2) FU s
theorem zzl_P_load_20 {l : Launch} {C : Ct} {mi : Nat} {y0 : Nat} {y1 : Option Nat} {y2 : Int32} {h' : Hp} : ∀ (n : Nat) (s : Int32 × Hp) (x : (Hp)), lp (fun s : Int32 × Hp => b_P_load_20 y0 y1 y2 s.1 s.2) n s = some x → Z l C mi m_P_load 1 95 [(0, vr (some y0)), (1, vr y1), (2, vi y2)] [] x none h' → Z l C mi m_P_load 1 20 [(0, vr (some y0)), (1, vr y1), (2, vi y2), (3, vi s.1)] [] s.2 none h' := by
  intro n
  induction n with
  | zero => intro s x hl; cases hl
  | succ n ih =>
    intro s x hl ke
    rcases lp_some hl with ⟨s2, hb, hl2⟩ | hb
    · exact zb_P_load_20 hb (fun s3 e3 => by cases e3; refine z_ls [0, 1, 2, 3] rfl ?_; exact ih s2 x hl2 ke) (fun x e3 => by cases e3)
    · exact zb_P_load_20 hb (fun s3 e3 => by cases e3) (fun x e3 => by cases e3; exact ke)
theorem zl_P_load_20 {l : Launch} {C : Ct} {mi : Nat} {y0 : Nat} {y1 : Option Nat} {y2 : Int32} {h' : Hp} {s : Int32 × Hp} {x : (Hp)} (hl : l_P_load_20 y0 y1 y2 s = some x) (ke : Z l C mi m_P_load 1 95 [(0, vr (some y0)), (1, vr y1), (2, vi y2)] [] x none h') : Z l C mi m_P_load 1 20 [(0, vr (some y0)), (1, vr y1), (2, vi y2), (3, vi s.1)] [] s.2 none h' := zzl_P_load_20 FU s x hl ke
def b_P_load_6 (y0 : Nat) (y1 : Option Nat) (y2 : Int32) (h : Hp) : Option ((Int32 × Hp) ⊕ (Hp)) :=
  if (4 : Int32) ≤ y2 then (some (.inr h)) else (gd (isK h y0 5) (dr (hpR h y0 1) fun a6 => gd (isO h a6 0) (gd (inb y2 (hpL h a6)) (nm (wI h a6 y2.toNatClampNeg (0 : Int32)) fun h10 => bd (l_P_load_20 y0 y1 y2 ((0 : Int32), h10)) fun x41 => some (.inl ((y2 + (1 : Int32)), x41))))))
set_option maxRecDepth 100000 in
set_option maxHeartbeats 4000000 in
theorem zb_P_load_6 {l : Launch} {C : Ct} {mi : Nat} {y0 : Nat} {y1 : Option Nat} {y2 : Int32} {h h' : Hp} {q : ((Int32 × Hp) ⊕ (Hp))} (hf : b_P_load_6 y0 y1 y2 h = some q) (kc : ∀ s, q = .inl s → Z l C mi m_P_load 1 6 [(0, vr (some y0)), (1, vr y1), (2, vi s.1)] [] s.2 none h') (ke : ∀ x, q = .inr x → Z l C mi m_P_load 1 101 [] [] x none h') : Z l C mi m_P_load 1 6 [(0, vr (some y0)), (1, vr y1), (2, vi y2)] [] h none h' := by
  unfold b_P_load_6 at hf
  refine z_iload_n 2 d_P_load_6 rfl rfl ?_
  refine z_iconst (v := (4 : Int32)) d_P_load_7 rfl ?_
  refine z_icmp_ge (tgt := 101) d_P_load_8 (by decide) (fun c4 => ?_) (fun c4 => ?_)
  · rw [if_pos c4] at hf
    refine z_ls [] rfl ?_
    exact ke h (Option.some.inj hf).symm
  · rw [if_neg c4] at hf
    refine z_aload_n 0 d_P_load_11 rfl rfl ?_
    obtain ⟨g5, hf⟩ := gd_some hf
    refine z_getR d_P_load_12 (fl_K (isK_eq g5) fl_P_15_5) (fi_K (isK_eq g5) rfl) rfl ?_
    refine z_iload_n 2 d_P_load_15 rfl rfl ?_
    refine z_iconst (v := (0 : Int32)) d_P_load_16 rfl ?_
    obtain ⟨a6, e7, hf⟩ := dr_some hf
    obtain ⟨g8, hf⟩ := gd_some hf
    obtain ⟨g9, hf⟩ := gd_some hf
    obtain ⟨h10, eh11, hf⟩ := nm_some hf
    refine z_iast d_P_load_17 e7 (isO_eq g8).1 (isO_eq g8).2 (inb_vp g9) ?_
    refine z_hp eh11 ?_
    refine z_iconst (v := (0 : Int32)) d_P_load_18 rfl ?_
    refine z_istore_n (ls2 := [(3, vi (0 : Int32)), (0, vr (some y0)), (1, vr y1), (2, vi y2)]) d_P_load_19 rfl (by decide) rfl ?_
    obtain ⟨x41, el42, hf⟩ := bd_some hf
    refine z_ls [1, 2, 3, 0] rfl ?_
    refine zl_P_load_20 el42 ?_
    refine z_iinc (ls2 := [(2, vi (y2 + (1 : Int32))), (0, vr (some y0)), (1, vr y1)]) 2 d_P_load_95 rfl rfl (by decide) rfl ?_
    refine z_goto (tgt := 6) d_P_load_98 (by decide) ?_
    refine z_ls [1, 2, 0] rfl ?_
    exact kc ((y2 + (1 : Int32)), x41) (Option.some.inj hf).symm
def l_P_load_6 (y0 : Nat) (y1 : Option Nat) (s : Int32 × Hp) : Option (Hp) := lp (fun s => b_P_load_6 y0 y1 s.1 s.2) FU s
theorem zzl_P_load_6 {l : Launch} {C : Ct} {mi : Nat} {y0 : Nat} {y1 : Option Nat} {h' : Hp} : ∀ (n : Nat) (s : Int32 × Hp) (x : (Hp)), lp (fun s : Int32 × Hp => b_P_load_6 y0 y1 s.1 s.2) n s = some x → Z l C mi m_P_load 1 101 [] [] x none h' → Z l C mi m_P_load 1 6 [(0, vr (some y0)), (1, vr y1), (2, vi s.1)] [] s.2 none h' := by
  intro n
  induction n with
  | zero => intro s x hl; cases hl
  | succ n ih =>
    intro s x hl ke
    rcases lp_some hl with ⟨s2, hb, hl2⟩ | hb
    · exact zb_P_load_6 hb (fun s3 e3 => by cases e3; refine z_ls [0, 1, 2] rfl ?_; exact ih s2 x hl2 ke) (fun x e3 => by cases e3)
    · exact zb_P_load_6 hb (fun s3 e3 => by cases e3) (fun x e3 => by cases e3; exact ke)
theorem zl_P_load_6 {l : Launch} {C : Ct} {mi : Nat} {y0 : Nat} {y1 : Option Nat} {h' : Hp} {s : Int32 × Hp} {x : (Hp)} (hl : l_P_load_6 y0 y1 s = some x) (ke : Z l C mi m_P_load 1 101 [] [] x none h') : Z l C mi m_P_load 1 6 [(0, vr (some y0)), (1, vr y1), (2, vi s.1)] [] s.2 none h' := zzl_P_load_6 FU s x hl ke
def f_P_load (a0 : Nat) (p1 : Option Nat) (h : Hp) : Option Hp :=
  gd (isK h a0 5) (cv (f_P_forgetTouched a0 h) fun h2 => bd (l_P_load_6 a0 p1 ((0 : Int32), h2)) fun x43 => some x43)
set_option maxRecDepth 100000 in
set_option maxHeartbeats 4000000 in
theorem zf_P_load {l : Launch} {C : Ct} {mi : Nat} {a0 : Nat} {p1 : Option Nat} {h h' : Hp} (hf : f_P_load a0 p1 h = some h') : Z l C mi m_P_load 1 0 [(0, vr (some a0)), (1, vr p1)] [] h none h' := by
  unfold f_P_load at hf
  refine z_aload_n 0 d_P_load_0 rfl rfl ?_
  obtain ⟨g1, hf⟩ := gd_some hf
  obtain ⟨h2, ec3, hf⟩ := cv_some hf
  refine z_callVx rfl (c_P_forgetTouched ec3) d_P_load_1 cw_P_forgetTouched lk_P_54 im_P_forgetTouched se_P_forgetTouched (kc_K (isK_eq g1) kc_5) ⟨by decide, by decide⟩ (Nat.le_of_ble_eq_true rfl) rfl ?_
  refine z_iconst (v := (0 : Int32)) d_P_load_4 rfl ?_
  refine z_istore_n (ls2 := [(2, vi (0 : Int32)), (0, vr (some a0)), (1, vr p1)]) d_P_load_5 rfl (by decide) rfl ?_
  obtain ⟨x43, el44, hf⟩ := bd_some hf
  refine z_ls [1, 2, 0] rfl ?_
  refine zl_P_load_6 el44 ?_
  cases (Option.some.inj hf)
  exact z_ret d_P_load_101 rfl
theorem c_P_load {l : Launch} {C : Ct} {mi : Nat} {a0 : Nat} {p1 : Option Nat} {h h' : Hp} (hf : f_P_load a0 p1 h = some h') : Mt l C mi m_P_load 1 [vr (some a0), vr p1] h none h' := mt_V rfl rfl (by decide) (Nat.le_of_ble_eq_true rfl) (zf_P_load hf)
-- VersionMaps$Chunk.livePages(I)I
def m_K_livePages : Mi := (⟨"VersionMaps$Chunk", "livePages", "(I)I"⟩, prog_3_method_5_code, 4, (Option.some Jvm.ClassFile.FieldType.int), .ireturn)
theorem cw_K_livePages : cw_ok m_K_livePages 1 := ⟨by decide +kernel, by decide +kernel, by decide +kernel, by decide +kernel⟩
theorem im_K_livePages : Cond.instanceMethod m_K_livePages.1 ∈ lw_w := by decide +kernel
theorem se_K_livePages : Cond.selects "VersionMaps$Chunk" m_K_livePages.1 m_K_livePages.1 ∈ lw_w := by decide +kernel
theorem d_K_livePages_0 : decode prog_3_method_5_code 0 = .ok (.iconst 0, 1) := by decide +kernel
theorem d_K_livePages_1 : decode prog_3_method_5_code 1 = .ok (.istore_n 2, 1) := by decide +kernel
theorem d_K_livePages_2 : decode prog_3_method_5_code 2 = .ok (.iconst 0, 1) := by decide +kernel
theorem d_K_livePages_3 : decode prog_3_method_5_code 3 = .ok (.istore_n 3, 1) := by decide +kernel
theorem d_K_livePages_4 : decode prog_3_method_5_code 4 = .ok (.iload_n 3, 1) := by decide +kernel
theorem d_K_livePages_5 : decode prog_3_method_5_code 5 = .ok (.aload_n 0, 1) := by decide +kernel
theorem d_K_livePages_6 : decode prog_3_method_5_code 6 = .ok (.getfield 25, 3) := by decide +kernel
theorem d_K_livePages_9 : decode prog_3_method_5_code 9 = .ok (.arraylength, 1) := by decide +kernel
theorem d_K_livePages_10 : decode prog_3_method_5_code 10 = .ok (.if_icmp .ge 25, 3) := by decide +kernel
theorem d_K_livePages_13 : decode prog_3_method_5_code 13 = .ok (.aload_n 0, 1) := by decide +kernel
theorem d_K_livePages_14 : decode prog_3_method_5_code 14 = .ok (.getfield 25, 3) := by decide +kernel
theorem d_K_livePages_17 : decode prog_3_method_5_code 17 = .ok (.iload_n 3, 1) := by decide +kernel
theorem d_K_livePages_18 : decode prog_3_method_5_code 18 = .ok (.aaload, 1) := by decide +kernel
theorem d_K_livePages_19 : decode prog_3_method_5_code 19 = .ok (.getfield 46, 3) := by decide +kernel
theorem d_K_livePages_22 : decode prog_3_method_5_code 22 = .ok (.iload_n 1, 1) := by decide +kernel
theorem d_K_livePages_23 : decode prog_3_method_5_code 23 = .ok (.if_icmp .ne 6, 3) := by decide +kernel
theorem d_K_livePages_26 : decode prog_3_method_5_code 26 = .ok (.iinc 2 1, 3) := by decide +kernel
theorem d_K_livePages_29 : decode prog_3_method_5_code 29 = .ok (.iinc 3 1, 3) := by decide +kernel
theorem d_K_livePages_32 : decode prog_3_method_5_code 32 = .ok (.goto (-28), 3) := by decide +kernel
theorem d_K_livePages_35 : decode prog_3_method_5_code 35 = .ok (.iload_n 2, 1) := by decide +kernel
theorem d_K_livePages_36 : decode prog_3_method_5_code 36 = .ok (.ireturn, 1) := by decide +kernel
def b_K_livePages_4 (y0 : Nat) (y1 : Int32) (y2 : Int32) (y3 : Int32) (h : Hp) : Option ((Int32 × Int32 × Hp) ⊕ (Int32 × Hp)) :=
  gd (isK h y0 2) (dr (hpR h y0 2) fun a2 => gd (isA h a2 3) (if (Int32.ofNat (hpL h a2)) ≤ y3 then (some (.inr (y2, h))) else (gd (inb y3 (hpL h a2)) (dr (hpR h a2 y3.toNatClampNeg) fun a7 => gd (isPg h a7) (if (hpI h a7 2) = y1 then (some (.inl ((y2 + (1 : Int32)), (y3 + (1 : Int32)), h))) else (some (.inl (y2, (y3 + (1 : Int32)), h))))))))
set_option maxRecDepth 100000 in
set_option maxHeartbeats 4000000 in
theorem zb_K_livePages_4 {l : Launch} {C : Ct} {mi : Nat} {y0 : Nat} {y1 : Int32} {y2 : Int32} {y3 : Int32} {h h' : Hp} {v : Int32} {q : ((Int32 × Int32 × Hp) ⊕ (Int32 × Hp))} (hf : b_K_livePages_4 y0 y1 y2 y3 h = some q) (kc : ∀ s, q = .inl s → Z l C mi m_K_livePages 0 4 [(0, vr (some y0)), (1, vi y1), (2, vi s.1), (3, vi s.2.1)] [] s.2.2 (some (vi v)) h') (ke : ∀ x, q = .inr x → Z l C mi m_K_livePages 0 35 [(2, vi x.1)] [] x.2 (some (vi v)) h') : Z l C mi m_K_livePages 0 4 [(0, vr (some y0)), (1, vi y1), (2, vi y2), (3, vi y3)] [] h (some (vi v)) h' := by
  unfold b_K_livePages_4 at hf
  refine z_iload_n 3 d_K_livePages_4 rfl rfl ?_
  refine z_aload_n 0 d_K_livePages_5 rfl rfl ?_
  obtain ⟨g1, hf⟩ := gd_some hf
  refine z_getR d_K_livePages_6 (fl_K (isK_eq g1) fl_K_25_2) (fi_K (isK_eq g1) rfl) rfl ?_
  obtain ⟨a2, e3, hf⟩ := dr_some hf
  obtain ⟨g4, hf⟩ := gd_some hf
  refine z_alen d_K_livePages_9 e3 (isA_eq g4).1 ?_
  refine z_icmp_ge (tgt := 35) d_K_livePages_10 (by decide) (fun c5 => ?_) (fun c5 => ?_)
  · rw [if_pos c5] at hf
    refine z_ls [2] rfl ?_
    exact ke (y2, h) (Option.some.inj hf).symm
  · rw [if_neg c5] at hf
    refine z_aload_n 0 d_K_livePages_13 rfl rfl ?_
    refine z_getR d_K_livePages_14 (fl_K (isK_eq g1) fl_K_25_2) (fi_K (isK_eq g1) rfl) rfl ?_
    refine z_iload_n 3 d_K_livePages_17 rfl rfl ?_
    obtain ⟨g6, hf⟩ := gd_some hf
    refine z_aald d_K_livePages_18 e3 (isA_eq g4).1 (by rw [(isA_eq g4).2]; decide) (inb_vp g6) ?_
    obtain ⟨a7, e8, hf⟩ := dr_some hf
    obtain ⟨g9, hf⟩ := gd_some hf
    refine z_getI d_K_livePages_19 (fl_P g9 fl_K_46_3 fl_K_46_4 fl_K_46_6) (fi_P g9 rfl rfl rfl) e8 ?_
    refine z_iload_n 1 d_K_livePages_22 rfl rfl ?_
    refine z_icmp_ne (tgt := 29) d_K_livePages_23 (by decide) (fun c10 => ?_) (fun c10 => ?_)
    · rw [if_neg c10] at hf
      refine z_iinc (ls2 := [(3, vi (y3 + (1 : Int32))), (0, vr (some y0)), (1, vi y1), (2, vi y2)]) 3 d_K_livePages_29 rfl rfl (by decide) rfl ?_
      refine z_goto (tgt := 4) d_K_livePages_32 (by decide) ?_
      refine z_ls [1, 2, 3, 0] rfl ?_
      exact kc (y2, (y3 + (1 : Int32)), h) (Option.some.inj hf).symm
    · rw [if_pos c10] at hf
      refine z_iinc (ls2 := [(2, vi (y2 + (1 : Int32))), (0, vr (some y0)), (1, vi y1), (3, vi y3)]) 2 d_K_livePages_26 rfl rfl (by decide) rfl ?_
      refine z_iinc (ls2 := [(3, vi (y3 + (1 : Int32))), (2, vi (y2 + (1 : Int32))), (0, vr (some y0)), (1, vi y1)]) 3 d_K_livePages_29 rfl rfl (by decide) rfl ?_
      refine z_goto (tgt := 4) d_K_livePages_32 (by decide) ?_
      refine z_ls [2, 3, 1, 0] rfl ?_
      exact kc ((y2 + (1 : Int32)), (y3 + (1 : Int32)), h) (Option.some.inj hf).symm
def l_K_livePages_4 (y0 : Nat) (y1 : Int32) (s : Int32 × Int32 × Hp) : Option (Int32 × Hp) := lp (fun s => b_K_livePages_4 y0 y1 s.1 s.2.1 s.2.2) FU s
theorem zzl_K_livePages_4 {l : Launch} {C : Ct} {mi : Nat} {y0 : Nat} {y1 : Int32} {h' : Hp} {v : Int32} : ∀ (n : Nat) (s : Int32 × Int32 × Hp) (x : (Int32 × Hp)), lp (fun s : Int32 × Int32 × Hp => b_K_livePages_4 y0 y1 s.1 s.2.1 s.2.2) n s = some x → Z l C mi m_K_livePages 0 35 [(2, vi x.1)] [] x.2 (some (vi v)) h' → Z l C mi m_K_livePages 0 4 [(0, vr (some y0)), (1, vi y1), (2, vi s.1), (3, vi s.2.1)] [] s.2.2 (some (vi v)) h' := by
  intro n
  induction n with
  | zero => intro s x hl; cases hl
  | succ n ih =>
    intro s x hl ke
    rcases lp_some hl with ⟨s2, hb, hl2⟩ | hb
    · exact zb_K_livePages_4 hb (fun s3 e3 => by cases e3; refine z_ls [0, 1, 2, 3] rfl ?_; exact ih s2 x hl2 ke) (fun x e3 => by cases e3)
    · exact zb_K_livePages_4 hb (fun s3 e3 => by cases e3) (fun x e3 => by cases e3; exact ke)
theorem zl_K_livePages_4 {l : Launch} {C : Ct} {mi : Nat} {y0 : Nat} {y1 : Int32} {h' : Hp} {v : Int32} {s : Int32 × Int32 × Hp} {x : (Int32 × Hp)} (hl : l_K_livePages_4 y0 y1 s = some x) (ke : Z l C mi m_K_livePages 0 35 [(2, vi x.1)] [] x.2 (some (vi v)) h') : Z l C mi m_K_livePages 0 4 [(0, vr (some y0)), (1, vi y1), (2, vi s.1), (3, vi s.2.1)] [] s.2.2 (some (vi v)) h' := zzl_K_livePages_4 FU s x hl ke
def f_K_livePages (a0 : Nat) (p1 : Int32) (h : Hp) : Option (Int32 × Hp) :=
  bd (l_K_livePages_4 a0 p1 ((0 : Int32), (0 : Int32), h)) fun x11 => some (x11.1, x11.2)
set_option maxRecDepth 100000 in
set_option maxHeartbeats 4000000 in
theorem zf_K_livePages {l : Launch} {C : Ct} {mi : Nat} {a0 : Nat} {p1 : Int32} {h h' : Hp} {v : Int32} (hf : f_K_livePages a0 p1 h = some (v, h')) : Z l C mi m_K_livePages 0 0 [(0, vr (some a0)), (1, vi p1)] [] h (some (vi v)) h' := by
  unfold f_K_livePages at hf
  refine z_iconst (v := (0 : Int32)) d_K_livePages_0 rfl ?_
  refine z_istore_n (ls2 := [(2, vi (0 : Int32)), (0, vr (some a0)), (1, vi p1)]) d_K_livePages_1 rfl (by decide) rfl ?_
  refine z_iconst (v := (0 : Int32)) d_K_livePages_2 rfl ?_
  refine z_istore_n (ls2 := [(3, vi (0 : Int32)), (2, vi (0 : Int32)), (0, vr (some a0)), (1, vi p1)]) d_K_livePages_3 rfl (by decide) rfl ?_
  obtain ⟨x11, el12, hf⟩ := bd_some hf
  refine z_ls [2, 3, 1, 0] rfl ?_
  refine zl_K_livePages_4 el12 ?_
  refine z_iload_n 0 d_K_livePages_35 rfl rfl ?_
  obtain ⟨rfl, rfl⟩ := Prod.mk.inj (Option.some.inj hf)
  exact z_ret d_K_livePages_36 rfl
theorem c_K_livePages {l : Launch} {C : Ct} {mi : Nat} {a0 : Nat} {p1 : Int32} {h h' : Hp} {v : Int32} (hf : f_K_livePages a0 p1 h = some (v, h')) : Mt l C mi m_K_livePages 0 [vr (some a0), vi p1] h (some (vi v)) h' := mt_I (ty := .int) rfl rfl rfl (by decide) (Nat.le_of_ble_eq_true rfl) (zf_K_livePages hf)
-- VersionMaps$Present.touchPagesIn(LVersionMaps$Chunk;LVersionMaps$Meta;)I
def m_P_touchPagesIn : Mi := (⟨"VersionMaps$Present", "touchPagesIn", "(LVersionMaps$Chunk;LVersionMaps$Meta;)I"⟩, prog_7_method_9_code, 7, (Option.some Jvm.ClassFile.FieldType.int), .ireturn)
theorem cw_P_touchPagesIn : cw_ok m_P_touchPagesIn 2 := ⟨by decide +kernel, by decide +kernel, by decide +kernel, by decide +kernel⟩
theorem im_P_touchPagesIn : Cond.instanceMethod m_P_touchPagesIn.1 ∈ lw_w := by decide +kernel
theorem se_P_touchPagesIn : Cond.selects "VersionMaps$Present" m_P_touchPagesIn.1 m_P_touchPagesIn.1 ∈ lw_w := by decide +kernel
theorem d_P_touchPagesIn_0 : decode prog_7_method_9_code 0 = .ok (.iconst 0, 1) := by decide +kernel
theorem d_P_touchPagesIn_1 : decode prog_7_method_9_code 1 = .ok (.istore_n 3, 1) := by decide +kernel
theorem d_P_touchPagesIn_2 : decode prog_7_method_9_code 2 = .ok (.iconst 0, 1) := by decide +kernel
theorem d_P_touchPagesIn_3 : decode prog_7_method_9_code 3 = .ok (.istore 4, 2) := by decide +kernel
theorem d_P_touchPagesIn_5 : decode prog_7_method_9_code 5 = .ok (.iload 4, 2) := by decide +kernel
theorem d_P_touchPagesIn_7 : decode prog_7_method_9_code 7 = .ok (.iconst 4, 1) := by decide +kernel
theorem d_P_touchPagesIn_8 : decode prog_7_method_9_code 8 = .ok (.if_icmp .ge 99, 3) := by decide +kernel
theorem d_P_touchPagesIn_11 : decode prog_7_method_9_code 11 = .ok (.aload_n 2, 1) := by decide +kernel
theorem d_P_touchPagesIn_12 : decode prog_7_method_9_code 12 = .ok (.getfield 35, 3) := by decide +kernel
theorem d_P_touchPagesIn_15 : decode prog_7_method_9_code 15 = .ok (.iload 4, 2) := by decide +kernel
theorem d_P_touchPagesIn_17 : decode prog_7_method_9_code 17 = .ok (.aaload, 1) := by decide +kernel
theorem d_P_touchPagesIn_18 : decode prog_7_method_9_code 18 = .ok (.ifnull 33, 3) := by decide +kernel
theorem d_P_touchPagesIn_21 : decode prog_7_method_9_code 21 = .ok (.aload_n 2, 1) := by decide +kernel
theorem d_P_touchPagesIn_22 : decode prog_7_method_9_code 22 = .ok (.getfield 35, 3) := by decide +kernel
theorem d_P_touchPagesIn_25 : decode prog_7_method_9_code 25 = .ok (.iload 4, 2) := by decide +kernel
theorem d_P_touchPagesIn_27 : decode prog_7_method_9_code 27 = .ok (.aaload, 1) := by decide +kernel
theorem d_P_touchPagesIn_28 : decode prog_7_method_9_code 28 = .ok (.getfield 41, 3) := by decide +kernel
theorem d_P_touchPagesIn_31 : decode prog_7_method_9_code 31 = .ok (.aload_n 1, 1) := by decide +kernel
theorem d_P_touchPagesIn_32 : decode prog_7_method_9_code 32 = .ok (.if_acmp .ne 19, 3) := by decide +kernel
theorem d_P_touchPagesIn_35 : decode prog_7_method_9_code 35 = .ok (.aload_n 0, 1) := by decide +kernel
theorem d_P_touchPagesIn_36 : decode prog_7_method_9_code 36 = .ok (.dup, 1) := by decide +kernel
theorem d_P_touchPagesIn_37 : decode prog_7_method_9_code 37 = .ok (.getfield 22, 3) := by decide +kernel
theorem d_P_touchPagesIn_40 : decode prog_7_method_9_code 40 = .ok (.iconst 1, 1) := by decide +kernel
theorem d_P_touchPagesIn_41 : decode prog_7_method_9_code 41 = .ok (.iload 4, 2) := by decide +kernel
theorem d_P_touchPagesIn_43 : decode prog_7_method_9_code 43 = .ok (.ishl, 1) := by decide +kernel
theorem d_P_touchPagesIn_44 : decode prog_7_method_9_code 44 = .ok (.ior, 1) := by decide +kernel
theorem d_P_touchPagesIn_45 : decode prog_7_method_9_code 45 = .ok (.putfield 22, 3) := by decide +kernel
theorem d_P_touchPagesIn_48 : decode prog_7_method_9_code 48 = .ok (.iinc 3 1, 3) := by decide +kernel
theorem d_P_touchPagesIn_51 : decode prog_7_method_9_code 51 = .ok (.iconst 0, 1) := by decide +kernel
theorem d_P_touchPagesIn_52 : decode prog_7_method_9_code 52 = .ok (.istore 5, 2) := by decide +kernel
theorem d_P_touchPagesIn_54 : decode prog_7_method_9_code 54 = .ok (.iload 5, 2) := by decide +kernel
theorem d_P_touchPagesIn_56 : decode prog_7_method_9_code 56 = .ok (.iconst 4, 1) := by decide +kernel
theorem d_P_touchPagesIn_57 : decode prog_7_method_9_code 57 = .ok (.if_icmp .ge 44, 3) := by decide +kernel
theorem d_P_touchPagesIn_60 : decode prog_7_method_9_code 60 = .ok (.aload_n 2, 1) := by decide +kernel
theorem d_P_touchPagesIn_61 : decode prog_7_method_9_code 61 = .ok (.iload 4, 2) := by decide +kernel
theorem d_P_touchPagesIn_63 : decode prog_7_method_9_code 63 = .ok (.iload 5, 2) := by decide +kernel
theorem d_P_touchPagesIn_65 : decode prog_7_method_9_code 65 = .ok (.invokevirtual 47, 3) := by decide +kernel
theorem d_P_touchPagesIn_68 : decode prog_7_method_9_code 68 = .ok (.astore 6, 2) := by decide +kernel
theorem d_P_touchPagesIn_70 : decode prog_7_method_9_code 70 = .ok (.aload 6, 2) := by decide +kernel
theorem d_P_touchPagesIn_72 : decode prog_7_method_9_code 72 = .ok (.ifnull 23, 3) := by decide +kernel
theorem d_P_touchPagesIn_75 : decode prog_7_method_9_code 75 = .ok (.aload 6, 2) := by decide +kernel
theorem d_P_touchPagesIn_77 : decode prog_7_method_9_code 77 = .ok (.getfield 51, 3) := by decide +kernel
theorem d_P_touchPagesIn_80 : decode prog_7_method_9_code 80 = .ok (.aload_n 1, 1) := by decide +kernel
theorem d_P_touchPagesIn_81 : decode prog_7_method_9_code 81 = .ok (.if_acmp .ne 14, 3) := by decide +kernel
theorem d_P_touchPagesIn_84 : decode prog_7_method_9_code 84 = .ok (.aload_n 0, 1) := by decide +kernel
theorem d_P_touchPagesIn_85 : decode prog_7_method_9_code 85 = .ok (.iload 4, 2) := by decide +kernel
theorem d_P_touchPagesIn_87 : decode prog_7_method_9_code 87 = .ok (.iload 5, 2) := by decide +kernel
theorem d_P_touchPagesIn_89 : decode prog_7_method_9_code 89 = .ok (.invokevirtual 25, 3) := by decide +kernel
theorem d_P_touchPagesIn_92 : decode prog_7_method_9_code 92 = .ok (.iinc 3 1, 3) := by decide +kernel
theorem d_P_touchPagesIn_95 : decode prog_7_method_9_code 95 = .ok (.iinc 5 1, 3) := by decide +kernel
theorem d_P_touchPagesIn_98 : decode prog_7_method_9_code 98 = .ok (.goto (-44), 3) := by decide +kernel
theorem d_P_touchPagesIn_101 : decode prog_7_method_9_code 101 = .ok (.iinc 4 1, 3) := by decide +kernel
theorem d_P_touchPagesIn_104 : decode prog_7_method_9_code 104 = .ok (.goto (-99), 3) := by decide +kernel
theorem d_P_touchPagesIn_107 : decode prog_7_method_9_code 107 = .ok (.iload_n 3, 1) := by decide +kernel
theorem d_P_touchPagesIn_108 : decode prog_7_method_9_code 108 = .ok (.ireturn, 1) := by decide +kernel
def b_P_touchPagesIn_54 (y0 : Nat) (y1 : Option Nat) (y2 : Option Nat) (y3 : Int32) (y4 : Int32) (y5 : Int32) (h : Hp) : Option ((Int32 × Int32 × Hp) ⊕ (Int32 × Hp)) :=
  if (4 : Int32) ≤ y5 then (some (.inr (y3, h))) else (dr y2 fun a11 => gd (isK h a11 4) (cl (f_E_leafOf a11 y4 y5 h) fun v16 h14 => if v16 = none then (some (.inl (y3, (y5 + (1 : Int32)), h14))) else (dr v16 fun a18 => gd (isK h14 a18 3) (if (hpR h14 a18 0) = y1 then (gd (isK h14 y0 5) (cv (f_P_touchLeaf y0 y4 y5 h14) fun h23 => some (.inl ((y3 + (1 : Int32)), (y5 + (1 : Int32)), h23)))) else (some (.inl (y3, (y5 + (1 : Int32)), h14)))))))
set_option maxRecDepth 100000 in
set_option maxHeartbeats 4000000 in
theorem zb_P_touchPagesIn_54 {l : Launch} {C : Ct} {mi : Nat} {y0 : Nat} {y1 : Option Nat} {y2 : Option Nat} {y3 : Int32} {y4 : Int32} {y5 : Int32} {h h' : Hp} {v : Int32} {q : ((Int32 × Int32 × Hp) ⊕ (Int32 × Hp))} (hf : b_P_touchPagesIn_54 y0 y1 y2 y3 y4 y5 h = some q) (kc : ∀ s, q = .inl s → Z l C mi m_P_touchPagesIn 1 54 [(0, vr (some y0)), (1, vr y1), (2, vr y2), (3, vi s.1), (4, vi y4), (5, vi s.2.1)] [] s.2.2 (some (vi v)) h') (ke : ∀ x, q = .inr x → Z l C mi m_P_touchPagesIn 1 101 [(0, vr (some y0)), (1, vr y1), (2, vr y2), (3, vi x.1), (4, vi y4)] [] x.2 (some (vi v)) h') : Z l C mi m_P_touchPagesIn 1 54 [(0, vr (some y0)), (1, vr y1), (2, vr y2), (3, vi y3), (4, vi y4), (5, vi y5)] [] h (some (vi v)) h' := by
  unfold b_P_touchPagesIn_54 at hf
  refine z_iload 5 d_P_touchPagesIn_54 rfl ?_
  refine z_iconst (v := (4 : Int32)) d_P_touchPagesIn_56 rfl ?_
  refine z_icmp_ge (tgt := 101) d_P_touchPagesIn_57 (by decide) (fun c10 => ?_) (fun c10 => ?_)
  · rw [if_pos c10] at hf
    refine z_ls [0, 1, 2, 3, 4] rfl ?_
    exact ke (y3, h) (Option.some.inj hf).symm
  · rw [if_neg c10] at hf
    refine z_aload_n 2 d_P_touchPagesIn_60 rfl rfl ?_
    refine z_iload 4 d_P_touchPagesIn_61 rfl ?_
    refine z_iload 5 d_P_touchPagesIn_63 rfl ?_
    obtain ⟨a11, e12, hf⟩ := dr_some hf
    obtain ⟨g13, hf⟩ := gd_some hf
    obtain ⟨v16, h14, ec15, hf⟩ := cl_some hf
    refine z_callVx e12 (c_E_leafOf ec15) d_P_touchPagesIn_65 cw_E_leafOf lk_P_47 im_E_leafOf se_E_leafOf (kc_K (isK_eq g13) kc_4) ⟨by decide, by decide⟩ (Nat.le_of_ble_eq_true rfl) rfl ?_
    refine z_astore (ls2 := [(6, vr v16), (0, vr (some y0)), (1, vr y1), (2, vr y2), (3, vi y3), (4, vi y4), (5, vi y5)]) d_P_touchPagesIn_68 (by decide) rfl ?_
    refine z_aload 0 d_P_touchPagesIn_70 rfl ?_
    refine z_ifnull (tgt := 95) d_P_touchPagesIn_72 (by decide) (fun c17 => ?_) (fun c17 => ?_)
    · rw [if_pos c17] at hf
      refine z_iinc (ls2 := [(5, vi (y5 + (1 : Int32))), (6, vr v16), (0, vr (some y0)), (1, vr y1), (2, vr y2), (3, vi y3), (4, vi y4)]) 6 d_P_touchPagesIn_95 rfl rfl (by decide) rfl ?_
      refine z_goto (tgt := 54) d_P_touchPagesIn_98 (by decide) ?_
      refine z_ls [2, 3, 4, 5, 6, 0] rfl ?_
      exact kc (y3, (y5 + (1 : Int32)), h14) (Option.some.inj hf).symm
    · rw [if_neg c17] at hf
      refine z_aload 0 d_P_touchPagesIn_75 rfl ?_
      obtain ⟨a18, e19, hf⟩ := dr_some hf
      obtain ⟨g20, hf⟩ := gd_some hf
      refine z_getR d_P_touchPagesIn_77 (fl_K (isK_eq g20) fl_P_51_3) (fi_K (isK_eq g20) rfl) e19 ?_
      refine z_aload_n 2 d_P_touchPagesIn_80 rfl rfl ?_
      refine z_acmp_ne (tgt := 95) d_P_touchPagesIn_81 (by decide) (fun c21 => ?_) (fun c21 => ?_)
      · rw [if_neg c21] at hf
        refine z_iinc (ls2 := [(5, vi (y5 + (1 : Int32))), (6, vr v16), (0, vr (some y0)), (1, vr y1), (2, vr y2), (3, vi y3), (4, vi y4)]) 6 d_P_touchPagesIn_95 rfl rfl (by decide) rfl ?_
        refine z_goto (tgt := 54) d_P_touchPagesIn_98 (by decide) ?_
        refine z_ls [2, 3, 4, 5, 6, 0] rfl ?_
        exact kc (y3, (y5 + (1 : Int32)), h14) (Option.some.inj hf).symm
      · rw [if_pos c21] at hf
        refine z_aload_n 1 d_P_touchPagesIn_84 rfl rfl ?_
        refine z_iload 5 d_P_touchPagesIn_85 rfl ?_
        refine z_iload 6 d_P_touchPagesIn_87 rfl ?_
        obtain ⟨g22, hf⟩ := gd_some hf
        obtain ⟨h23, ec24, hf⟩ := cv_some hf
        refine z_callVx rfl (c_P_touchLeaf ec24) d_P_touchPagesIn_89 cw_P_touchLeaf lk_P_25 im_P_touchLeaf se_P_touchLeaf (kc_K (isK_eq g22) kc_5) ⟨by decide, by decide⟩ (Nat.le_of_ble_eq_true rfl) rfl ?_
        refine z_iinc (ls2 := [(3, vi (y3 + (1 : Int32))), (6, vr v16), (0, vr (some y0)), (1, vr y1), (2, vr y2), (4, vi y4), (5, vi y5)]) 4 d_P_touchPagesIn_92 rfl rfl (by decide) rfl ?_
        refine z_iinc (ls2 := [(5, vi (y5 + (1 : Int32))), (3, vi (y3 + (1 : Int32))), (6, vr v16), (0, vr (some y0)), (1, vr y1), (2, vr y2), (4, vi y4)]) 6 d_P_touchPagesIn_95 rfl rfl (by decide) rfl ?_
        refine z_goto (tgt := 54) d_P_touchPagesIn_98 (by decide) ?_
        refine z_ls [3, 4, 5, 1, 6, 0] rfl ?_
        exact kc ((y3 + (1 : Int32)), (y5 + (1 : Int32)), h23) (Option.some.inj hf).symm
def l_P_touchPagesIn_54 (y0 : Nat) (y1 : Option Nat) (y2 : Option Nat) (y4 : Int32) (s : Int32 × Int32 × Hp) : Option (Int32 × Hp) := lp (fun s => b_P_touchPagesIn_54 y0 y1 y2 s.1 y4 s.2.1 s.2.2) FU s
theorem zzl_P_touchPagesIn_54 {l : Launch} {C : Ct} {mi : Nat} {y0 : Nat} {y1 : Option Nat} {y2 : Option Nat} {y4 : Int32} {h' : Hp} {v : Int32} : ∀ (n : Nat) (s : Int32 × Int32 × Hp) (x : (Int32 × Hp)), lp (fun s : Int32 × Int32 × Hp => b_P_touchPagesIn_54 y0 y1 y2 s.1 y4 s.2.1 s.2.2) n s = some x → Z l C mi m_P_touchPagesIn 1 101 [(0, vr (some y0)), (1, vr y1), (2, vr y2), (3, vi x.1), (4, vi y4)] [] x.2 (some (vi v)) h' → Z l C mi m_P_touchPagesIn 1 54 [(0, vr (some y0)), (1, vr y1), (2, vr y2), (3, vi s.1), (4, vi y4), (5, vi s.2.1)] [] s.2.2 (some (vi v)) h' := by
  intro n
  induction n with
  | zero => intro s x hl; cases hl
  | succ n ih =>
    intro s x hl ke
    rcases lp_some hl with ⟨s2, hb, hl2⟩ | hb
    · exact zb_P_touchPagesIn_54 hb (fun s3 e3 => by cases e3; refine z_ls [0, 1, 2, 3, 4, 5] rfl ?_; exact ih s2 x hl2 ke) (fun x e3 => by cases e3)
    · exact zb_P_touchPagesIn_54 hb (fun s3 e3 => by cases e3) (fun x e3 => by cases e3; exact ke)
theorem zl_P_touchPagesIn_54 {l : Launch} {C : Ct} {mi : Nat} {y0 : Nat} {y1 : Option Nat} {y2 : Option Nat} {y4 : Int32} {h' : Hp} {v : Int32} {s : Int32 × Int32 × Hp} {x : (Int32 × Hp)} (hl : l_P_touchPagesIn_54 y0 y1 y2 y4 s = some x) (ke : Z l C mi m_P_touchPagesIn 1 101 [(0, vr (some y0)), (1, vr y1), (2, vr y2), (3, vi x.1), (4, vi y4)] [] x.2 (some (vi v)) h') : Z l C mi m_P_touchPagesIn 1 54 [(0, vr (some y0)), (1, vr y1), (2, vr y2), (3, vi s.1), (4, vi y4), (5, vi s.2.1)] [] s.2.2 (some (vi v)) h' := zzl_P_touchPagesIn_54 FU s x hl ke
def j_P_touchPagesIn_51_L5 (y0 : Nat) (y1 : Option Nat) (y2 : Option Nat) (y3 : Int32) (y4 : Int32) (h : Hp) : Option ((Int32 × Int32 × Hp) ⊕ (Int32 × Hp)) :=
  bd (l_P_touchPagesIn_54 y0 y1 y2 y4 (y3, (0 : Int32), h)) fun x25 => some (.inl (x25.1, (y4 + (1 : Int32)), x25.2))
set_option maxRecDepth 100000 in
set_option maxHeartbeats 4000000 in
theorem zj_P_touchPagesIn_51_L5 {l : Launch} {C : Ct} {mi : Nat} {y0 : Nat} {y1 : Option Nat} {y2 : Option Nat} {y3 : Int32} {y4 : Int32} {h h' : Hp} {v : Int32} {q : ((Int32 × Int32 × Hp) ⊕ (Int32 × Hp))} (hf : j_P_touchPagesIn_51_L5 y0 y1 y2 y3 y4 h = some q) (kc : ∀ s, q = .inl s → Z l C mi m_P_touchPagesIn 1 5 [(0, vr (some y0)), (1, vr y1), (2, vr y2), (3, vi s.1), (4, vi s.2.1)] [] s.2.2 (some (vi v)) h') (ke : ∀ x, q = .inr x → Z l C mi m_P_touchPagesIn 1 107 [(3, vi x.1)] [] x.2 (some (vi v)) h') : Z l C mi m_P_touchPagesIn 1 51 [(0, vr (some y0)), (1, vr y1), (2, vr y2), (3, vi y3), (4, vi y4)] [] h (some (vi v)) h' := by
  unfold j_P_touchPagesIn_51_L5 at hf
  refine z_iconst (v := (0 : Int32)) d_P_touchPagesIn_51 rfl ?_
  refine z_istore (ls2 := [(5, vi (0 : Int32)), (0, vr (some y0)), (1, vr y1), (2, vr y2), (3, vi y3), (4, vi y4)]) d_P_touchPagesIn_52 (by decide) rfl ?_
  obtain ⟨x25, el26, hf⟩ := bd_some hf
  refine z_ls [1, 2, 3, 4, 5, 0] rfl ?_
  refine zl_P_touchPagesIn_54 el26 ?_
  refine z_iinc (ls2 := [(4, vi (y4 + (1 : Int32))), (0, vr (some y0)), (1, vr y1), (2, vr y2), (3, vi x25.1)]) 4 d_P_touchPagesIn_101 rfl rfl (by decide) rfl ?_
  refine z_goto (tgt := 5) d_P_touchPagesIn_104 (by decide) ?_
  refine z_ls [1, 2, 3, 4, 0] rfl ?_
  exact kc (x25.1, (y4 + (1 : Int32)), x25.2) (Option.some.inj hf).symm
def b_P_touchPagesIn_5 (y0 : Nat) (y1 : Option Nat) (y2 : Option Nat) (y3 : Int32) (y4 : Int32) (h : Hp) : Option ((Int32 × Int32 × Hp) ⊕ (Int32 × Hp)) :=
  if (4 : Int32) ≤ y4 then (some (.inr (y3, h))) else (dr y2 fun a2 => gd (isK h a2 4) (dr (hpR h a2 4) fun a5 => gd (isA h a5 4) (gd (inb y4 (hpL h a5)) (if (hpR h a5 y4.toNatClampNeg) = none then (j_P_touchPagesIn_51_L5 y0 y1 y2 y3 y4 h) else (dr (hpR h a5 y4.toNatClampNeg) fun a27 => gd (isK h a27 6) (if (hpR h a27 0) = y1 then (gd (isK h y0 5) (nm (wI h y0 3 ((hpI h y0 3) ||| ((1 : Int32) <<< (y4 &&& 31)))) fun h32 => j_P_touchPagesIn_51_L5 y0 y1 y2 (y3 + (1 : Int32)) y4 h32)) else (j_P_touchPagesIn_51_L5 y0 y1 y2 y3 y4 h)))))))
set_option maxRecDepth 100000 in
set_option maxHeartbeats 4000000 in
theorem zb_P_touchPagesIn_5 {l : Launch} {C : Ct} {mi : Nat} {y0 : Nat} {y1 : Option Nat} {y2 : Option Nat} {y3 : Int32} {y4 : Int32} {h h' : Hp} {v : Int32} {q : ((Int32 × Int32 × Hp) ⊕ (Int32 × Hp))} (hf : b_P_touchPagesIn_5 y0 y1 y2 y3 y4 h = some q) (kc : ∀ s, q = .inl s → Z l C mi m_P_touchPagesIn 1 5 [(0, vr (some y0)), (1, vr y1), (2, vr y2), (3, vi s.1), (4, vi s.2.1)] [] s.2.2 (some (vi v)) h') (ke : ∀ x, q = .inr x → Z l C mi m_P_touchPagesIn 1 107 [(3, vi x.1)] [] x.2 (some (vi v)) h') : Z l C mi m_P_touchPagesIn 1 5 [(0, vr (some y0)), (1, vr y1), (2, vr y2), (3, vi y3), (4, vi y4)] [] h (some (vi v)) h' := by
  unfold b_P_touchPagesIn_5 at hf
  refine z_iload 4 d_P_touchPagesIn_5 rfl ?_
  refine z_iconst (v := (4 : Int32)) d_P_touchPagesIn_7 rfl ?_
  refine z_icmp_ge (tgt := 107) d_P_touchPagesIn_8 (by decide) (fun c1 => ?_) (fun c1 => ?_)
  · rw [if_pos c1] at hf
    refine z_ls [3] rfl ?_
    exact ke (y3, h) (Option.some.inj hf).symm
  · rw [if_neg c1] at hf
    refine z_aload_n 2 d_P_touchPagesIn_11 rfl rfl ?_
    obtain ⟨a2, e3, hf⟩ := dr_some hf
    obtain ⟨g4, hf⟩ := gd_some hf
    refine z_getR d_P_touchPagesIn_12 (fl_K (isK_eq g4) fl_P_35_4) (fi_K (isK_eq g4) rfl) e3 ?_
    refine z_iload 4 d_P_touchPagesIn_15 rfl ?_
    obtain ⟨a5, e6, hf⟩ := dr_some hf
    obtain ⟨g7, hf⟩ := gd_some hf
    obtain ⟨g8, hf⟩ := gd_some hf
    refine z_aald d_P_touchPagesIn_17 e6 (isA_eq g7).1 (by rw [(isA_eq g7).2]; decide) (inb_vp g8) ?_
    refine z_ifnull (tgt := 51) d_P_touchPagesIn_18 (by decide) (fun c9 => ?_) (fun c9 => ?_)
    · rw [if_pos c9] at hf
      refine z_ls [0, 1, 2, 3, 4] rfl ?_
      exact zj_P_touchPagesIn_51_L5 hf kc ke
    · rw [if_neg c9] at hf
      refine z_aload_n 2 d_P_touchPagesIn_21 rfl rfl ?_
      refine z_getR d_P_touchPagesIn_22 (fl_K (isK_eq g4) fl_P_35_4) (fi_K (isK_eq g4) rfl) e3 ?_
      refine z_iload 4 d_P_touchPagesIn_25 rfl ?_
      refine z_aald d_P_touchPagesIn_27 e6 (isA_eq g7).1 (by rw [(isA_eq g7).2]; decide) (inb_vp g8) ?_
      obtain ⟨a27, e28, hf⟩ := dr_some hf
      obtain ⟨g29, hf⟩ := gd_some hf
      refine z_getR d_P_touchPagesIn_28 (fl_K (isK_eq g29) fl_P_41_6) (fi_K (isK_eq g29) rfl) e28 ?_
      refine z_aload_n 1 d_P_touchPagesIn_31 rfl rfl ?_
      refine z_acmp_ne (tgt := 51) d_P_touchPagesIn_32 (by decide) (fun c30 => ?_) (fun c30 => ?_)
      · rw [if_neg c30] at hf
        refine z_ls [0, 1, 2, 3, 4] rfl ?_
        exact zj_P_touchPagesIn_51_L5 hf kc ke
      · rw [if_pos c30] at hf
        refine z_aload_n 0 d_P_touchPagesIn_35 rfl rfl ?_
        refine z_dup d_P_touchPagesIn_36 rfl ?_
        obtain ⟨g31, hf⟩ := gd_some hf
        refine z_getI d_P_touchPagesIn_37 (fl_K (isK_eq g31) fl_P_22_5) (fi_K (isK_eq g31) rfl) rfl ?_
        refine z_iconst (v := (1 : Int32)) d_P_touchPagesIn_40 rfl ?_
        refine z_iload 4 d_P_touchPagesIn_41 rfl ?_
        refine z_ishl d_P_touchPagesIn_43 ?_
        refine z_ior d_P_touchPagesIn_44 ?_
        obtain ⟨h32, eh33, hf⟩ := nm_some hf
        refine z_putI d_P_touchPagesIn_45 (fl_K (isK_eq g31) fl_P_22_5) (pu_K (isK_eq g31) (fun q hq => by cases (Option.some.inj hq); exact Or.inl rfl)) (fi_K (isK_eq g31) rfl) rfl ?_
        refine z_hp eh33 ?_
        refine z_iinc (ls2 := [(3, vi (y3 + (1 : Int32))), (0, vr (some y0)), (1, vr y1), (2, vr y2), (4, vi y4)]) 3 d_P_touchPagesIn_48 rfl rfl (by decide) rfl ?_
        refine z_ls [1, 2, 3, 0, 4] rfl ?_
        exact zj_P_touchPagesIn_51_L5 hf kc ke
def l_P_touchPagesIn_5 (y0 : Nat) (y1 : Option Nat) (y2 : Option Nat) (s : Int32 × Int32 × Hp) : Option (Int32 × Hp) := lp (fun s => b_P_touchPagesIn_5 y0 y1 y2 s.1 s.2.1 s.2.2) FU s
theorem zzl_P_touchPagesIn_5 {l : Launch} {C : Ct} {mi : Nat} {y0 : Nat} {y1 : Option Nat} {y2 : Option Nat} {h' : Hp} {v : Int32} : ∀ (n : Nat) (s : Int32 × Int32 × Hp) (x : (Int32 × Hp)), lp (fun s : Int32 × Int32 × Hp => b_P_touchPagesIn_5 y0 y1 y2 s.1 s.2.1 s.2.2) n s = some x → Z l C mi m_P_touchPagesIn 1 107 [(3, vi x.1)] [] x.2 (some (vi v)) h' → Z l C mi m_P_touchPagesIn 1 5 [(0, vr (some y0)), (1, vr y1), (2, vr y2), (3, vi s.1), (4, vi s.2.1)] [] s.2.2 (some (vi v)) h' := by
  intro n
  induction n with
  | zero => intro s x hl; cases hl
  | succ n ih =>
    intro s x hl ke
    rcases lp_some hl with ⟨s2, hb, hl2⟩ | hb
    · exact zb_P_touchPagesIn_5 hb (fun s3 e3 => by cases e3; refine z_ls [0, 1, 2, 3, 4] rfl ?_; exact ih s2 x hl2 ke) (fun x e3 => by cases e3)
    · exact zb_P_touchPagesIn_5 hb (fun s3 e3 => by cases e3) (fun x e3 => by cases e3; exact ke)
theorem zl_P_touchPagesIn_5 {l : Launch} {C : Ct} {mi : Nat} {y0 : Nat} {y1 : Option Nat} {y2 : Option Nat} {h' : Hp} {v : Int32} {s : Int32 × Int32 × Hp} {x : (Int32 × Hp)} (hl : l_P_touchPagesIn_5 y0 y1 y2 s = some x) (ke : Z l C mi m_P_touchPagesIn 1 107 [(3, vi x.1)] [] x.2 (some (vi v)) h') : Z l C mi m_P_touchPagesIn 1 5 [(0, vr (some y0)), (1, vr y1), (2, vr y2), (3, vi s.1), (4, vi s.2.1)] [] s.2.2 (some (vi v)) h' := zzl_P_touchPagesIn_5 FU s x hl ke
def f_P_touchPagesIn (a0 : Nat) (p1 : Option Nat) (p2 : Option Nat) (h : Hp) : Option (Int32 × Hp) :=
  bd (l_P_touchPagesIn_5 a0 p1 p2 ((0 : Int32), (0 : Int32), h)) fun x34 => some (x34.1, x34.2)
set_option maxRecDepth 100000 in
set_option maxHeartbeats 4000000 in
theorem zf_P_touchPagesIn {l : Launch} {C : Ct} {mi : Nat} {a0 : Nat} {p1 : Option Nat} {p2 : Option Nat} {h h' : Hp} {v : Int32} (hf : f_P_touchPagesIn a0 p1 p2 h = some (v, h')) : Z l C mi m_P_touchPagesIn 1 0 [(0, vr (some a0)), (1, vr p1), (2, vr p2)] [] h (some (vi v)) h' := by
  unfold f_P_touchPagesIn at hf
  refine z_iconst (v := (0 : Int32)) d_P_touchPagesIn_0 rfl ?_
  refine z_istore_n (ls2 := [(3, vi (0 : Int32)), (0, vr (some a0)), (1, vr p1), (2, vr p2)]) d_P_touchPagesIn_1 rfl (by decide) rfl ?_
  refine z_iconst (v := (0 : Int32)) d_P_touchPagesIn_2 rfl ?_
  refine z_istore (ls2 := [(4, vi (0 : Int32)), (3, vi (0 : Int32)), (0, vr (some a0)), (1, vr p1), (2, vr p2)]) d_P_touchPagesIn_3 (by decide) rfl ?_
  obtain ⟨x34, el35, hf⟩ := bd_some hf
  refine z_ls [2, 3, 4, 1, 0] rfl ?_
  refine zl_P_touchPagesIn_5 el35 ?_
  refine z_iload_n 0 d_P_touchPagesIn_107 rfl rfl ?_
  obtain ⟨rfl, rfl⟩ := Prod.mk.inj (Option.some.inj hf)
  exact z_ret d_P_touchPagesIn_108 rfl
theorem c_P_touchPagesIn {l : Launch} {C : Ct} {mi : Nat} {a0 : Nat} {p1 : Option Nat} {p2 : Option Nat} {h h' : Hp} {v : Int32} (hf : f_P_touchPagesIn a0 p1 p2 h = some (v, h')) : Mt l C mi m_P_touchPagesIn 1 [vr (some a0), vr p1, vr p2] h (some (vi v)) h' := mt_I (ty := .int) rfl rfl rfl (by decide) (Nat.le_of_ble_eq_true rfl) (zf_P_touchPagesIn hf)
-- VersionMaps$Present.size()I
def m_P_size : Mi := (⟨"VersionMaps$Present", "size", "()I"⟩, prog_7_method_6_code, 3, (Option.some Jvm.ClassFile.FieldType.int), .ireturn)
theorem cw_P_size : cw_ok m_P_size 0 := ⟨by decide +kernel, by decide +kernel, by decide +kernel, by decide +kernel⟩
theorem im_P_size : Cond.instanceMethod m_P_size.1 ∈ lw_w := by decide +kernel
theorem se_P_size : Cond.selects "VersionMaps$Present" m_P_size.1 m_P_size.1 ∈ lw_w := by decide +kernel
theorem d_P_size_0 : decode prog_7_method_6_code 0 = .ok (.iconst 0, 1) := by decide +kernel
theorem d_P_size_1 : decode prog_7_method_6_code 1 = .ok (.istore_n 1, 1) := by decide +kernel
theorem d_P_size_2 : decode prog_7_method_6_code 2 = .ok (.iconst 0, 1) := by decide +kernel
theorem d_P_size_3 : decode prog_7_method_6_code 3 = .ok (.istore_n 2, 1) := by decide +kernel
theorem d_P_size_4 : decode prog_7_method_6_code 4 = .ok (.iload_n 2, 1) := by decide +kernel
theorem d_P_size_5 : decode prog_7_method_6_code 5 = .ok (.iconst 4, 1) := by decide +kernel
theorem d_P_size_6 : decode prog_7_method_6_code 6 = .ok (.if_icmp .ge 21, 3) := by decide +kernel
theorem d_P_size_9 : decode prog_7_method_6_code 9 = .ok (.iload_n 1, 1) := by decide +kernel
theorem d_P_size_10 : decode prog_7_method_6_code 10 = .ok (.aload_n 0, 1) := by decide +kernel
theorem d_P_size_11 : decode prog_7_method_6_code 11 = .ok (.getfield 15, 3) := by decide +kernel
theorem d_P_size_14 : decode prog_7_method_6_code 14 = .ok (.iload_n 2, 1) := by decide +kernel
theorem d_P_size_15 : decode prog_7_method_6_code 15 = .ok (.iaload, 1) := by decide +kernel
theorem d_P_size_16 : decode prog_7_method_6_code 16 = .ok (.invokestatic 29, 3) := by decide +kernel
theorem d_P_size_19 : decode prog_7_method_6_code 19 = .ok (.iadd, 1) := by decide +kernel
theorem d_P_size_20 : decode prog_7_method_6_code 20 = .ok (.istore_n 1, 1) := by decide +kernel
theorem d_P_size_21 : decode prog_7_method_6_code 21 = .ok (.iinc 2 1, 3) := by decide +kernel
theorem d_P_size_24 : decode prog_7_method_6_code 24 = .ok (.goto (-20), 3) := by decide +kernel
theorem d_P_size_27 : decode prog_7_method_6_code 27 = .ok (.iload_n 1, 1) := by decide +kernel
theorem d_P_size_28 : decode prog_7_method_6_code 28 = .ok (.ireturn, 1) := by decide +kernel
def b_P_size_4 (y0 : Nat) (y1 : Int32) (y2 : Int32) (h : Hp) : Option ((Int32 × Int32 × Hp) ⊕ (Int32 × Hp)) :=
  if (4 : Int32) ≤ y2 then (some (.inr (y1, h))) else (gd (isK h y0 5) (dr (hpR h y0 1) fun a3 => gd (isA h a3 0) (gd (inb y2 (hpL h a3)) (cl (f_In_bitCount (hpI h a3 y2.toNatClampNeg) h) fun v9 h7 => some (.inl ((y1 + v9), (y2 + (1 : Int32)), h7))))))
set_option maxRecDepth 100000 in
set_option maxHeartbeats 4000000 in
theorem zb_P_size_4 {l : Launch} {C : Ct} {mi : Nat} {y0 : Nat} {y1 : Int32} {y2 : Int32} {h h' : Hp} {v : Int32} {q : ((Int32 × Int32 × Hp) ⊕ (Int32 × Hp))} (hf : b_P_size_4 y0 y1 y2 h = some q) (kc : ∀ s, q = .inl s → Z l C mi m_P_size 1 4 [(0, vr (some y0)), (1, vi s.1), (2, vi s.2.1)] [] s.2.2 (some (vi v)) h') (ke : ∀ x, q = .inr x → Z l C mi m_P_size 1 27 [(1, vi x.1)] [] x.2 (some (vi v)) h') : Z l C mi m_P_size 1 4 [(0, vr (some y0)), (1, vi y1), (2, vi y2)] [] h (some (vi v)) h' := by
  unfold b_P_size_4 at hf
  refine z_iload_n 2 d_P_size_4 rfl rfl ?_
  refine z_iconst (v := (4 : Int32)) d_P_size_5 rfl ?_
  refine z_icmp_ge (tgt := 27) d_P_size_6 (by decide) (fun c1 => ?_) (fun c1 => ?_)
  · rw [if_pos c1] at hf
    refine z_ls [1] rfl ?_
    exact ke (y1, h) (Option.some.inj hf).symm
  · rw [if_neg c1] at hf
    refine z_iload_n 1 d_P_size_9 rfl rfl ?_
    refine z_aload_n 0 d_P_size_10 rfl rfl ?_
    obtain ⟨g2, hf⟩ := gd_some hf
    refine z_getR d_P_size_11 (fl_K (isK_eq g2) fl_P_15_5) (fi_K (isK_eq g2) rfl) rfl ?_
    refine z_iload_n 2 d_P_size_14 rfl rfl ?_
    obtain ⟨a3, e4, hf⟩ := dr_some hf
    obtain ⟨g5, hf⟩ := gd_some hf
    obtain ⟨g6, hf⟩ := gd_some hf
    refine z_iald d_P_size_15 e4 (isA_eq g5).1 (isA_eq g5).2 (inb_vp g6) ?_
    obtain ⟨v9, h7, ec8, hf⟩ := cl_some hf
    refine z_callS (c_In_bitCount ec8) d_P_size_16 cw_In_bitCount lk_P_29 (by decide +kernel) ⟨by decide, by decide⟩ (Nat.le_of_ble_eq_true rfl) rfl ?_
    refine z_iadd d_P_size_19 ?_
    refine z_istore_n (ls2 := [(1, vi (y1 + v9)), (0, vr (some y0)), (2, vi y2)]) d_P_size_20 rfl (by decide) rfl ?_
    refine z_iinc (ls2 := [(2, vi (y2 + (1 : Int32))), (1, vi (y1 + v9)), (0, vr (some y0))]) 2 d_P_size_21 rfl rfl (by decide) rfl ?_
    refine z_goto (tgt := 4) d_P_size_24 (by decide) ?_
    refine z_ls [2, 1, 0] rfl ?_
    exact kc ((y1 + v9), (y2 + (1 : Int32)), h7) (Option.some.inj hf).symm
def l_P_size_4 (y0 : Nat) (s : Int32 × Int32 × Hp) : Option (Int32 × Hp) := lp (fun s => b_P_size_4 y0 s.1 s.2.1 s.2.2) FU s
theorem zzl_P_size_4 {l : Launch} {C : Ct} {mi : Nat} {y0 : Nat} {h' : Hp} {v : Int32} : ∀ (n : Nat) (s : Int32 × Int32 × Hp) (x : (Int32 × Hp)), lp (fun s : Int32 × Int32 × Hp => b_P_size_4 y0 s.1 s.2.1 s.2.2) n s = some x → Z l C mi m_P_size 1 27 [(1, vi x.1)] [] x.2 (some (vi v)) h' → Z l C mi m_P_size 1 4 [(0, vr (some y0)), (1, vi s.1), (2, vi s.2.1)] [] s.2.2 (some (vi v)) h' := by
  intro n
  induction n with
  | zero => intro s x hl; cases hl
  | succ n ih =>
    intro s x hl ke
    rcases lp_some hl with ⟨s2, hb, hl2⟩ | hb
    · exact zb_P_size_4 hb (fun s3 e3 => by cases e3; refine z_ls [0, 1, 2] rfl ?_; exact ih s2 x hl2 ke) (fun x e3 => by cases e3)
    · exact zb_P_size_4 hb (fun s3 e3 => by cases e3) (fun x e3 => by cases e3; exact ke)
theorem zl_P_size_4 {l : Launch} {C : Ct} {mi : Nat} {y0 : Nat} {h' : Hp} {v : Int32} {s : Int32 × Int32 × Hp} {x : (Int32 × Hp)} (hl : l_P_size_4 y0 s = some x) (ke : Z l C mi m_P_size 1 27 [(1, vi x.1)] [] x.2 (some (vi v)) h') : Z l C mi m_P_size 1 4 [(0, vr (some y0)), (1, vi s.1), (2, vi s.2.1)] [] s.2.2 (some (vi v)) h' := zzl_P_size_4 FU s x hl ke
def f_P_size (a0 : Nat) (h : Hp) : Option (Int32 × Hp) :=
  bd (l_P_size_4 a0 ((0 : Int32), (0 : Int32), h)) fun x10 => some (x10.1, x10.2)
set_option maxRecDepth 100000 in
set_option maxHeartbeats 4000000 in
theorem zf_P_size {l : Launch} {C : Ct} {mi : Nat} {a0 : Nat} {h h' : Hp} {v : Int32} (hf : f_P_size a0 h = some (v, h')) : Z l C mi m_P_size 1 0 [(0, vr (some a0))] [] h (some (vi v)) h' := by
  unfold f_P_size at hf
  refine z_iconst (v := (0 : Int32)) d_P_size_0 rfl ?_
  refine z_istore_n (ls2 := [(1, vi (0 : Int32)), (0, vr (some a0))]) d_P_size_1 rfl (by decide) rfl ?_
  refine z_iconst (v := (0 : Int32)) d_P_size_2 rfl ?_
  refine z_istore_n (ls2 := [(2, vi (0 : Int32)), (1, vi (0 : Int32)), (0, vr (some a0))]) d_P_size_3 rfl (by decide) rfl ?_
  obtain ⟨x10, el11, hf⟩ := bd_some hf
  refine z_ls [2, 1, 0] rfl ?_
  refine zl_P_size_4 el11 ?_
  refine z_iload_n 0 d_P_size_27 rfl rfl ?_
  obtain ⟨rfl, rfl⟩ := Prod.mk.inj (Option.some.inj hf)
  exact z_ret d_P_size_28 rfl
theorem c_P_size {l : Launch} {C : Ct} {mi : Nat} {a0 : Nat} {h h' : Hp} {v : Int32} (hf : f_P_size a0 h = some (v, h')) : Mt l C mi m_P_size 1 [vr (some a0)] h (some (vi v)) h' := mt_I (ty := .int) rfl rfl rfl (by decide) (Nat.le_of_ble_eq_true rfl) (zf_P_size hf)

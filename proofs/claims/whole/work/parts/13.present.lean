-- VersionMaps$Present.<init>()V
def m_P_init : Mi := (⟨"VersionMaps$Present", "<init>", "()V"⟩, prog_7_method_1_code, 1, (Option.none : Option Jvm.ClassFile.FieldType), .return_)
theorem cw_P_init : cw_ok m_P_init 0 := ⟨by decide +kernel, by decide +kernel, by decide +kernel, by decide +kernel⟩
theorem im_P_init : Cond.instanceMethod m_P_init.1 ∈ lw_w := by decide +kernel
theorem d_P_init_0 : decode prog_7_method_1_code 0 = .ok (.aload_n 0, 1) := by decide +kernel
theorem d_P_init_1 : decode prog_7_method_1_code 1 = .ok (.invokespecial 3, 3) := by decide +kernel
theorem d_P_init_4 : decode prog_7_method_1_code 4 = .ok (.aload_n 0, 1) := by decide +kernel
theorem d_P_init_5 : decode prog_7_method_1_code 5 = .ok (.sipush 128, 3) := by decide +kernel
theorem d_P_init_8 : decode prog_7_method_1_code 8 = .ok (.newarray .int, 2) := by decide +kernel
theorem d_P_init_10 : decode prog_7_method_1_code 10 = .ok (.putfield 9, 3) := by decide +kernel
theorem d_P_init_13 : decode prog_7_method_1_code 13 = .ok (.aload_n 0, 1) := by decide +kernel
theorem d_P_init_14 : decode prog_7_method_1_code 14 = .ok (.iconst 4, 1) := by decide +kernel
theorem d_P_init_15 : decode prog_7_method_1_code 15 = .ok (.newarray .int, 2) := by decide +kernel
theorem d_P_init_17 : decode prog_7_method_1_code 17 = .ok (.putfield 15, 3) := by decide +kernel
theorem d_P_init_20 : decode prog_7_method_1_code 20 = .ok (.aload_n 0, 1) := by decide +kernel
theorem d_P_init_21 : decode prog_7_method_1_code 21 = .ok (.iconst 0, 1) := by decide +kernel
theorem d_P_init_22 : decode prog_7_method_1_code 22 = .ok (.putfield 18, 3) := by decide +kernel
theorem d_P_init_25 : decode prog_7_method_1_code 25 = .ok (.aload_n 0, 1) := by decide +kernel
theorem d_P_init_26 : decode prog_7_method_1_code 26 = .ok (.iconst 0, 1) := by decide +kernel
theorem d_P_init_27 : decode prog_7_method_1_code 27 = .ok (.putfield 22, 3) := by decide +kernel
theorem d_P_init_30 : decode prog_7_method_1_code 30 = .ok (.return_, 1) := by decide +kernel
def W_P_init : Wl := ([(5, 0), (5, 1), (5, 2), (5, 3)], [])
def f_P_init (a0 : Nat) (h : Hp) : Option Hp :=
  nm (nw h 66 128 128) fun h1 => gd (isK h1 a0 5) (nm (wR h1 a0 0 (some (hpN h))) fun h5 => nm (nw h5 67 4 4) fun h8 => gd (isK h8 a0 5) (nm (wR h8 a0 1 (some (hpN h5))) fun h12 => nm (wI h12 a0 2 (0 : Int32)) fun h15 => nm (wI h15 a0 3 (0 : Int32)) fun h18 => some h18))
set_option maxRecDepth 100000 in
set_option maxHeartbeats 4000000 in
theorem zf_P_init {l : Launch} {C : Ct} {mi : Nat} {a0 : Nat} {h h' : Hp} (hf : f_P_init a0 h = some h') : Z l C mi m_P_init 1 0 [(0, vr (some a0))] [] h none h' := by
  unfold f_P_init at hf
  refine z_aload_n 0 d_P_init_0 rfl rfl ?_
  refine z_oinit d_P_init_1 (by decide +kernel) rfl (by decide) (Nat.le_of_ble_eq_true rfl) ?_
  refine z_aload_n 0 d_P_init_4 rfl rfl ?_
  refine z_sipush (v := (nI 128)) d_P_init_5 (by decide) ?_
  obtain ⟨h1, eh2, hf⟩ := nm_some hf
  refine z_newI (N := 128) (κ := 66) d_P_init_8 (by decide) rfl (by decide) (by decide) (by decide) ?_
  refine z_hp eh2 ?_
  obtain ⟨g4, hf⟩ := gd_some hf
  obtain ⟨h5, eh6, hf⟩ := nm_some hf
  refine z_putR d_P_init_10 (fl_K (isK_eq g4) fl_P_9_5) (pu_K (isK_eq g4) (fun q hq => by cases (Option.some.inj hq); exact Or.inr ⟨rfl, rfl⟩)) (fi_K (isK_eq g4) rfl) rfl ?_
  refine z_hp eh6 ?_
  refine z_aload_n 0 d_P_init_13 rfl rfl ?_
  refine z_iconst (v := (nI 4)) d_P_init_14 (by decide) ?_
  obtain ⟨h8, eh9, hf⟩ := nm_some hf
  refine z_newI (N := 4) (κ := 67) d_P_init_15 (by decide) rfl (by decide) (by decide) (by decide) ?_
  refine z_hp eh9 ?_
  obtain ⟨g11, hf⟩ := gd_some hf
  obtain ⟨h12, eh13, hf⟩ := nm_some hf
  refine z_putR d_P_init_17 (fl_K (isK_eq g11) fl_P_15_5) (pu_K (isK_eq g11) (fun q hq => by cases (Option.some.inj hq); exact Or.inr ⟨rfl, rfl⟩)) (fi_K (isK_eq g11) rfl) rfl ?_
  refine z_hp eh13 ?_
  refine z_aload_n 0 d_P_init_20 rfl rfl ?_
  refine z_iconst (v := (0 : Int32)) d_P_init_21 (by decide) ?_
  obtain ⟨h15, eh16, hf⟩ := nm_some hf
  refine z_putI d_P_init_22 (fl_K (isK_eq (isK_wR eh13 g11)) fl_P_18_5) (pu_K (isK_eq (isK_wR eh13 g11)) (fun q hq => by cases (Option.some.inj hq); exact Or.inl rfl)) (fi_K (isK_eq (isK_wR eh13 g11)) rfl) rfl ?_
  refine z_hp eh16 ?_
  refine z_aload_n 0 d_P_init_25 rfl rfl ?_
  refine z_iconst (v := (0 : Int32)) d_P_init_26 (by decide) ?_
  obtain ⟨h18, eh19, hf⟩ := nm_some hf
  refine z_putI d_P_init_27 (fl_K (isK_eq (isK_wI eh16 (isK_wR eh13 g11))) fl_P_22_5) (pu_K (isK_eq (isK_wI eh16 (isK_wR eh13 g11))) (fun q hq => by cases (Option.some.inj hq); exact Or.inl rfl)) (fi_K (isK_eq (isK_wI eh16 (isK_wR eh13 g11))) rfl) rfl ?_
  refine z_hp eh19 ?_
  cases (Option.some.inj hf)
  exact z_ret d_P_init_30 rfl
set_option maxRecDepth 100000 in
set_option maxHeartbeats 4000000 in
theorem fr_P_init {C : Ct} {mi : Nat} {a0 : Nat} {h h' : Hp} (hf : f_P_init a0 h = some h') : Keep W_P_init h h' := by
  unfold f_P_init at hf
  obtain ⟨h1, eh2, hf⟩ := nm_some hf
  have K3 := (Keep.refl W_P_init _).trans (kw_N eh2)
  obtain ⟨g4, hf⟩ := gd_some hf
  obtain ⟨h5, eh6, hf⟩ := nm_some hf
  have K7 := K3.trans (kw_R eh6 (isK_eq g4) (Or.inl (by decide)))
  obtain ⟨h8, eh9, hf⟩ := nm_some hf
  have K10 := K7.trans (kw_N eh9)
  obtain ⟨g11, hf⟩ := gd_some hf
  obtain ⟨h12, eh13, hf⟩ := nm_some hf
  have K14 := K10.trans (kw_R eh13 (isK_eq g11) (Or.inl (by decide)))
  obtain ⟨h15, eh16, hf⟩ := nm_some hf
  have K17 := K14.trans (kw_I eh16 (isK_eq (isK_wR eh13 g11)) (Or.inl (by decide)))
  obtain ⟨h18, eh19, hf⟩ := nm_some hf
  have K20 := K17.trans (kw_I eh19 (isK_eq (isK_wI eh16 (isK_wR eh13 g11))) (Or.inl (by decide)))
  cases (Option.some.inj hf)
  exact K20
theorem c_P_init {l : Launch} {C : Ct} {mi : Nat} {a0 : Nat} {h h' : Hp} (hf : f_P_init a0 h = some h') : Mt l C mi m_P_init 1 [vr (some a0)] h none h' := mt_V rfl rfl (by decide) (Nat.le_of_ble_eq_true rfl) (zf_P_init hf)
-- VersionMaps$Version.<init>(ILVersionMaps$Meta;)V
def m_V_init : Mi := (⟨"VersionMaps$Version", "<init>", "(ILVersionMaps$Meta;)V"⟩, prog_9_method_1_code, 3, (Option.none : Option Jvm.ClassFile.FieldType), .return_)
theorem cw_V_init : cw_ok m_V_init 2 := ⟨by decide +kernel, by decide +kernel, by decide +kernel, by decide +kernel⟩
theorem im_V_init : Cond.instanceMethod m_V_init.1 ∈ lw_w := by decide +kernel
theorem d_V_init_0 : decode prog_9_method_1_code 0 = .ok (.aload_n 0, 1) := by decide +kernel
theorem d_V_init_1 : decode prog_9_method_1_code 1 = .ok (.invokespecial 1, 3) := by decide +kernel
theorem d_V_init_4 : decode prog_9_method_1_code 4 = .ok (.aload_n 0, 1) := by decide +kernel
theorem d_V_init_5 : decode prog_9_method_1_code 5 = .ok (.iconst 0, 1) := by decide +kernel
theorem d_V_init_6 : decode prog_9_method_1_code 6 = .ok (.putfield 7, 3) := by decide +kernel
theorem d_V_init_9 : decode prog_9_method_1_code 9 = .ok (.aload_n 0, 1) := by decide +kernel
theorem d_V_init_10 : decode prog_9_method_1_code 10 = .ok (.iload_n 1, 1) := by decide +kernel
theorem d_V_init_11 : decode prog_9_method_1_code 11 = .ok (.putfield 13, 3) := by decide +kernel
theorem d_V_init_14 : decode prog_9_method_1_code 14 = .ok (.aload_n 0, 1) := by decide +kernel
theorem d_V_init_15 : decode prog_9_method_1_code 15 = .ok (.aload_n 2, 1) := by decide +kernel
theorem d_V_init_16 : decode prog_9_method_1_code 16 = .ok (.putfield 16, 3) := by decide +kernel
theorem d_V_init_19 : decode prog_9_method_1_code 19 = .ok (.return_, 1) := by decide +kernel
def W_V_init : Wl := ([(7, 0), (7, 1), (7, 2)], [])
def f_V_init (a0 : Nat) (p1 : Int32) (p2 : Option Nat) (h : Hp) : Option Hp :=
  gd (isK h a0 7) (nm (wI h a0 2 (0 : Int32)) fun h2 => nm (wI h2 a0 0 p1) fun h5 => nm (wR h5 a0 1 p2) fun h8 => some h8)
set_option maxRecDepth 100000 in
set_option maxHeartbeats 4000000 in
theorem zf_V_init {l : Launch} {C : Ct} {mi : Nat} {a0 : Nat} {p1 : Int32} {p2 : Option Nat} {h h' : Hp} (hf : f_V_init a0 p1 p2 h = some h') : Z l C mi m_V_init 1 0 [(0, vr (some a0)), (1, vi p1), (2, vr p2)] [] h none h' := by
  unfold f_V_init at hf
  refine z_aload_n 0 d_V_init_0 rfl rfl ?_
  refine z_oinit d_V_init_1 (by decide +kernel) rfl (by decide) (Nat.le_of_ble_eq_true rfl) ?_
  refine z_aload_n 0 d_V_init_4 rfl rfl ?_
  refine z_iconst (v := (0 : Int32)) d_V_init_5 (by decide) ?_
  obtain ⟨g1, hf⟩ := gd_some hf
  obtain ⟨h2, eh3, hf⟩ := nm_some hf
  refine z_putI d_V_init_6 (fl_K (isK_eq g1) fl_V_7_7) (pu_K (isK_eq g1) (fun q hq => by cases (Option.some.inj hq); exact Or.inl rfl)) (fi_K (isK_eq g1) rfl) rfl ?_
  refine z_hp eh3 ?_
  refine z_aload_n 0 d_V_init_9 rfl rfl ?_
  refine z_iload_n 1 d_V_init_10 rfl rfl ?_
  obtain ⟨h5, eh6, hf⟩ := nm_some hf
  refine z_putI d_V_init_11 (fl_K (isK_eq (isK_wI eh3 g1)) fl_V_13_7) (pu_K (isK_eq (isK_wI eh3 g1)) (fun q hq => by cases (Option.some.inj hq); exact Or.inr ⟨rfl, rfl⟩)) (fi_K (isK_eq (isK_wI eh3 g1)) rfl) rfl ?_
  refine z_hp eh6 ?_
  refine z_aload_n 0 d_V_init_14 rfl rfl ?_
  refine z_aload_n 2 d_V_init_15 rfl rfl ?_
  obtain ⟨h8, eh9, hf⟩ := nm_some hf
  refine z_putR d_V_init_16 (fl_K (isK_eq (isK_wI eh6 (isK_wI eh3 g1))) fl_V_16_7) (pu_K (isK_eq (isK_wI eh6 (isK_wI eh3 g1))) (fun q hq => by cases (Option.some.inj hq); exact Or.inl rfl)) (fi_K (isK_eq (isK_wI eh6 (isK_wI eh3 g1))) rfl) rfl ?_
  refine z_hp eh9 ?_
  cases (Option.some.inj hf)
  exact z_ret d_V_init_19 rfl
set_option maxRecDepth 100000 in
set_option maxHeartbeats 4000000 in
theorem fr_V_init {C : Ct} {mi : Nat} {a0 : Nat} {p1 : Int32} {p2 : Option Nat} {h h' : Hp} (hf : f_V_init a0 p1 p2 h = some h') : Keep W_V_init h h' := by
  unfold f_V_init at hf
  obtain ⟨g1, hf⟩ := gd_some hf
  obtain ⟨h2, eh3, hf⟩ := nm_some hf
  have K4 := (Keep.refl W_V_init _).trans (kw_I eh3 (isK_eq g1) (Or.inl (by decide)))
  obtain ⟨h5, eh6, hf⟩ := nm_some hf
  have K7 := K4.trans (kw_I eh6 (isK_eq (isK_wI eh3 g1)) (Or.inl (by decide)))
  obtain ⟨h8, eh9, hf⟩ := nm_some hf
  have K10 := K7.trans (kw_R eh9 (isK_eq (isK_wI eh6 (isK_wI eh3 g1))) (Or.inl (by decide)))
  cases (Option.some.inj hf)
  exact K10
theorem c_V_init {l : Launch} {C : Ct} {mi : Nat} {a0 : Nat} {p1 : Int32} {p2 : Option Nat} {h h' : Hp} (hf : f_V_init a0 p1 p2 h = some h') : Mt l C mi m_V_init 1 [vr (some a0), vi p1, vr p2] h none h' := mt_V rfl rfl (by decide) (Nat.le_of_ble_eq_true rfl) (zf_V_init hf)
-- VersionMaps$Present.has(II)Z
def m_P_has : Mi := (⟨"VersionMaps$Present", "has", "(II)Z"⟩, prog_7_method_2_code, 3, (Option.some Jvm.ClassFile.FieldType.boolean), .ireturn)
theorem cw_P_has : cw_ok m_P_has 2 := ⟨by decide +kernel, by decide +kernel, by decide +kernel, by decide +kernel⟩
theorem im_P_has : Cond.instanceMethod m_P_has.1 ∈ lw_w := by decide +kernel
theorem se_P_has : Cond.selects "VersionMaps$Present" m_P_has.1 m_P_has.1 ∈ lw_w := by decide +kernel
theorem d_P_has_0 : decode prog_7_method_2_code 0 = .ok (.aload_n 0, 1) := by decide +kernel
theorem d_P_has_1 : decode prog_7_method_2_code 1 = .ok (.getfield 15, 3) := by decide +kernel
theorem d_P_has_4 : decode prog_7_method_2_code 4 = .ok (.iload_n 1, 1) := by decide +kernel
theorem d_P_has_5 : decode prog_7_method_2_code 5 = .ok (.iaload, 1) := by decide +kernel
theorem d_P_has_6 : decode prog_7_method_2_code 6 = .ok (.iload_n 2, 1) := by decide +kernel
theorem d_P_has_7 : decode prog_7_method_2_code 7 = .ok (.iushr, 1) := by decide +kernel
theorem d_P_has_8 : decode prog_7_method_2_code 8 = .ok (.iconst 1, 1) := by decide +kernel
theorem d_P_has_9 : decode prog_7_method_2_code 9 = .ok (.iand, 1) := by decide +kernel
theorem d_P_has_10 : decode prog_7_method_2_code 10 = .ok (.iconst 1, 1) := by decide +kernel
theorem d_P_has_11 : decode prog_7_method_2_code 11 = .ok (.if_icmp .ne 7, 3) := by decide +kernel
theorem d_P_has_14 : decode prog_7_method_2_code 14 = .ok (.iconst 1, 1) := by decide +kernel
theorem d_P_has_15 : decode prog_7_method_2_code 15 = .ok (.goto 4, 3) := by decide +kernel
theorem d_P_has_18 : decode prog_7_method_2_code 18 = .ok (.iconst 0, 1) := by decide +kernel
theorem d_P_has_19 : decode prog_7_method_2_code 19 = .ok (.ireturn, 1) := by decide +kernel
def W_P_has : Wl := ([], [])
def f0_P_has (a0 : Nat) (p1 : Int32) (p2 : Int32) (h : Hp) : Option (Int32 × Hp) :=
  gd (isK h a0 5) (dr (hpR h a0 1) fun a2 => gd (isK h a2 67) (gd (inb p1 (hpL h a2)) (if ((ushr (hpI h a2 p1.toNatClampNeg) p2) &&& (1 : Int32)) = (1 : Int32) then (some ((1 : Int32), h)) else (some ((0 : Int32), h)))))
def f_P_has (a0 : Nat) (p1 : Int32) (p2 : Int32) (h : Hp) : Option (Int32 × Hp) := zbw (f0_P_has a0 p1 p2 h)
set_option maxRecDepth 100000 in
set_option maxHeartbeats 4000000 in
theorem zf_P_has {l : Launch} {C : Ct} {mi : Nat} {a0 : Nat} {p1 : Int32} {p2 : Int32} {h h' : Hp} {v : Int32} (hf : f0_P_has a0 p1 p2 h = some (v, h')) : Z l C mi m_P_has 0 0 [(0, vr (some a0)), (1, vi p1), (2, vi p2)] [] h (some (vi v)) h' := by
  unfold f0_P_has at hf
  refine z_aload_n 0 d_P_has_0 rfl rfl ?_
  obtain ⟨g1, hf⟩ := gd_some hf
  refine z_getR d_P_has_1 (fl_K (isK_eq g1) fl_P_15_5) (fi_K (isK_eq g1) rfl) rfl ?_
  refine z_iload_n 1 d_P_has_4 rfl rfl ?_
  obtain ⟨a2, e3, hf⟩ := dr_some hf
  obtain ⟨g4, hf⟩ := gd_some hf
  obtain ⟨g5, hf⟩ := gd_some hf
  refine z_iald d_P_has_5 e3 (by rw [isK_eq g4]; decide) (by rw [isK_eq g4]; rfl) (inb_vp g5) ?_
  refine z_iload_n 2 d_P_has_6 rfl rfl ?_
  refine z_iushr d_P_has_7 ?_
  refine z_iconst (v := (1 : Int32)) d_P_has_8 (by decide) ?_
  refine z_iand d_P_has_9 ?_
  refine z_iconst (v := (1 : Int32)) d_P_has_10 (by decide) ?_
  refine z_icmp_ne (tgt := 18) d_P_has_11 (by decide) (fun c6 => ?_) (fun c6 => ?_)
  · rw [if_neg c6] at hf
    refine z_iconst (v := (0 : Int32)) d_P_has_18 (by decide) ?_
    obtain ⟨rfl, rfl⟩ := Prod.mk.inj (Option.some.inj hf)
    exact z_ret d_P_has_19 rfl
  · rw [if_pos c6] at hf
    refine z_iconst (v := (1 : Int32)) d_P_has_14 (by decide) ?_
    refine z_goto (tgt := 19) d_P_has_15 (by decide) ?_
    obtain ⟨rfl, rfl⟩ := Prod.mk.inj (Option.some.inj hf)
    exact z_ret d_P_has_19 rfl
set_option maxRecDepth 100000 in
set_option maxHeartbeats 4000000 in
theorem fr0_P_has {C : Ct} {mi : Nat} {a0 : Nat} {p1 : Int32} {p2 : Int32} {h h' : Hp} {v : Int32} (hf : f0_P_has a0 p1 p2 h = some (v, h')) : Keep W_P_has h h' := by
  unfold f0_P_has at hf
  obtain ⟨g1, hf⟩ := gd_some hf
  obtain ⟨a2, e3, hf⟩ := dr_some hf
  obtain ⟨g4, hf⟩ := gd_some hf
  obtain ⟨g5, hf⟩ := gd_some hf
  rcases (Classical.em (((ushr (hpI h a2 p1.toNatClampNeg) p2) &&& (1 : Int32)) = (1 : Int32))).symm with c6 | c6
  · rw [if_neg c6] at hf
    obtain ⟨rfl, rfl⟩ := Prod.mk.inj (Option.some.inj hf)
    exact (Keep.refl W_P_has _)
  · rw [if_pos c6] at hf
    obtain ⟨rfl, rfl⟩ := Prod.mk.inj (Option.some.inj hf)
    exact (Keep.refl W_P_has _)
theorem fr_P_has {C : Ct} {mi : Nat} {a0 : Nat} {p1 : Int32} {p2 : Int32} {h h' : Hp} {v : Int32} (hf : f_P_has a0 p1 p2 h = some (v, h')) : Keep W_P_has h h' := fr0_P_has (C := C) (mi := mi) (zbw_some hf).2
theorem c_P_has {l : Launch} {C : Ct} {mi : Nat} {a0 : Nat} {p1 : Int32} {p2 : Int32} {h h' : Hp} {v : Int32} (hf : f_P_has a0 p1 p2 h = some (v, h')) : Mt l C mi m_P_has 0 [vr (some a0), vi p1, vi p2] h (some (vi v)) h' := mt_I (ty := .boolean) rfl rfl (zb_eq (zbw_some hf).1) (by decide) (Nat.le_of_ble_eq_true rfl) (zf_P_has (zbw_some hf).2)
-- VersionMaps$Present.touchLeaf(II)V
def m_P_touchLeaf : Mi := (⟨"VersionMaps$Present", "touchLeaf", "(II)V"⟩, prog_7_method_15_code, 3, (Option.none : Option Jvm.ClassFile.FieldType), .return_)
theorem cw_P_touchLeaf : cw_ok m_P_touchLeaf 2 := ⟨by decide +kernel, by decide +kernel, by decide +kernel, by decide +kernel⟩
theorem im_P_touchLeaf : Cond.instanceMethod m_P_touchLeaf.1 ∈ lw_w := by decide +kernel
theorem se_P_touchLeaf : Cond.selects "VersionMaps$Present" m_P_touchLeaf.1 m_P_touchLeaf.1 ∈ lw_w := by decide +kernel
theorem d_P_touchLeaf_0 : decode prog_7_method_15_code 0 = .ok (.aload_n 0, 1) := by decide +kernel
theorem d_P_touchLeaf_1 : decode prog_7_method_15_code 1 = .ok (.dup, 1) := by decide +kernel
theorem d_P_touchLeaf_2 : decode prog_7_method_15_code 2 = .ok (.getfield 18, 3) := by decide +kernel
theorem d_P_touchLeaf_5 : decode prog_7_method_15_code 5 = .ok (.iconst 1, 1) := by decide +kernel
theorem d_P_touchLeaf_6 : decode prog_7_method_15_code 6 = .ok (.iconst 4, 1) := by decide +kernel
theorem d_P_touchLeaf_7 : decode prog_7_method_15_code 7 = .ok (.iload_n 1, 1) := by decide +kernel
theorem d_P_touchLeaf_8 : decode prog_7_method_15_code 8 = .ok (.imul, 1) := by decide +kernel
theorem d_P_touchLeaf_9 : decode prog_7_method_15_code 9 = .ok (.iload_n 2, 1) := by decide +kernel
theorem d_P_touchLeaf_10 : decode prog_7_method_15_code 10 = .ok (.iadd, 1) := by decide +kernel
theorem d_P_touchLeaf_11 : decode prog_7_method_15_code 11 = .ok (.ishl, 1) := by decide +kernel
theorem d_P_touchLeaf_12 : decode prog_7_method_15_code 12 = .ok (.ior, 1) := by decide +kernel
theorem d_P_touchLeaf_13 : decode prog_7_method_15_code 13 = .ok (.putfield 18, 3) := by decide +kernel
theorem d_P_touchLeaf_16 : decode prog_7_method_15_code 16 = .ok (.return_, 1) := by decide +kernel
def W_P_touchLeaf : Wl := ([(5, 2)], [])
def f_P_touchLeaf (a0 : Nat) (p1 : Int32) (p2 : Int32) (h : Hp) : Option Hp :=
  gd (isK h a0 5) (nm (wI h a0 2 ((hpI h a0 2) ||| ((1 : Int32) <<< ((((nI 4) * p1) + p2) &&& 31)))) fun h2 => some h2)
set_option maxRecDepth 100000 in
set_option maxHeartbeats 4000000 in
theorem zf_P_touchLeaf {l : Launch} {C : Ct} {mi : Nat} {a0 : Nat} {p1 : Int32} {p2 : Int32} {h h' : Hp} (hf : f_P_touchLeaf a0 p1 p2 h = some h') : Z l C mi m_P_touchLeaf 0 0 [(0, vr (some a0)), (1, vi p1), (2, vi p2)] [] h none h' := by
  unfold f_P_touchLeaf at hf
  refine z_aload_n 0 d_P_touchLeaf_0 rfl rfl ?_
  refine z_dup d_P_touchLeaf_1 rfl ?_
  obtain ⟨g1, hf⟩ := gd_some hf
  refine z_getI d_P_touchLeaf_2 (fl_K (isK_eq g1) fl_P_18_5) (fi_K (isK_eq g1) rfl) rfl ?_
  refine z_iconst (v := (1 : Int32)) d_P_touchLeaf_5 (by decide) ?_
  refine z_iconst (v := (nI 4)) d_P_touchLeaf_6 (by decide) ?_
  refine z_iload_n 1 d_P_touchLeaf_7 rfl rfl ?_
  refine z_imul d_P_touchLeaf_8 ?_
  refine z_iload_n 2 d_P_touchLeaf_9 rfl rfl ?_
  refine z_iadd d_P_touchLeaf_10 ?_
  refine z_ishl d_P_touchLeaf_11 ?_
  refine z_ior d_P_touchLeaf_12 ?_
  obtain ⟨h2, eh3, hf⟩ := nm_some hf
  refine z_putI d_P_touchLeaf_13 (fl_K (isK_eq g1) fl_P_18_5) (pu_K (isK_eq g1) (fun q hq => by cases (Option.some.inj hq); exact Or.inl rfl)) (fi_K (isK_eq g1) rfl) rfl ?_
  refine z_hp eh3 ?_
  cases (Option.some.inj hf)
  exact z_ret d_P_touchLeaf_16 rfl
set_option maxRecDepth 100000 in
set_option maxHeartbeats 4000000 in
theorem fr_P_touchLeaf {C : Ct} {mi : Nat} {a0 : Nat} {p1 : Int32} {p2 : Int32} {h h' : Hp} (hf : f_P_touchLeaf a0 p1 p2 h = some h') : Keep W_P_touchLeaf h h' := by
  unfold f_P_touchLeaf at hf
  obtain ⟨g1, hf⟩ := gd_some hf
  obtain ⟨h2, eh3, hf⟩ := nm_some hf
  have K4 := (Keep.refl W_P_touchLeaf _).trans (kw_I eh3 (isK_eq g1) (Or.inl (by decide)))
  cases (Option.some.inj hf)
  exact K4
theorem c_P_touchLeaf {l : Launch} {C : Ct} {mi : Nat} {a0 : Nat} {p1 : Int32} {p2 : Int32} {h h' : Hp} (hf : f_P_touchLeaf a0 p1 p2 h = some h') : Mt l C mi m_P_touchLeaf 0 [vr (some a0), vi p1, vi p2] h none h' := mt_V rfl rfl (by decide) (Nat.le_of_ble_eq_true rfl) (zf_P_touchLeaf hf)
-- VersionMaps$Present.assign(III)V
def m_P_assign : Mi := (⟨"VersionMaps$Present", "assign", "(III)V"⟩, prog_7_method_4_code, 4, (Option.none : Option Jvm.ClassFile.FieldType), .return_)
theorem cw_P_assign : cw_ok m_P_assign 3 := ⟨by decide +kernel, by decide +kernel, by decide +kernel, by decide +kernel⟩
theorem im_P_assign : Cond.instanceMethod m_P_assign.1 ∈ lw_w := by decide +kernel
theorem se_P_assign : Cond.selects "VersionMaps$Present" m_P_assign.1 m_P_assign.1 ∈ lw_w := by decide +kernel
theorem d_P_assign_0 : decode prog_7_method_4_code 0 = .ok (.aload_n 0, 1) := by decide +kernel
theorem d_P_assign_1 : decode prog_7_method_4_code 1 = .ok (.getfield 9, 3) := by decide +kernel
theorem d_P_assign_4 : decode prog_7_method_4_code 4 = .ok (.bipush 32, 2) := by decide +kernel
theorem d_P_assign_6 : decode prog_7_method_4_code 6 = .ok (.iload_n 1, 1) := by decide +kernel
theorem d_P_assign_7 : decode prog_7_method_4_code 7 = .ok (.imul, 1) := by decide +kernel
theorem d_P_assign_8 : decode prog_7_method_4_code 8 = .ok (.iload_n 2, 1) := by decide +kernel
theorem d_P_assign_9 : decode prog_7_method_4_code 9 = .ok (.iadd, 1) := by decide +kernel
theorem d_P_assign_10 : decode prog_7_method_4_code 10 = .ok (.iload_n 3, 1) := by decide +kernel
theorem d_P_assign_11 : decode prog_7_method_4_code 11 = .ok (.iastore, 1) := by decide +kernel
theorem d_P_assign_12 : decode prog_7_method_4_code 12 = .ok (.aload_n 0, 1) := by decide +kernel
theorem d_P_assign_13 : decode prog_7_method_4_code 13 = .ok (.getfield 15, 3) := by decide +kernel
theorem d_P_assign_16 : decode prog_7_method_4_code 16 = .ok (.iload_n 1, 1) := by decide +kernel
theorem d_P_assign_17 : decode prog_7_method_4_code 17 = .ok (.dup2, 1) := by decide +kernel
theorem d_P_assign_18 : decode prog_7_method_4_code 18 = .ok (.iaload, 1) := by decide +kernel
theorem d_P_assign_19 : decode prog_7_method_4_code 19 = .ok (.iconst 1, 1) := by decide +kernel
theorem d_P_assign_20 : decode prog_7_method_4_code 20 = .ok (.iload_n 2, 1) := by decide +kernel
theorem d_P_assign_21 : decode prog_7_method_4_code 21 = .ok (.ishl, 1) := by decide +kernel
theorem d_P_assign_22 : decode prog_7_method_4_code 22 = .ok (.ior, 1) := by decide +kernel
theorem d_P_assign_23 : decode prog_7_method_4_code 23 = .ok (.iastore, 1) := by decide +kernel
theorem d_P_assign_24 : decode prog_7_method_4_code 24 = .ok (.aload_n 0, 1) := by decide +kernel
theorem d_P_assign_25 : decode prog_7_method_4_code 25 = .ok (.iload_n 1, 1) := by decide +kernel
theorem d_P_assign_26 : decode prog_7_method_4_code 26 = .ok (.iload_n 2, 1) := by decide +kernel
theorem d_P_assign_27 : decode prog_7_method_4_code 27 = .ok (.bipush 8, 2) := by decide +kernel
theorem d_P_assign_29 : decode prog_7_method_4_code 29 = .ok (.idiv, 1) := by decide +kernel
theorem d_P_assign_30 : decode prog_7_method_4_code 30 = .ok (.invokevirtual 25, 3) := by decide +kernel
theorem d_P_assign_33 : decode prog_7_method_4_code 33 = .ok (.return_, 1) := by decide +kernel
def W_P_assign : Wl := ([(5, 2)], [66, 67])
def f_P_assign (a0 : Nat) (p1 : Int32) (p2 : Int32) (p3 : Int32) (h : Hp) : Option Hp :=
  gd (isK h a0 5) (dr (hpR h a0 0) fun a2 => gd (isK h a2 66) (gd (inb (((nI 32) * p1) + p2) (hpL h a2)) (nm (wI h a2 (((nI 32) * p1) + p2).toNatClampNeg p3) fun h6 => dr (hpR h6 a0 1) fun a9 => gd (isK h6 a9 67) (gd (inb p1 (hpL h6 a9)) (nm (wI h6 a9 p1.toNatClampNeg ((hpI h6 a9 p1.toNatClampNeg) ||| ((1 : Int32) <<< (p2 &&& 31)))) fun h13 => cv (f_P_touchLeaf a0 p1 (p2 / (nI 8)) h13) fun h16 => some h16)))))
set_option maxRecDepth 100000 in
set_option maxHeartbeats 4000000 in
theorem zf_P_assign {l : Launch} {C : Ct} {mi : Nat} {a0 : Nat} {p1 : Int32} {p2 : Int32} {p3 : Int32} {h h' : Hp} (hf : f_P_assign a0 p1 p2 p3 h = some h') : Z l C mi m_P_assign 1 0 [(0, vr (some a0)), (1, vi p1), (2, vi p2), (3, vi p3)] [] h none h' := by
  unfold f_P_assign at hf
  refine z_aload_n 0 d_P_assign_0 rfl rfl ?_
  obtain ⟨g1, hf⟩ := gd_some hf
  refine z_getR d_P_assign_1 (fl_K (isK_eq g1) fl_P_9_5) (fi_K (isK_eq g1) rfl) rfl ?_
  refine z_bipush (v := (nI 32)) d_P_assign_4 (by decide) ?_
  refine z_iload_n 1 d_P_assign_6 rfl rfl ?_
  refine z_imul d_P_assign_7 ?_
  refine z_iload_n 2 d_P_assign_8 rfl rfl ?_
  refine z_iadd d_P_assign_9 ?_
  refine z_iload_n 3 d_P_assign_10 rfl rfl ?_
  obtain ⟨a2, e3, hf⟩ := dr_some hf
  obtain ⟨g4, hf⟩ := gd_some hf
  obtain ⟨g5, hf⟩ := gd_some hf
  obtain ⟨h6, eh7, hf⟩ := nm_some hf
  refine z_iast d_P_assign_11 e3 (by rw [isK_eq g4]; decide) (by rw [isK_eq g4]; rfl) (inb_vp g5) ?_
  refine z_hp eh7 ?_
  refine z_aload_n 0 d_P_assign_12 rfl rfl ?_
  refine z_getR d_P_assign_13 (fl_K (isK_eq (isK_wI eh7 g1)) fl_P_15_5) (fi_K (isK_eq (isK_wI eh7 g1)) rfl) rfl ?_
  refine z_iload_n 1 d_P_assign_16 rfl rfl ?_
  refine z_dup2 d_P_assign_17 rfl rfl ?_
  obtain ⟨a9, e10, hf⟩ := dr_some hf
  obtain ⟨g11, hf⟩ := gd_some hf
  obtain ⟨g12, hf⟩ := gd_some hf
  refine z_iald d_P_assign_18 e10 (by rw [isK_eq g11]; decide) (by rw [isK_eq g11]; rfl) (inb_vp g12) ?_
  refine z_iconst (v := (1 : Int32)) d_P_assign_19 (by decide) ?_
  refine z_iload_n 2 d_P_assign_20 rfl rfl ?_
  refine z_ishl d_P_assign_21 ?_
  refine z_ior d_P_assign_22 ?_
  obtain ⟨h13, eh14, hf⟩ := nm_some hf
  refine z_iast d_P_assign_23 e10 (by rw [isK_eq g11]; decide) (by rw [isK_eq g11]; rfl) (inb_vp g12) ?_
  refine z_hp eh14 ?_
  refine z_aload_n 0 d_P_assign_24 rfl rfl ?_
  refine z_iload_n 1 d_P_assign_25 rfl rfl ?_
  refine z_iload_n 2 d_P_assign_26 rfl rfl ?_
  refine z_bipush (v := (nI 8)) d_P_assign_27 (by decide) ?_
  refine z_idiv d_P_assign_29 (by decide) ?_
  obtain ⟨h16, ec17, hf⟩ := cv_some hf
  refine z_callVx rfl (c_P_touchLeaf ec17) d_P_assign_30 cw_P_touchLeaf lk_P_25 im_P_touchLeaf se_P_touchLeaf (kc_K (isK_eq (isK_wI eh14 (isK_wI eh7 g1))) kc_5) ⟨by decide, by decide⟩ (Nat.le_of_ble_eq_true rfl) rfl ?_
  cases (Option.some.inj hf)
  exact z_ret d_P_assign_33 rfl
set_option maxRecDepth 100000 in
set_option maxHeartbeats 4000000 in
theorem fr_P_assign {C : Ct} {mi : Nat} {a0 : Nat} {p1 : Int32} {p2 : Int32} {p3 : Int32} {h h' : Hp} (hf : f_P_assign a0 p1 p2 p3 h = some h') : Keep W_P_assign h h' := by
  unfold f_P_assign at hf
  obtain ⟨g1, hf⟩ := gd_some hf
  obtain ⟨a2, e3, hf⟩ := dr_some hf
  obtain ⟨g4, hf⟩ := gd_some hf
  obtain ⟨g5, hf⟩ := gd_some hf
  obtain ⟨h6, eh7, hf⟩ := nm_some hf
  have K8 := (Keep.refl W_P_assign _).trans (kw_I eh7 (isK_eq g4) (Or.inr (by decide)))
  obtain ⟨a9, e10, hf⟩ := dr_some hf
  obtain ⟨g11, hf⟩ := gd_some hf
  obtain ⟨g12, hf⟩ := gd_some hf
  obtain ⟨h13, eh14, hf⟩ := nm_some hf
  have K15 := K8.trans (kw_I eh14 (isK_eq g11) (Or.inr (by decide)))
  obtain ⟨h16, ec17, hf⟩ := cv_some hf
  have K18 := K15.trans ((fr_P_touchLeaf (C := C) (mi := mi) ec17).mono (by decide) (by decide))
  cases (Option.some.inj hf)
  exact K18
theorem c_P_assign {l : Launch} {C : Ct} {mi : Nat} {a0 : Nat} {p1 : Int32} {p2 : Int32} {p3 : Int32} {h h' : Hp} (hf : f_P_assign a0 p1 p2 p3 h = some h') : Mt l C mi m_P_assign 1 [vr (some a0), vi p1, vi p2, vi p3] h none h' := mt_V rfl rfl (by decide) (Nat.le_of_ble_eq_true rfl) (zf_P_assign hf)
-- VersionMaps$Present.erase(II)V
def m_P_erase : Mi := (⟨"VersionMaps$Present", "erase", "(II)V"⟩, prog_7_method_5_code, 3, (Option.none : Option Jvm.ClassFile.FieldType), .return_)
theorem cw_P_erase : cw_ok m_P_erase 2 := ⟨by decide +kernel, by decide +kernel, by decide +kernel, by decide +kernel⟩
theorem im_P_erase : Cond.instanceMethod m_P_erase.1 ∈ lw_w := by decide +kernel
theorem se_P_erase : Cond.selects "VersionMaps$Present" m_P_erase.1 m_P_erase.1 ∈ lw_w := by decide +kernel
theorem d_P_erase_0 : decode prog_7_method_5_code 0 = .ok (.aload_n 0, 1) := by decide +kernel
theorem d_P_erase_1 : decode prog_7_method_5_code 1 = .ok (.getfield 15, 3) := by decide +kernel
theorem d_P_erase_4 : decode prog_7_method_5_code 4 = .ok (.iload_n 1, 1) := by decide +kernel
theorem d_P_erase_5 : decode prog_7_method_5_code 5 = .ok (.dup2, 1) := by decide +kernel
theorem d_P_erase_6 : decode prog_7_method_5_code 6 = .ok (.iaload, 1) := by decide +kernel
theorem d_P_erase_7 : decode prog_7_method_5_code 7 = .ok (.iconst 1, 1) := by decide +kernel
theorem d_P_erase_8 : decode prog_7_method_5_code 8 = .ok (.iload_n 2, 1) := by decide +kernel
theorem d_P_erase_9 : decode prog_7_method_5_code 9 = .ok (.ishl, 1) := by decide +kernel
theorem d_P_erase_10 : decode prog_7_method_5_code 10 = .ok (.iconst (-1), 1) := by decide +kernel
theorem d_P_erase_11 : decode prog_7_method_5_code 11 = .ok (.ixor, 1) := by decide +kernel
theorem d_P_erase_12 : decode prog_7_method_5_code 12 = .ok (.iand, 1) := by decide +kernel
theorem d_P_erase_13 : decode prog_7_method_5_code 13 = .ok (.iastore, 1) := by decide +kernel
theorem d_P_erase_14 : decode prog_7_method_5_code 14 = .ok (.aload_n 0, 1) := by decide +kernel
theorem d_P_erase_15 : decode prog_7_method_5_code 15 = .ok (.iload_n 1, 1) := by decide +kernel
theorem d_P_erase_16 : decode prog_7_method_5_code 16 = .ok (.iload_n 2, 1) := by decide +kernel
theorem d_P_erase_17 : decode prog_7_method_5_code 17 = .ok (.bipush 8, 2) := by decide +kernel
theorem d_P_erase_19 : decode prog_7_method_5_code 19 = .ok (.idiv, 1) := by decide +kernel
theorem d_P_erase_20 : decode prog_7_method_5_code 20 = .ok (.invokevirtual 25, 3) := by decide +kernel
theorem d_P_erase_23 : decode prog_7_method_5_code 23 = .ok (.return_, 1) := by decide +kernel
def W_P_erase : Wl := ([(5, 2)], [67])
def f_P_erase (a0 : Nat) (p1 : Int32) (p2 : Int32) (h : Hp) : Option Hp :=
  gd (isK h a0 5) (dr (hpR h a0 1) fun a2 => gd (isK h a2 67) (gd (inb p1 (hpL h a2)) (nm (wI h a2 p1.toNatClampNeg ((hpI h a2 p1.toNatClampNeg) &&& (((1 : Int32) <<< (p2 &&& 31)) ^^^ (-1 : Int32)))) fun h6 => cv (f_P_touchLeaf a0 p1 (p2 / (nI 8)) h6) fun h9 => some h9)))
set_option maxRecDepth 100000 in
set_option maxHeartbeats 4000000 in
theorem zf_P_erase {l : Launch} {C : Ct} {mi : Nat} {a0 : Nat} {p1 : Int32} {p2 : Int32} {h h' : Hp} (hf : f_P_erase a0 p1 p2 h = some h') : Z l C mi m_P_erase 1 0 [(0, vr (some a0)), (1, vi p1), (2, vi p2)] [] h none h' := by
  unfold f_P_erase at hf
  refine z_aload_n 0 d_P_erase_0 rfl rfl ?_
  obtain ⟨g1, hf⟩ := gd_some hf
  refine z_getR d_P_erase_1 (fl_K (isK_eq g1) fl_P_15_5) (fi_K (isK_eq g1) rfl) rfl ?_
  refine z_iload_n 1 d_P_erase_4 rfl rfl ?_
  refine z_dup2 d_P_erase_5 rfl rfl ?_
  obtain ⟨a2, e3, hf⟩ := dr_some hf
  obtain ⟨g4, hf⟩ := gd_some hf
  obtain ⟨g5, hf⟩ := gd_some hf
  refine z_iald d_P_erase_6 e3 (by rw [isK_eq g4]; decide) (by rw [isK_eq g4]; rfl) (inb_vp g5) ?_
  refine z_iconst (v := (1 : Int32)) d_P_erase_7 (by decide) ?_
  refine z_iload_n 2 d_P_erase_8 rfl rfl ?_
  refine z_ishl d_P_erase_9 ?_
  refine z_iconst (v := (-1 : Int32)) d_P_erase_10 (by decide) ?_
  refine z_ixor d_P_erase_11 ?_
  refine z_iand d_P_erase_12 ?_
  obtain ⟨h6, eh7, hf⟩ := nm_some hf
  refine z_iast d_P_erase_13 e3 (by rw [isK_eq g4]; decide) (by rw [isK_eq g4]; rfl) (inb_vp g5) ?_
  refine z_hp eh7 ?_
  refine z_aload_n 0 d_P_erase_14 rfl rfl ?_
  refine z_iload_n 1 d_P_erase_15 rfl rfl ?_
  refine z_iload_n 2 d_P_erase_16 rfl rfl ?_
  refine z_bipush (v := (nI 8)) d_P_erase_17 (by decide) ?_
  refine z_idiv d_P_erase_19 (by decide) ?_
  obtain ⟨h9, ec10, hf⟩ := cv_some hf
  refine z_callVx rfl (c_P_touchLeaf ec10) d_P_erase_20 cw_P_touchLeaf lk_P_25 im_P_touchLeaf se_P_touchLeaf (kc_K (isK_eq (isK_wI eh7 g1)) kc_5) ⟨by decide, by decide⟩ (Nat.le_of_ble_eq_true rfl) rfl ?_
  cases (Option.some.inj hf)
  exact z_ret d_P_erase_23 rfl
set_option maxRecDepth 100000 in
set_option maxHeartbeats 4000000 in
theorem fr_P_erase {C : Ct} {mi : Nat} {a0 : Nat} {p1 : Int32} {p2 : Int32} {h h' : Hp} (hf : f_P_erase a0 p1 p2 h = some h') : Keep W_P_erase h h' := by
  unfold f_P_erase at hf
  obtain ⟨g1, hf⟩ := gd_some hf
  obtain ⟨a2, e3, hf⟩ := dr_some hf
  obtain ⟨g4, hf⟩ := gd_some hf
  obtain ⟨g5, hf⟩ := gd_some hf
  obtain ⟨h6, eh7, hf⟩ := nm_some hf
  have K8 := (Keep.refl W_P_erase _).trans (kw_I eh7 (isK_eq g4) (Or.inr (by decide)))
  obtain ⟨h9, ec10, hf⟩ := cv_some hf
  have K11 := K8.trans ((fr_P_touchLeaf (C := C) (mi := mi) ec10).mono (by decide) (by decide))
  cases (Option.some.inj hf)
  exact K11
theorem c_P_erase {l : Launch} {C : Ct} {mi : Nat} {a0 : Nat} {p1 : Int32} {p2 : Int32} {h h' : Hp} (hf : f_P_erase a0 p1 p2 h = some h') : Mt l C mi m_P_erase 1 [vr (some a0), vi p1, vi p2] h none h' := mt_V rfl rfl (by decide) (Nat.le_of_ble_eq_true rfl) (zf_P_erase hf)
-- VersionMaps$Present.valueOf(II)I
def m_P_valueOf : Mi := (⟨"VersionMaps$Present", "valueOf", "(II)I"⟩, prog_7_method_3_code, 3, (Option.some Jvm.ClassFile.FieldType.int), .ireturn)
theorem cw_P_valueOf : cw_ok m_P_valueOf 2 := ⟨by decide +kernel, by decide +kernel, by decide +kernel, by decide +kernel⟩
theorem im_P_valueOf : Cond.instanceMethod m_P_valueOf.1 ∈ lw_w := by decide +kernel
theorem se_P_valueOf : Cond.selects "VersionMaps$Present" m_P_valueOf.1 m_P_valueOf.1 ∈ lw_w := by decide +kernel
theorem d_P_valueOf_0 : decode prog_7_method_3_code 0 = .ok (.aload_n 0, 1) := by decide +kernel
theorem d_P_valueOf_1 : decode prog_7_method_3_code 1 = .ok (.getfield 9, 3) := by decide +kernel
theorem d_P_valueOf_4 : decode prog_7_method_3_code 4 = .ok (.bipush 32, 2) := by decide +kernel
theorem d_P_valueOf_6 : decode prog_7_method_3_code 6 = .ok (.iload_n 1, 1) := by decide +kernel
theorem d_P_valueOf_7 : decode prog_7_method_3_code 7 = .ok (.imul, 1) := by decide +kernel
theorem d_P_valueOf_8 : decode prog_7_method_3_code 8 = .ok (.iload_n 2, 1) := by decide +kernel
theorem d_P_valueOf_9 : decode prog_7_method_3_code 9 = .ok (.iadd, 1) := by decide +kernel
theorem d_P_valueOf_10 : decode prog_7_method_3_code 10 = .ok (.iaload, 1) := by decide +kernel
theorem d_P_valueOf_11 : decode prog_7_method_3_code 11 = .ok (.ireturn, 1) := by decide +kernel
def W_P_valueOf : Wl := ([], [])
def f_P_valueOf (a0 : Nat) (p1 : Int32) (p2 : Int32) (h : Hp) : Option (Int32 × Hp) :=
  gd (isK h a0 5) (dr (hpR h a0 0) fun a2 => gd (isK h a2 66) (gd (inb (((nI 32) * p1) + p2) (hpL h a2)) (some ((hpI h a2 (((nI 32) * p1) + p2).toNatClampNeg), h))))
set_option maxRecDepth 100000 in
set_option maxHeartbeats 4000000 in
theorem zf_P_valueOf {l : Launch} {C : Ct} {mi : Nat} {a0 : Nat} {p1 : Int32} {p2 : Int32} {h h' : Hp} {v : Int32} (hf : f_P_valueOf a0 p1 p2 h = some (v, h')) : Z l C mi m_P_valueOf 0 0 [(0, vr (some a0)), (1, vi p1), (2, vi p2)] [] h (some (vi v)) h' := by
  unfold f_P_valueOf at hf
  refine z_aload_n 0 d_P_valueOf_0 rfl rfl ?_
  obtain ⟨g1, hf⟩ := gd_some hf
  refine z_getR d_P_valueOf_1 (fl_K (isK_eq g1) fl_P_9_5) (fi_K (isK_eq g1) rfl) rfl ?_
  refine z_bipush (v := (nI 32)) d_P_valueOf_4 (by decide) ?_
  refine z_iload_n 1 d_P_valueOf_6 rfl rfl ?_
  refine z_imul d_P_valueOf_7 ?_
  refine z_iload_n 2 d_P_valueOf_8 rfl rfl ?_
  refine z_iadd d_P_valueOf_9 ?_
  obtain ⟨a2, e3, hf⟩ := dr_some hf
  obtain ⟨g4, hf⟩ := gd_some hf
  obtain ⟨g5, hf⟩ := gd_some hf
  refine z_iald d_P_valueOf_10 e3 (by rw [isK_eq g4]; decide) (by rw [isK_eq g4]; rfl) (inb_vp g5) ?_
  obtain ⟨rfl, rfl⟩ := Prod.mk.inj (Option.some.inj hf)
  exact z_ret d_P_valueOf_11 rfl
set_option maxRecDepth 100000 in
set_option maxHeartbeats 4000000 in
theorem fr_P_valueOf {C : Ct} {mi : Nat} {a0 : Nat} {p1 : Int32} {p2 : Int32} {h h' : Hp} {v : Int32} (hf : f_P_valueOf a0 p1 p2 h = some (v, h')) : Keep W_P_valueOf h h' := by
  unfold f_P_valueOf at hf
  obtain ⟨g1, hf⟩ := gd_some hf
  obtain ⟨a2, e3, hf⟩ := dr_some hf
  obtain ⟨g4, hf⟩ := gd_some hf
  obtain ⟨g5, hf⟩ := gd_some hf
  obtain ⟨rfl, rfl⟩ := Prod.mk.inj (Option.some.inj hf)
  exact (Keep.refl W_P_valueOf _)
theorem c_P_valueOf {l : Launch} {C : Ct} {mi : Nat} {a0 : Nat} {p1 : Int32} {p2 : Int32} {h h' : Hp} {v : Int32} (hf : f_P_valueOf a0 p1 p2 h = some (v, h')) : Mt l C mi m_P_valueOf 0 [vr (some a0), vi p1, vi p2] h (some (vi v)) h' := mt_I (ty := .int) rfl rfl rfl (by decide) (Nat.le_of_ble_eq_true rfl) (zf_P_valueOf hf)
-- VersionMaps$Meta.leafOf(II)LVersionMaps$Leaf;
def m_E_leafOf : Mi := (⟨"VersionMaps$Meta", "leafOf", "(II)LVersionMaps$Leaf;"⟩, prog_5_method_2_code, 3, (Option.some (Jvm.ClassFile.FieldType.object "VersionMaps$Leaf")), .areturn)
theorem cw_E_leafOf : cw_ok m_E_leafOf 2 := ⟨by decide +kernel, by decide +kernel, by decide +kernel, by decide +kernel⟩
theorem im_E_leafOf : Cond.instanceMethod m_E_leafOf.1 ∈ lw_w := by decide +kernel
theorem se_E_leafOf : Cond.selects "VersionMaps$Meta" m_E_leafOf.1 m_E_leafOf.1 ∈ lw_w := by decide +kernel
theorem d_E_leafOf_0 : decode prog_5_method_2_code 0 = .ok (.aload_n 0, 1) := by decide +kernel
theorem d_E_leafOf_1 : decode prog_5_method_2_code 1 = .ok (.getfield 11, 3) := by decide +kernel
theorem d_E_leafOf_4 : decode prog_5_method_2_code 4 = .ok (.iload_n 1, 1) := by decide +kernel
theorem d_E_leafOf_5 : decode prog_5_method_2_code 5 = .ok (.aaload, 1) := by decide +kernel
theorem d_E_leafOf_6 : decode prog_5_method_2_code 6 = .ok (.ifnonnull 7, 3) := by decide +kernel
theorem d_E_leafOf_9 : decode prog_5_method_2_code 9 = .ok (.aconst_null, 1) := by decide +kernel
theorem d_E_leafOf_10 : decode prog_5_method_2_code 10 = .ok (.goto 14, 3) := by decide +kernel
theorem d_E_leafOf_13 : decode prog_5_method_2_code 13 = .ok (.aload_n 0, 1) := by decide +kernel
theorem d_E_leafOf_14 : decode prog_5_method_2_code 14 = .ok (.getfield 11, 3) := by decide +kernel
theorem d_E_leafOf_17 : decode prog_5_method_2_code 17 = .ok (.iload_n 1, 1) := by decide +kernel
theorem d_E_leafOf_18 : decode prog_5_method_2_code 18 = .ok (.aaload, 1) := by decide +kernel
theorem d_E_leafOf_19 : decode prog_5_method_2_code 19 = .ok (.getfield 21, 3) := by decide +kernel
theorem d_E_leafOf_22 : decode prog_5_method_2_code 22 = .ok (.iload_n 2, 1) := by decide +kernel
theorem d_E_leafOf_23 : decode prog_5_method_2_code 23 = .ok (.aaload, 1) := by decide +kernel
theorem d_E_leafOf_24 : decode prog_5_method_2_code 24 = .ok (.areturn, 1) := by decide +kernel
def W_E_leafOf : Wl := ([], [])
def f_E_leafOf (a0 : Nat) (p1 : Int32) (p2 : Int32) (h : Hp) : Option (Option Nat × Hp) :=
  gd (isK h a0 4) (dr (hpR h a0 4) fun a2 => gd (isK h a2 104) (gd (inb p1 (hpL h a2)) (if (hpR h a2 p1.toNatClampNeg) = none then (some (none, h)) else (dr (hpR h a2 p1.toNatClampNeg) fun a7 => gd (isK h a7 6) (dr (hpR h a7 3) fun a10 => gd (isK h a10 105) (gd (inb p2 (hpL h a10)) (some ((hpR h a10 p2.toNatClampNeg), h))))))))
set_option maxRecDepth 100000 in
set_option maxHeartbeats 4000000 in
theorem zf_E_leafOf {l : Launch} {C : Ct} {mi : Nat} {a0 : Nat} {p1 : Int32} {p2 : Int32} {h h' : Hp} {v : Option Nat} (hf : f_E_leafOf a0 p1 p2 h = some (v, h')) : Z l C mi m_E_leafOf 0 0 [(0, vr (some a0)), (1, vi p1), (2, vi p2)] [] h (some (vr v)) h' := by
  unfold f_E_leafOf at hf
  refine z_aload_n 0 d_E_leafOf_0 rfl rfl ?_
  obtain ⟨g1, hf⟩ := gd_some hf
  refine z_getR d_E_leafOf_1 (fl_K (isK_eq g1) fl_E_11_4) (fi_K (isK_eq g1) rfl) rfl ?_
  refine z_iload_n 1 d_E_leafOf_4 rfl rfl ?_
  obtain ⟨a2, e3, hf⟩ := dr_some hf
  obtain ⟨g4, hf⟩ := gd_some hf
  obtain ⟨g5, hf⟩ := gd_some hf
  refine z_aald d_E_leafOf_5 e3 (by rw [isK_eq g4]; decide) (by rw [isK_eq g4]; decide) (inb_vp g5) ?_
  refine z_ifnonnull (tgt := 13) d_E_leafOf_6 (by decide) (fun c6 => ?_) (fun c6 => ?_)
  · rw [if_neg c6] at hf
    refine z_aload_n 0 d_E_leafOf_13 rfl rfl ?_
    refine z_getR d_E_leafOf_14 (fl_K (isK_eq g1) fl_E_11_4) (fi_K (isK_eq g1) rfl) rfl ?_
    refine z_iload_n 1 d_E_leafOf_17 rfl rfl ?_
    refine z_aald d_E_leafOf_18 e3 (by rw [isK_eq g4]; decide) (by rw [isK_eq g4]; decide) (inb_vp g5) ?_
    obtain ⟨a7, e8, hf⟩ := dr_some hf
    obtain ⟨g9, hf⟩ := gd_some hf
    refine z_getR d_E_leafOf_19 (fl_K (isK_eq g9) fl_E_21_6) (fi_K (isK_eq g9) rfl) e8 ?_
    refine z_iload_n 2 d_E_leafOf_22 rfl rfl ?_
    obtain ⟨a10, e11, hf⟩ := dr_some hf
    obtain ⟨g12, hf⟩ := gd_some hf
    obtain ⟨g13, hf⟩ := gd_some hf
    refine z_aald d_E_leafOf_23 e11 (by rw [isK_eq g12]; decide) (by rw [isK_eq g12]; decide) (inb_vp g13) ?_
    obtain ⟨rfl, rfl⟩ := Prod.mk.inj (Option.some.inj hf)
    exact z_ret d_E_leafOf_24 rfl
  · rw [if_pos c6] at hf
    refine z_aconst_null d_E_leafOf_9 ?_
    refine z_goto (tgt := 24) d_E_leafOf_10 (by decide) ?_
    obtain ⟨rfl, rfl⟩ := Prod.mk.inj (Option.some.inj hf)
    exact z_ret d_E_leafOf_24 rfl
set_option maxRecDepth 100000 in
set_option maxHeartbeats 4000000 in
theorem fr_E_leafOf {C : Ct} {mi : Nat} {a0 : Nat} {p1 : Int32} {p2 : Int32} {h h' : Hp} {v : Option Nat} (hf : f_E_leafOf a0 p1 p2 h = some (v, h')) : Keep W_E_leafOf h h' := by
  unfold f_E_leafOf at hf
  obtain ⟨g1, hf⟩ := gd_some hf
  obtain ⟨a2, e3, hf⟩ := dr_some hf
  obtain ⟨g4, hf⟩ := gd_some hf
  obtain ⟨g5, hf⟩ := gd_some hf
  rcases (Classical.em ((hpR h a2 p1.toNatClampNeg) = none)).symm with c6 | c6
  · rw [if_neg c6] at hf
    obtain ⟨a7, e8, hf⟩ := dr_some hf
    obtain ⟨g9, hf⟩ := gd_some hf
    obtain ⟨a10, e11, hf⟩ := dr_some hf
    obtain ⟨g12, hf⟩ := gd_some hf
    obtain ⟨g13, hf⟩ := gd_some hf
    obtain ⟨rfl, rfl⟩ := Prod.mk.inj (Option.some.inj hf)
    exact (Keep.refl W_E_leafOf _)
  · rw [if_pos c6] at hf
    obtain ⟨rfl, rfl⟩ := Prod.mk.inj (Option.some.inj hf)
    exact (Keep.refl W_E_leafOf _)
theorem c_E_leafOf {l : Launch} {C : Ct} {mi : Nat} {a0 : Nat} {p1 : Int32} {p2 : Int32} {h h' : Hp} {v : Option Nat} (hf : f_E_leafOf a0 p1 p2 h = some (v, h')) : Mt l C mi m_E_leafOf 0 [vr (some a0), vi p1, vi p2] h (some (vr v)) h' := mt_R rfl (Or.inl ⟨_, rfl⟩) rfl (by decide) (Nat.le_of_ble_eq_true rfl) (zf_E_leafOf hf)
-- VersionMaps$Meta.valueOf(II)J
def m_E_valueOf : Mi := (⟨"VersionMaps$Meta", "valueOf", "(II)J"⟩, prog_5_method_3_code, 5, (Option.some Jvm.ClassFile.FieldType.long), .lreturn)
theorem cw_E_valueOf : cw_ok m_E_valueOf 2 := ⟨by decide +kernel, by decide +kernel, by decide +kernel, by decide +kernel⟩
theorem im_E_valueOf : Cond.instanceMethod m_E_valueOf.1 ∈ lw_w := by decide +kernel
theorem se_E_valueOf : Cond.selects "VersionMaps$Meta" m_E_valueOf.1 m_E_valueOf.1 ∈ lw_w := by decide +kernel
theorem d_E_valueOf_0 : decode prog_5_method_3_code 0 = .ok (.aload_n 0, 1) := by decide +kernel
theorem d_E_valueOf_1 : decode prog_5_method_3_code 1 = .ok (.iload_n 1, 1) := by decide +kernel
theorem d_E_valueOf_2 : decode prog_5_method_3_code 2 = .ok (.iload_n 2, 1) := by decide +kernel
theorem d_E_valueOf_3 : decode prog_5_method_3_code 3 = .ok (.bipush 8, 2) := by decide +kernel
theorem d_E_valueOf_5 : decode prog_5_method_3_code 5 = .ok (.idiv, 1) := by decide +kernel
theorem d_E_valueOf_6 : decode prog_5_method_3_code 6 = .ok (.invokevirtual 25, 3) := by decide +kernel
theorem d_E_valueOf_9 : decode prog_5_method_3_code 9 = .ok (.astore_n 3, 1) := by decide +kernel
theorem d_E_valueOf_10 : decode prog_5_method_3_code 10 = .ok (.iload_n 2, 1) := by decide +kernel
theorem d_E_valueOf_11 : decode prog_5_method_3_code 11 = .ok (.bipush 8, 2) := by decide +kernel
theorem d_E_valueOf_13 : decode prog_5_method_3_code 13 = .ok (.irem, 1) := by decide +kernel
theorem d_E_valueOf_14 : decode prog_5_method_3_code 14 = .ok (.istore 4, 2) := by decide +kernel
theorem d_E_valueOf_16 : decode prog_5_method_3_code 16 = .ok (.aload_n 3, 1) := by decide +kernel
theorem d_E_valueOf_17 : decode prog_5_method_3_code 17 = .ok (.ifnull 15, 3) := by decide +kernel
theorem d_E_valueOf_20 : decode prog_5_method_3_code 20 = .ok (.aload_n 3, 1) := by decide +kernel
theorem d_E_valueOf_21 : decode prog_5_method_3_code 21 = .ok (.getfield 29, 3) := by decide +kernel
theorem d_E_valueOf_24 : decode prog_5_method_3_code 24 = .ok (.iload 4, 2) := by decide +kernel
theorem d_E_valueOf_26 : decode prog_5_method_3_code 26 = .ok (.ishr, 1) := by decide +kernel
theorem d_E_valueOf_27 : decode prog_5_method_3_code 27 = .ok (.iconst 1, 1) := by decide +kernel
theorem d_E_valueOf_28 : decode prog_5_method_3_code 28 = .ok (.iand, 1) := by decide +kernel
theorem d_E_valueOf_29 : decode prog_5_method_3_code 29 = .ok (.ifCond .ne 7, 3) := by decide +kernel
theorem d_E_valueOf_32 : decode prog_5_method_3_code 32 = .ok (.ldc2_w 34, 3) := by decide +kernel
theorem d_E_valueOf_35 : decode prog_5_method_3_code 35 = .ok (.lreturn, 1) := by decide +kernel
theorem d_E_valueOf_36 : decode prog_5_method_3_code 36 = .ok (.aload_n 3, 1) := by decide +kernel
theorem d_E_valueOf_37 : decode prog_5_method_3_code 37 = .ok (.getfield 36, 3) := by decide +kernel
theorem d_E_valueOf_40 : decode prog_5_method_3_code 40 = .ok (.iload 4, 2) := by decide +kernel
theorem d_E_valueOf_42 : decode prog_5_method_3_code 42 = .ok (.iaload, 1) := by decide +kernel
theorem d_E_valueOf_43 : decode prog_5_method_3_code 43 = .ok (.i2l, 1) := by decide +kernel
theorem d_E_valueOf_44 : decode prog_5_method_3_code 44 = .ok (.lreturn, 1) := by decide +kernel
def W_E_valueOf : Wl := ([], [])
def f_E_valueOf (a0 : Nat) (p1 : Int32) (p2 : Int32) (h : Hp) : Option (Int64 × Hp) :=
  gd (isK h a0 4) (cl (f_E_leafOf a0 p1 (p2 / (nI 8)) h) fun v4 h2 => if v4 = none then (some ((1099511627776 : Int64), h2)) else (dr v4 fun a7 => gd (isK h2 a7 3) (if (((hpI h2 a7 4) >>> ((p2 - p2 / (nI 8) * (nI 8)) &&& 31)) &&& (1 : Int32)) = 0 then (some ((1099511627776 : Int64), h2)) else (dr (hpR h2 a7 3) fun a11 => gd (isK h2 a11 106) (gd (inb (p2 - p2 / (nI 8) * (nI 8)) (hpL h2 a11)) (some ((hpI h2 a11 (p2 - p2 / (nI 8) * (nI 8)).toNatClampNeg).toInt64, h2)))))))
set_option maxRecDepth 100000 in
set_option maxHeartbeats 4000000 in
theorem zf_E_valueOf {l : Launch} {C : Ct} {mi : Nat} {a0 : Nat} {p1 : Int32} {p2 : Int32} {h h' : Hp} {v : Int64} (hf : f_E_valueOf a0 p1 p2 h = some (v, h')) : Z l C mi m_E_valueOf 1 0 [(0, vr (some a0)), (1, vi p1), (2, vi p2)] [] h (some (vl v)) h' := by
  unfold f_E_valueOf at hf
  refine z_aload_n 0 d_E_valueOf_0 rfl rfl ?_
  refine z_iload_n 1 d_E_valueOf_1 rfl rfl ?_
  refine z_iload_n 2 d_E_valueOf_2 rfl rfl ?_
  refine z_bipush (v := (nI 8)) d_E_valueOf_3 (by decide) ?_
  refine z_idiv d_E_valueOf_5 (by decide) ?_
  obtain ⟨g1, hf⟩ := gd_some hf
  obtain ⟨v4, h2, ec3, hf⟩ := cl_some hf
  refine z_callVx rfl (c_E_leafOf ec3) d_E_valueOf_6 cw_E_leafOf lk_E_25 im_E_leafOf se_E_leafOf (kc_K (isK_eq g1) kc_4) ⟨by decide, by decide⟩ (Nat.le_of_ble_eq_true rfl) rfl ?_
  refine z_astore_n (ls2 := [(3, vr v4), (0, vr (some a0)), (1, vi p1), (2, vi p2)]) d_E_valueOf_9 rfl (by decide) rfl ?_
  refine z_iload_n 3 d_E_valueOf_10 rfl rfl ?_
  refine z_bipush (v := (nI 8)) d_E_valueOf_11 (by decide) ?_
  refine z_irem d_E_valueOf_13 (by decide) ?_
  refine z_istore (ls2 := [(4, vi (p2 - p2 / (nI 8) * (nI 8))), (3, vr v4), (0, vr (some a0)), (1, vi p1), (2, vi p2)]) d_E_valueOf_14 (by decide) rfl ?_
  refine z_aload_n 1 d_E_valueOf_16 rfl rfl ?_
  refine z_ifnull (tgt := 32) d_E_valueOf_17 (by decide) (fun c6 => ?_) (fun c6 => ?_)
  · rw [if_pos c6] at hf
    refine z_ldc2 (v := (1099511627776 : Int64)) d_E_valueOf_32 (by decide +kernel) ?_
    obtain ⟨rfl, rfl⟩ := Prod.mk.inj (Option.some.inj hf)
    exact z_ret d_E_valueOf_35 rfl
  · rw [if_neg c6] at hf
    refine z_aload_n 1 d_E_valueOf_20 rfl rfl ?_
    obtain ⟨a7, e8, hf⟩ := dr_some hf
    obtain ⟨g9, hf⟩ := gd_some hf
    refine z_getI d_E_valueOf_21 (fl_K (isK_eq g9) fl_E_29_3) (fi_K (isK_eq g9) rfl) e8 ?_
    refine z_iload 0 d_E_valueOf_24 rfl ?_
    refine z_ishr d_E_valueOf_26 ?_
    refine z_iconst (v := (1 : Int32)) d_E_valueOf_27 (by decide) ?_
    refine z_iand d_E_valueOf_28 ?_
    refine z_if_ne (tgt := 36) d_E_valueOf_29 (by decide) (fun c10 => ?_) (fun c10 => ?_)
    · rw [if_neg c10] at hf
      refine z_aload_n 1 d_E_valueOf_36 rfl rfl ?_
      refine z_getR d_E_valueOf_37 (fl_K (isK_eq g9) fl_E_36_3) (fi_K (isK_eq g9) rfl) e8 ?_
      refine z_iload 0 d_E_valueOf_40 rfl ?_
      obtain ⟨a11, e12, hf⟩ := dr_some hf
      obtain ⟨g13, hf⟩ := gd_some hf
      obtain ⟨g14, hf⟩ := gd_some hf
      refine z_iald d_E_valueOf_42 e12 (by rw [isK_eq g13]; decide) (by rw [isK_eq g13]; rfl) (inb_vp g14) ?_
      refine z_i2l d_E_valueOf_43 ?_
      obtain ⟨rfl, rfl⟩ := Prod.mk.inj (Option.some.inj hf)
      exact z_ret d_E_valueOf_44 rfl
    · rw [if_pos c10] at hf
      refine z_ldc2 (v := (1099511627776 : Int64)) d_E_valueOf_32 (by decide +kernel) ?_
      obtain ⟨rfl, rfl⟩ := Prod.mk.inj (Option.some.inj hf)
      exact z_ret d_E_valueOf_35 rfl
set_option maxRecDepth 100000 in
set_option maxHeartbeats 4000000 in
theorem fr_E_valueOf {C : Ct} {mi : Nat} {a0 : Nat} {p1 : Int32} {p2 : Int32} {h h' : Hp} {v : Int64} (hf : f_E_valueOf a0 p1 p2 h = some (v, h')) : Keep W_E_valueOf h h' := by
  unfold f_E_valueOf at hf
  obtain ⟨g1, hf⟩ := gd_some hf
  obtain ⟨v4, h2, ec3, hf⟩ := cl_some hf
  have K5 := (Keep.refl W_E_valueOf _).trans ((fr_E_leafOf (C := C) (mi := mi) ec3).mono (by decide) (by decide))
  rcases Classical.em (v4 = none) with c6 | c6
  · rw [if_pos c6] at hf
    obtain ⟨rfl, rfl⟩ := Prod.mk.inj (Option.some.inj hf)
    exact K5
  · rw [if_neg c6] at hf
    obtain ⟨a7, e8, hf⟩ := dr_some hf
    obtain ⟨g9, hf⟩ := gd_some hf
    rcases (Classical.em ((((hpI h2 a7 4) >>> ((p2 - p2 / (nI 8) * (nI 8)) &&& 31)) &&& (1 : Int32)) = 0)).symm with c10 | c10
    · rw [if_neg c10] at hf
      obtain ⟨a11, e12, hf⟩ := dr_some hf
      obtain ⟨g13, hf⟩ := gd_some hf
      obtain ⟨g14, hf⟩ := gd_some hf
      obtain ⟨rfl, rfl⟩ := Prod.mk.inj (Option.some.inj hf)
      exact K5
    · rw [if_pos c10] at hf
      obtain ⟨rfl, rfl⟩ := Prod.mk.inj (Option.some.inj hf)
      exact K5
theorem c_E_valueOf {l : Launch} {C : Ct} {mi : Nat} {a0 : Nat} {p1 : Int32} {p2 : Int32} {h h' : Hp} {v : Int64} (hf : f_E_valueOf a0 p1 p2 h = some (v, h')) : Mt l C mi m_E_valueOf 1 [vr (some a0), vi p1, vi p2] h (some (vl v)) h' := mt_L rfl rfl (by decide) (Nat.le_of_ble_eq_true rfl) (zf_E_valueOf hf)
-- VersionMaps$Present.isTouched()Z
def m_P_isTouched : Mi := (⟨"VersionMaps$Present", "isTouched", "()Z"⟩, prog_7_method_7_code, 1, (Option.some Jvm.ClassFile.FieldType.boolean), .ireturn)
theorem cw_P_isTouched : cw_ok m_P_isTouched 0 := ⟨by decide +kernel, by decide +kernel, by decide +kernel, by decide +kernel⟩
theorem im_P_isTouched : Cond.instanceMethod m_P_isTouched.1 ∈ lw_w := by decide +kernel
theorem se_P_isTouched : Cond.selects "VersionMaps$Present" m_P_isTouched.1 m_P_isTouched.1 ∈ lw_w := by decide +kernel
theorem d_P_isTouched_0 : decode prog_7_method_7_code 0 = .ok (.aload_n 0, 1) := by decide +kernel
theorem d_P_isTouched_1 : decode prog_7_method_7_code 1 = .ok (.getfield 18, 3) := by decide +kernel
theorem d_P_isTouched_4 : decode prog_7_method_7_code 4 = .ok (.ifCond .ne 10, 3) := by decide +kernel
theorem d_P_isTouched_7 : decode prog_7_method_7_code 7 = .ok (.aload_n 0, 1) := by decide +kernel
theorem d_P_isTouched_8 : decode prog_7_method_7_code 8 = .ok (.getfield 22, 3) := by decide +kernel
theorem d_P_isTouched_11 : decode prog_7_method_7_code 11 = .ok (.ifCond .eq 7, 3) := by decide +kernel
theorem d_P_isTouched_14 : decode prog_7_method_7_code 14 = .ok (.iconst 1, 1) := by decide +kernel
theorem d_P_isTouched_15 : decode prog_7_method_7_code 15 = .ok (.goto 4, 3) := by decide +kernel
theorem d_P_isTouched_18 : decode prog_7_method_7_code 18 = .ok (.iconst 0, 1) := by decide +kernel
theorem d_P_isTouched_19 : decode prog_7_method_7_code 19 = .ok (.ireturn, 1) := by decide +kernel
def W_P_isTouched : Wl := ([], [])
def f0_P_isTouched (a0 : Nat) (h : Hp) : Option (Int32 × Hp) :=
  gd (isK h a0 5) (if (hpI h a0 2) = 0 then (if (hpI h a0 3) = 0 then (some ((0 : Int32), h)) else (some ((1 : Int32), h))) else (some ((1 : Int32), h)))
def f_P_isTouched (a0 : Nat) (h : Hp) : Option (Int32 × Hp) := zbw (f0_P_isTouched a0 h)
set_option maxRecDepth 100000 in
set_option maxHeartbeats 4000000 in
theorem zf_P_isTouched {l : Launch} {C : Ct} {mi : Nat} {a0 : Nat} {h h' : Hp} {v : Int32} (hf : f0_P_isTouched a0 h = some (v, h')) : Z l C mi m_P_isTouched 0 0 [(0, vr (some a0))] [] h (some (vi v)) h' := by
  unfold f0_P_isTouched at hf
  refine z_aload_n 0 d_P_isTouched_0 rfl rfl ?_
  obtain ⟨g1, hf⟩ := gd_some hf
  refine z_getI d_P_isTouched_1 (fl_K (isK_eq g1) fl_P_18_5) (fi_K (isK_eq g1) rfl) rfl ?_
  refine z_if_ne (tgt := 14) d_P_isTouched_4 (by decide) (fun c2 => ?_) (fun c2 => ?_)
  · rw [if_neg c2] at hf
    refine z_iconst (v := (1 : Int32)) d_P_isTouched_14 (by decide) ?_
    refine z_goto (tgt := 19) d_P_isTouched_15 (by decide) ?_
    obtain ⟨rfl, rfl⟩ := Prod.mk.inj (Option.some.inj hf)
    exact z_ret d_P_isTouched_19 rfl
  · rw [if_pos c2] at hf
    refine z_aload_n 0 d_P_isTouched_7 rfl rfl ?_
    refine z_getI d_P_isTouched_8 (fl_K (isK_eq g1) fl_P_22_5) (fi_K (isK_eq g1) rfl) rfl ?_
    refine z_if_eq (tgt := 18) d_P_isTouched_11 (by decide) (fun c3 => ?_) (fun c3 => ?_)
    · rw [if_pos c3] at hf
      refine z_iconst (v := (0 : Int32)) d_P_isTouched_18 (by decide) ?_
      obtain ⟨rfl, rfl⟩ := Prod.mk.inj (Option.some.inj hf)
      exact z_ret d_P_isTouched_19 rfl
    · rw [if_neg c3] at hf
      refine z_iconst (v := (1 : Int32)) d_P_isTouched_14 (by decide) ?_
      refine z_goto (tgt := 19) d_P_isTouched_15 (by decide) ?_
      obtain ⟨rfl, rfl⟩ := Prod.mk.inj (Option.some.inj hf)
      exact z_ret d_P_isTouched_19 rfl
set_option maxRecDepth 100000 in
set_option maxHeartbeats 4000000 in
theorem fr0_P_isTouched {C : Ct} {mi : Nat} {a0 : Nat} {h h' : Hp} {v : Int32} (hf : f0_P_isTouched a0 h = some (v, h')) : Keep W_P_isTouched h h' := by
  unfold f0_P_isTouched at hf
  obtain ⟨g1, hf⟩ := gd_some hf
  rcases (Classical.em ((hpI h a0 2) = 0)).symm with c2 | c2
  · rw [if_neg c2] at hf
    obtain ⟨rfl, rfl⟩ := Prod.mk.inj (Option.some.inj hf)
    exact (Keep.refl W_P_isTouched _)
  · rw [if_pos c2] at hf
    rcases Classical.em ((hpI h a0 3) = 0) with c3 | c3
    · rw [if_pos c3] at hf
      obtain ⟨rfl, rfl⟩ := Prod.mk.inj (Option.some.inj hf)
      exact (Keep.refl W_P_isTouched _)
    · rw [if_neg c3] at hf
      obtain ⟨rfl, rfl⟩ := Prod.mk.inj (Option.some.inj hf)
      exact (Keep.refl W_P_isTouched _)
theorem fr_P_isTouched {C : Ct} {mi : Nat} {a0 : Nat} {h h' : Hp} {v : Int32} (hf : f_P_isTouched a0 h = some (v, h')) : Keep W_P_isTouched h h' := fr0_P_isTouched (C := C) (mi := mi) (zbw_some hf).2
theorem c_P_isTouched {l : Launch} {C : Ct} {mi : Nat} {a0 : Nat} {h h' : Hp} {v : Int32} (hf : f_P_isTouched a0 h = some (v, h')) : Mt l C mi m_P_isTouched 0 [vr (some a0)] h (some (vi v)) h' := mt_I (ty := .boolean) rfl rfl (zb_eq (zbw_some hf).1) (by decide) (Nat.le_of_ble_eq_true rfl) (zf_P_isTouched (zbw_some hf).2)
-- VersionMaps$Present.isMapChanged(I)Z
def m_P_isMapChanged : Mi := (⟨"VersionMaps$Present", "isMapChanged", "(I)Z"⟩, prog_7_method_18_code, 2, (Option.some Jvm.ClassFile.FieldType.boolean), .ireturn)
theorem cw_P_isMapChanged : cw_ok m_P_isMapChanged 1 := ⟨by decide +kernel, by decide +kernel, by decide +kernel, by decide +kernel⟩
theorem im_P_isMapChanged : Cond.instanceMethod m_P_isMapChanged.1 ∈ lw_w := by decide +kernel
theorem se_P_isMapChanged : Cond.selects "VersionMaps$Present" m_P_isMapChanged.1 m_P_isMapChanged.1 ∈ lw_w := by decide +kernel
theorem d_P_isMapChanged_0 : decode prog_7_method_18_code 0 = .ok (.aload_n 0, 1) := by decide +kernel
theorem d_P_isMapChanged_1 : decode prog_7_method_18_code 1 = .ok (.getfield 22, 3) := by decide +kernel
theorem d_P_isMapChanged_4 : decode prog_7_method_18_code 4 = .ok (.iload_n 1, 1) := by decide +kernel
theorem d_P_isMapChanged_5 : decode prog_7_method_18_code 5 = .ok (.ishr, 1) := by decide +kernel
theorem d_P_isMapChanged_6 : decode prog_7_method_18_code 6 = .ok (.iconst 1, 1) := by decide +kernel
theorem d_P_isMapChanged_7 : decode prog_7_method_18_code 7 = .ok (.iand, 1) := by decide +kernel
theorem d_P_isMapChanged_8 : decode prog_7_method_18_code 8 = .ok (.iconst 1, 1) := by decide +kernel
theorem d_P_isMapChanged_9 : decode prog_7_method_18_code 9 = .ok (.if_icmp .eq 17, 3) := by decide +kernel
theorem d_P_isMapChanged_12 : decode prog_7_method_18_code 12 = .ok (.aload_n 0, 1) := by decide +kernel
theorem d_P_isMapChanged_13 : decode prog_7_method_18_code 13 = .ok (.getfield 18, 3) := by decide +kernel
theorem d_P_isMapChanged_16 : decode prog_7_method_18_code 16 = .ok (.iconst 4, 1) := by decide +kernel
theorem d_P_isMapChanged_17 : decode prog_7_method_18_code 17 = .ok (.iload_n 1, 1) := by decide +kernel
theorem d_P_isMapChanged_18 : decode prog_7_method_18_code 18 = .ok (.imul, 1) := by decide +kernel
theorem d_P_isMapChanged_19 : decode prog_7_method_18_code 19 = .ok (.ishr, 1) := by decide +kernel
theorem d_P_isMapChanged_20 : decode prog_7_method_18_code 20 = .ok (.bipush 15, 2) := by decide +kernel
theorem d_P_isMapChanged_22 : decode prog_7_method_18_code 22 = .ok (.iand, 1) := by decide +kernel
theorem d_P_isMapChanged_23 : decode prog_7_method_18_code 23 = .ok (.ifCond .eq 7, 3) := by decide +kernel
theorem d_P_isMapChanged_26 : decode prog_7_method_18_code 26 = .ok (.iconst 1, 1) := by decide +kernel
theorem d_P_isMapChanged_27 : decode prog_7_method_18_code 27 = .ok (.goto 4, 3) := by decide +kernel
theorem d_P_isMapChanged_30 : decode prog_7_method_18_code 30 = .ok (.iconst 0, 1) := by decide +kernel
theorem d_P_isMapChanged_31 : decode prog_7_method_18_code 31 = .ok (.ireturn, 1) := by decide +kernel
def W_P_isMapChanged : Wl := ([], [])
def f0_P_isMapChanged (a0 : Nat) (p1 : Int32) (h : Hp) : Option (Int32 × Hp) :=
  gd (isK h a0 5) (if (((hpI h a0 3) >>> (p1 &&& 31)) &&& (1 : Int32)) = (1 : Int32) then (some ((1 : Int32), h)) else (if (((hpI h a0 2) >>> (((nI 4) * p1) &&& 31)) &&& (nI 15)) = 0 then (some ((0 : Int32), h)) else (some ((1 : Int32), h))))
def f_P_isMapChanged (a0 : Nat) (p1 : Int32) (h : Hp) : Option (Int32 × Hp) := zbw (f0_P_isMapChanged a0 p1 h)
set_option maxRecDepth 100000 in
set_option maxHeartbeats 4000000 in
theorem zf_P_isMapChanged {l : Launch} {C : Ct} {mi : Nat} {a0 : Nat} {p1 : Int32} {h h' : Hp} {v : Int32} (hf : f0_P_isMapChanged a0 p1 h = some (v, h')) : Z l C mi m_P_isMapChanged 0 0 [(0, vr (some a0)), (1, vi p1)] [] h (some (vi v)) h' := by
  unfold f0_P_isMapChanged at hf
  refine z_aload_n 0 d_P_isMapChanged_0 rfl rfl ?_
  obtain ⟨g1, hf⟩ := gd_some hf
  refine z_getI d_P_isMapChanged_1 (fl_K (isK_eq g1) fl_P_22_5) (fi_K (isK_eq g1) rfl) rfl ?_
  refine z_iload_n 1 d_P_isMapChanged_4 rfl rfl ?_
  refine z_ishr d_P_isMapChanged_5 ?_
  refine z_iconst (v := (1 : Int32)) d_P_isMapChanged_6 (by decide) ?_
  refine z_iand d_P_isMapChanged_7 ?_
  refine z_iconst (v := (1 : Int32)) d_P_isMapChanged_8 (by decide) ?_
  refine z_icmp_eq (tgt := 26) d_P_isMapChanged_9 (by decide) (fun c2 => ?_) (fun c2 => ?_)
  · rw [if_pos c2] at hf
    refine z_iconst (v := (1 : Int32)) d_P_isMapChanged_26 (by decide) ?_
    refine z_goto (tgt := 31) d_P_isMapChanged_27 (by decide) ?_
    obtain ⟨rfl, rfl⟩ := Prod.mk.inj (Option.some.inj hf)
    exact z_ret d_P_isMapChanged_31 rfl
  · rw [if_neg c2] at hf
    refine z_aload_n 0 d_P_isMapChanged_12 rfl rfl ?_
    refine z_getI d_P_isMapChanged_13 (fl_K (isK_eq g1) fl_P_18_5) (fi_K (isK_eq g1) rfl) rfl ?_
    refine z_iconst (v := (nI 4)) d_P_isMapChanged_16 (by decide) ?_
    refine z_iload_n 1 d_P_isMapChanged_17 rfl rfl ?_
    refine z_imul d_P_isMapChanged_18 ?_
    refine z_ishr d_P_isMapChanged_19 ?_
    refine z_bipush (v := (nI 15)) d_P_isMapChanged_20 (by decide) ?_
    refine z_iand d_P_isMapChanged_22 ?_
    refine z_if_eq (tgt := 30) d_P_isMapChanged_23 (by decide) (fun c3 => ?_) (fun c3 => ?_)
    · rw [if_pos c3] at hf
      refine z_iconst (v := (0 : Int32)) d_P_isMapChanged_30 (by decide) ?_
      obtain ⟨rfl, rfl⟩ := Prod.mk.inj (Option.some.inj hf)
      exact z_ret d_P_isMapChanged_31 rfl
    · rw [if_neg c3] at hf
      refine z_iconst (v := (1 : Int32)) d_P_isMapChanged_26 (by decide) ?_
      refine z_goto (tgt := 31) d_P_isMapChanged_27 (by decide) ?_
      obtain ⟨rfl, rfl⟩ := Prod.mk.inj (Option.some.inj hf)
      exact z_ret d_P_isMapChanged_31 rfl
set_option maxRecDepth 100000 in
set_option maxHeartbeats 4000000 in
theorem fr0_P_isMapChanged {C : Ct} {mi : Nat} {a0 : Nat} {p1 : Int32} {h h' : Hp} {v : Int32} (hf : f0_P_isMapChanged a0 p1 h = some (v, h')) : Keep W_P_isMapChanged h h' := by
  unfold f0_P_isMapChanged at hf
  obtain ⟨g1, hf⟩ := gd_some hf
  rcases Classical.em ((((hpI h a0 3) >>> (p1 &&& 31)) &&& (1 : Int32)) = (1 : Int32)) with c2 | c2
  · rw [if_pos c2] at hf
    obtain ⟨rfl, rfl⟩ := Prod.mk.inj (Option.some.inj hf)
    exact (Keep.refl W_P_isMapChanged _)
  · rw [if_neg c2] at hf
    rcases Classical.em ((((hpI h a0 2) >>> (((nI 4) * p1) &&& 31)) &&& (nI 15)) = 0) with c3 | c3
    · rw [if_pos c3] at hf
      obtain ⟨rfl, rfl⟩ := Prod.mk.inj (Option.some.inj hf)
      exact (Keep.refl W_P_isMapChanged _)
    · rw [if_neg c3] at hf
      obtain ⟨rfl, rfl⟩ := Prod.mk.inj (Option.some.inj hf)
      exact (Keep.refl W_P_isMapChanged _)
theorem fr_P_isMapChanged {C : Ct} {mi : Nat} {a0 : Nat} {p1 : Int32} {h h' : Hp} {v : Int32} (hf : f_P_isMapChanged a0 p1 h = some (v, h')) : Keep W_P_isMapChanged h h' := fr0_P_isMapChanged (C := C) (mi := mi) (zbw_some hf).2
theorem c_P_isMapChanged {l : Launch} {C : Ct} {mi : Nat} {a0 : Nat} {p1 : Int32} {h h' : Hp} {v : Int32} (hf : f_P_isMapChanged a0 p1 h = some (v, h')) : Mt l C mi m_P_isMapChanged 0 [vr (some a0), vi p1] h (some (vi v)) h' := mt_I (ty := .boolean) rfl rfl (zb_eq (zbw_some hf).1) (by decide) (Nat.le_of_ble_eq_true rfl) (zf_P_isMapChanged (zbw_some hf).2)
-- VersionMaps$Present.needsRoot(I)Z
def m_P_needsRoot : Mi := (⟨"VersionMaps$Present", "needsRoot", "(I)Z"⟩, prog_7_method_20_code, 2, (Option.some Jvm.ClassFile.FieldType.boolean), .ireturn)
theorem cw_P_needsRoot : cw_ok m_P_needsRoot 1 := ⟨by decide +kernel, by decide +kernel, by decide +kernel, by decide +kernel⟩
theorem im_P_needsRoot : Cond.instanceMethod m_P_needsRoot.1 ∈ lw_w := by decide +kernel
theorem se_P_needsRoot : Cond.selects "VersionMaps$Present" m_P_needsRoot.1 m_P_needsRoot.1 ∈ lw_w := by decide +kernel
theorem d_P_needsRoot_0 : decode prog_7_method_20_code 0 = .ok (.aload_n 0, 1) := by decide +kernel
theorem d_P_needsRoot_1 : decode prog_7_method_20_code 1 = .ok (.iload_n 1, 1) := by decide +kernel
theorem d_P_needsRoot_2 : decode prog_7_method_20_code 2 = .ok (.invokevirtual 77, 3) := by decide +kernel
theorem d_P_needsRoot_5 : decode prog_7_method_20_code 5 = .ok (.ifCond .eq 16, 3) := by decide +kernel
theorem d_P_needsRoot_8 : decode prog_7_method_20_code 8 = .ok (.aload_n 0, 1) := by decide +kernel
theorem d_P_needsRoot_9 : decode prog_7_method_20_code 9 = .ok (.getfield 15, 3) := by decide +kernel
theorem d_P_needsRoot_12 : decode prog_7_method_20_code 12 = .ok (.iload_n 1, 1) := by decide +kernel
theorem d_P_needsRoot_13 : decode prog_7_method_20_code 13 = .ok (.iaload, 1) := by decide +kernel
theorem d_P_needsRoot_14 : decode prog_7_method_20_code 14 = .ok (.ifCond .eq 7, 3) := by decide +kernel
theorem d_P_needsRoot_17 : decode prog_7_method_20_code 17 = .ok (.iconst 1, 1) := by decide +kernel
theorem d_P_needsRoot_18 : decode prog_7_method_20_code 18 = .ok (.goto 4, 3) := by decide +kernel
theorem d_P_needsRoot_21 : decode prog_7_method_20_code 21 = .ok (.iconst 0, 1) := by decide +kernel
theorem d_P_needsRoot_22 : decode prog_7_method_20_code 22 = .ok (.ireturn, 1) := by decide +kernel
def W_P_needsRoot : Wl := ([], [])
def f0_P_needsRoot (a0 : Nat) (p1 : Int32) (h : Hp) : Option (Int32 × Hp) :=
  gd (isK h a0 5) (cl (f_P_isMapChanged a0 p1 h) fun v4 h2 => if v4 = 0 then (some ((0 : Int32), h2)) else (gd (isK h2 a0 5) (dr (hpR h2 a0 1) fun a8 => gd (isK h2 a8 67) (gd (inb p1 (hpL h2 a8)) (if (hpI h2 a8 p1.toNatClampNeg) = 0 then (some ((0 : Int32), h2)) else (some ((1 : Int32), h2)))))))
def f_P_needsRoot (a0 : Nat) (p1 : Int32) (h : Hp) : Option (Int32 × Hp) := zbw (f0_P_needsRoot a0 p1 h)
set_option maxRecDepth 100000 in
set_option maxHeartbeats 4000000 in
theorem zf_P_needsRoot {l : Launch} {C : Ct} {mi : Nat} {a0 : Nat} {p1 : Int32} {h h' : Hp} {v : Int32} (hf : f0_P_needsRoot a0 p1 h = some (v, h')) : Z l C mi m_P_needsRoot 1 0 [(0, vr (some a0)), (1, vi p1)] [] h (some (vi v)) h' := by
  unfold f0_P_needsRoot at hf
  refine z_aload_n 0 d_P_needsRoot_0 rfl rfl ?_
  refine z_iload_n 1 d_P_needsRoot_1 rfl rfl ?_
  obtain ⟨g1, hf⟩ := gd_some hf
  obtain ⟨v4, h2, ec3, hf⟩ := cl_some hf
  refine z_callVx rfl (c_P_isMapChanged ec3) d_P_needsRoot_2 cw_P_isMapChanged lk_P_77 im_P_isMapChanged se_P_isMapChanged (kc_K (isK_eq g1) kc_5) ⟨by decide, by decide⟩ (Nat.le_of_ble_eq_true rfl) rfl ?_
  refine z_if_eq (tgt := 21) d_P_needsRoot_5 (by decide) (fun c6 => ?_) (fun c6 => ?_)
  · rw [if_pos c6] at hf
    refine z_iconst (v := (0 : Int32)) d_P_needsRoot_21 (by decide) ?_
    obtain ⟨rfl, rfl⟩ := Prod.mk.inj (Option.some.inj hf)
    exact z_ret d_P_needsRoot_22 rfl
  · rw [if_neg c6] at hf
    refine z_aload_n 0 d_P_needsRoot_8 rfl rfl ?_
    obtain ⟨g7, hf⟩ := gd_some hf
    refine z_getR d_P_needsRoot_9 (fl_K (isK_eq g7) fl_P_15_5) (fi_K (isK_eq g7) rfl) rfl ?_
    refine z_iload_n 1 d_P_needsRoot_12 rfl rfl ?_
    obtain ⟨a8, e9, hf⟩ := dr_some hf
    obtain ⟨g10, hf⟩ := gd_some hf
    obtain ⟨g11, hf⟩ := gd_some hf
    refine z_iald d_P_needsRoot_13 e9 (by rw [isK_eq g10]; decide) (by rw [isK_eq g10]; rfl) (inb_vp g11) ?_
    refine z_if_eq (tgt := 21) d_P_needsRoot_14 (by decide) (fun c12 => ?_) (fun c12 => ?_)
    · rw [if_pos c12] at hf
      refine z_iconst (v := (0 : Int32)) d_P_needsRoot_21 (by decide) ?_
      obtain ⟨rfl, rfl⟩ := Prod.mk.inj (Option.some.inj hf)
      exact z_ret d_P_needsRoot_22 rfl
    · rw [if_neg c12] at hf
      refine z_iconst (v := (1 : Int32)) d_P_needsRoot_17 (by decide) ?_
      refine z_goto (tgt := 22) d_P_needsRoot_18 (by decide) ?_
      obtain ⟨rfl, rfl⟩ := Prod.mk.inj (Option.some.inj hf)
      exact z_ret d_P_needsRoot_22 rfl
set_option maxRecDepth 100000 in
set_option maxHeartbeats 4000000 in
theorem fr0_P_needsRoot {C : Ct} {mi : Nat} {a0 : Nat} {p1 : Int32} {h h' : Hp} {v : Int32} (hf : f0_P_needsRoot a0 p1 h = some (v, h')) : Keep W_P_needsRoot h h' := by
  unfold f0_P_needsRoot at hf
  obtain ⟨g1, hf⟩ := gd_some hf
  obtain ⟨v4, h2, ec3, hf⟩ := cl_some hf
  have K5 := (Keep.refl W_P_needsRoot _).trans ((fr_P_isMapChanged (C := C) (mi := mi) ec3).mono (by decide) (by decide))
  rcases Classical.em (v4 = 0) with c6 | c6
  · rw [if_pos c6] at hf
    obtain ⟨rfl, rfl⟩ := Prod.mk.inj (Option.some.inj hf)
    exact K5
  · rw [if_neg c6] at hf
    obtain ⟨g7, hf⟩ := gd_some hf
    obtain ⟨a8, e9, hf⟩ := dr_some hf
    obtain ⟨g10, hf⟩ := gd_some hf
    obtain ⟨g11, hf⟩ := gd_some hf
    rcases Classical.em ((hpI h2 a8 p1.toNatClampNeg) = 0) with c12 | c12
    · rw [if_pos c12] at hf
      obtain ⟨rfl, rfl⟩ := Prod.mk.inj (Option.some.inj hf)
      exact K5
    · rw [if_neg c12] at hf
      obtain ⟨rfl, rfl⟩ := Prod.mk.inj (Option.some.inj hf)
      exact K5
theorem fr_P_needsRoot {C : Ct} {mi : Nat} {a0 : Nat} {p1 : Int32} {h h' : Hp} {v : Int32} (hf : f_P_needsRoot a0 p1 h = some (v, h')) : Keep W_P_needsRoot h h' := fr0_P_needsRoot (C := C) (mi := mi) (zbw_some hf).2
theorem c_P_needsRoot {l : Launch} {C : Ct} {mi : Nat} {a0 : Nat} {p1 : Int32} {h h' : Hp} {v : Int32} (hf : f_P_needsRoot a0 p1 h = some (v, h')) : Mt l C mi m_P_needsRoot 1 [vr (some a0), vi p1] h (some (vi v)) h' := mt_I (ty := .boolean) rfl rfl (zb_eq (zbw_some hf).1) (by decide) (Nat.le_of_ble_eq_true rfl) (zf_P_needsRoot (zbw_some hf).2)
-- VersionMaps$Present.isLeafTouched(II)Z
def m_P_isLeafTouched : Mi := (⟨"VersionMaps$Present", "isLeafTouched", "(II)Z"⟩, prog_7_method_16_code, 3, (Option.some Jvm.ClassFile.FieldType.boolean), .ireturn)
theorem cw_P_isLeafTouched : cw_ok m_P_isLeafTouched 2 := ⟨by decide +kernel, by decide +kernel, by decide +kernel, by decide +kernel⟩
theorem im_P_isLeafTouched : Cond.instanceMethod m_P_isLeafTouched.1 ∈ lw_w := by decide +kernel
theorem se_P_isLeafTouched : Cond.selects "VersionMaps$Present" m_P_isLeafTouched.1 m_P_isLeafTouched.1 ∈ lw_w := by decide +kernel
theorem d_P_isLeafTouched_0 : decode prog_7_method_16_code 0 = .ok (.aload_n 0, 1) := by decide +kernel
theorem d_P_isLeafTouched_1 : decode prog_7_method_16_code 1 = .ok (.getfield 18, 3) := by decide +kernel
theorem d_P_isLeafTouched_4 : decode prog_7_method_16_code 4 = .ok (.iconst 4, 1) := by decide +kernel
theorem d_P_isLeafTouched_5 : decode prog_7_method_16_code 5 = .ok (.iload_n 1, 1) := by decide +kernel
theorem d_P_isLeafTouched_6 : decode prog_7_method_16_code 6 = .ok (.imul, 1) := by decide +kernel
theorem d_P_isLeafTouched_7 : decode prog_7_method_16_code 7 = .ok (.iload_n 2, 1) := by decide +kernel
theorem d_P_isLeafTouched_8 : decode prog_7_method_16_code 8 = .ok (.iadd, 1) := by decide +kernel
theorem d_P_isLeafTouched_9 : decode prog_7_method_16_code 9 = .ok (.ishr, 1) := by decide +kernel
theorem d_P_isLeafTouched_10 : decode prog_7_method_16_code 10 = .ok (.iconst 1, 1) := by decide +kernel
theorem d_P_isLeafTouched_11 : decode prog_7_method_16_code 11 = .ok (.iand, 1) := by decide +kernel
theorem d_P_isLeafTouched_12 : decode prog_7_method_16_code 12 = .ok (.iconst 1, 1) := by decide +kernel
theorem d_P_isLeafTouched_13 : decode prog_7_method_16_code 13 = .ok (.if_icmp .ne 7, 3) := by decide +kernel
theorem d_P_isLeafTouched_16 : decode prog_7_method_16_code 16 = .ok (.iconst 1, 1) := by decide +kernel
theorem d_P_isLeafTouched_17 : decode prog_7_method_16_code 17 = .ok (.goto 4, 3) := by decide +kernel
theorem d_P_isLeafTouched_20 : decode prog_7_method_16_code 20 = .ok (.iconst 0, 1) := by decide +kernel
theorem d_P_isLeafTouched_21 : decode prog_7_method_16_code 21 = .ok (.ireturn, 1) := by decide +kernel
def W_P_isLeafTouched : Wl := ([], [])
def f0_P_isLeafTouched (a0 : Nat) (p1 : Int32) (p2 : Int32) (h : Hp) : Option (Int32 × Hp) :=
  gd (isK h a0 5) (if (((hpI h a0 2) >>> ((((nI 4) * p1) + p2) &&& 31)) &&& (1 : Int32)) = (1 : Int32) then (some ((1 : Int32), h)) else (some ((0 : Int32), h)))
def f_P_isLeafTouched (a0 : Nat) (p1 : Int32) (p2 : Int32) (h : Hp) : Option (Int32 × Hp) := zbw (f0_P_isLeafTouched a0 p1 p2 h)
set_option maxRecDepth 100000 in
set_option maxHeartbeats 4000000 in
theorem zf_P_isLeafTouched {l : Launch} {C : Ct} {mi : Nat} {a0 : Nat} {p1 : Int32} {p2 : Int32} {h h' : Hp} {v : Int32} (hf : f0_P_isLeafTouched a0 p1 p2 h = some (v, h')) : Z l C mi m_P_isLeafTouched 0 0 [(0, vr (some a0)), (1, vi p1), (2, vi p2)] [] h (some (vi v)) h' := by
  unfold f0_P_isLeafTouched at hf
  refine z_aload_n 0 d_P_isLeafTouched_0 rfl rfl ?_
  obtain ⟨g1, hf⟩ := gd_some hf
  refine z_getI d_P_isLeafTouched_1 (fl_K (isK_eq g1) fl_P_18_5) (fi_K (isK_eq g1) rfl) rfl ?_
  refine z_iconst (v := (nI 4)) d_P_isLeafTouched_4 (by decide) ?_
  refine z_iload_n 1 d_P_isLeafTouched_5 rfl rfl ?_
  refine z_imul d_P_isLeafTouched_6 ?_
  refine z_iload_n 2 d_P_isLeafTouched_7 rfl rfl ?_
  refine z_iadd d_P_isLeafTouched_8 ?_
  refine z_ishr d_P_isLeafTouched_9 ?_
  refine z_iconst (v := (1 : Int32)) d_P_isLeafTouched_10 (by decide) ?_
  refine z_iand d_P_isLeafTouched_11 ?_
  refine z_iconst (v := (1 : Int32)) d_P_isLeafTouched_12 (by decide) ?_
  refine z_icmp_ne (tgt := 20) d_P_isLeafTouched_13 (by decide) (fun c2 => ?_) (fun c2 => ?_)
  · rw [if_neg c2] at hf
    refine z_iconst (v := (0 : Int32)) d_P_isLeafTouched_20 (by decide) ?_
    obtain ⟨rfl, rfl⟩ := Prod.mk.inj (Option.some.inj hf)
    exact z_ret d_P_isLeafTouched_21 rfl
  · rw [if_pos c2] at hf
    refine z_iconst (v := (1 : Int32)) d_P_isLeafTouched_16 (by decide) ?_
    refine z_goto (tgt := 21) d_P_isLeafTouched_17 (by decide) ?_
    obtain ⟨rfl, rfl⟩ := Prod.mk.inj (Option.some.inj hf)
    exact z_ret d_P_isLeafTouched_21 rfl
set_option maxRecDepth 100000 in
set_option maxHeartbeats 4000000 in
theorem fr0_P_isLeafTouched {C : Ct} {mi : Nat} {a0 : Nat} {p1 : Int32} {p2 : Int32} {h h' : Hp} {v : Int32} (hf : f0_P_isLeafTouched a0 p1 p2 h = some (v, h')) : Keep W_P_isLeafTouched h h' := by
  unfold f0_P_isLeafTouched at hf
  obtain ⟨g1, hf⟩ := gd_some hf
  rcases (Classical.em ((((hpI h a0 2) >>> ((((nI 4) * p1) + p2) &&& 31)) &&& (1 : Int32)) = (1 : Int32))).symm with c2 | c2
  · rw [if_neg c2] at hf
    obtain ⟨rfl, rfl⟩ := Prod.mk.inj (Option.some.inj hf)
    exact (Keep.refl W_P_isLeafTouched _)
  · rw [if_pos c2] at hf
    obtain ⟨rfl, rfl⟩ := Prod.mk.inj (Option.some.inj hf)
    exact (Keep.refl W_P_isLeafTouched _)
theorem fr_P_isLeafTouched {C : Ct} {mi : Nat} {a0 : Nat} {p1 : Int32} {p2 : Int32} {h h' : Hp} {v : Int32} (hf : f_P_isLeafTouched a0 p1 p2 h = some (v, h')) : Keep W_P_isLeafTouched h h' := fr0_P_isLeafTouched (C := C) (mi := mi) (zbw_some hf).2
theorem c_P_isLeafTouched {l : Launch} {C : Ct} {mi : Nat} {a0 : Nat} {p1 : Int32} {p2 : Int32} {h h' : Hp} {v : Int32} (hf : f_P_isLeafTouched a0 p1 p2 h = some (v, h')) : Mt l C mi m_P_isLeafTouched 0 [vr (some a0), vi p1, vi p2] h (some (vi v)) h' := mt_I (ty := .boolean) rfl rfl (zb_eq (zbw_some hf).1) (by decide) (Nat.le_of_ble_eq_true rfl) (zf_P_isLeafTouched (zbw_some hf).2)
-- VersionMaps$Present.leafKeys(II)I
def m_P_leafKeys : Mi := (⟨"VersionMaps$Present", "leafKeys", "(II)I"⟩, prog_7_method_17_code, 3, (Option.some Jvm.ClassFile.FieldType.int), .ireturn)
theorem cw_P_leafKeys : cw_ok m_P_leafKeys 2 := ⟨by decide +kernel, by decide +kernel, by decide +kernel, by decide +kernel⟩
theorem im_P_leafKeys : Cond.instanceMethod m_P_leafKeys.1 ∈ lw_w := by decide +kernel
theorem se_P_leafKeys : Cond.selects "VersionMaps$Present" m_P_leafKeys.1 m_P_leafKeys.1 ∈ lw_w := by decide +kernel
theorem d_P_leafKeys_0 : decode prog_7_method_17_code 0 = .ok (.aload_n 0, 1) := by decide +kernel
theorem d_P_leafKeys_1 : decode prog_7_method_17_code 1 = .ok (.getfield 15, 3) := by decide +kernel
theorem d_P_leafKeys_4 : decode prog_7_method_17_code 4 = .ok (.iload_n 1, 1) := by decide +kernel
theorem d_P_leafKeys_5 : decode prog_7_method_17_code 5 = .ok (.iaload, 1) := by decide +kernel
theorem d_P_leafKeys_6 : decode prog_7_method_17_code 6 = .ok (.bipush 8, 2) := by decide +kernel
theorem d_P_leafKeys_8 : decode prog_7_method_17_code 8 = .ok (.iload_n 2, 1) := by decide +kernel
theorem d_P_leafKeys_9 : decode prog_7_method_17_code 9 = .ok (.imul, 1) := by decide +kernel
theorem d_P_leafKeys_10 : decode prog_7_method_17_code 10 = .ok (.iushr, 1) := by decide +kernel
theorem d_P_leafKeys_11 : decode prog_7_method_17_code 11 = .ok (.sipush 255, 3) := by decide +kernel
theorem d_P_leafKeys_14 : decode prog_7_method_17_code 14 = .ok (.iand, 1) := by decide +kernel
theorem d_P_leafKeys_15 : decode prog_7_method_17_code 15 = .ok (.ireturn, 1) := by decide +kernel
def W_P_leafKeys : Wl := ([], [])
def f_P_leafKeys (a0 : Nat) (p1 : Int32) (p2 : Int32) (h : Hp) : Option (Int32 × Hp) :=
  gd (isK h a0 5) (dr (hpR h a0 1) fun a2 => gd (isK h a2 67) (gd (inb p1 (hpL h a2)) (some (((ushr (hpI h a2 p1.toNatClampNeg) ((nI 8) * p2)) &&& (nI 255)), h))))
set_option maxRecDepth 100000 in
set_option maxHeartbeats 4000000 in
theorem zf_P_leafKeys {l : Launch} {C : Ct} {mi : Nat} {a0 : Nat} {p1 : Int32} {p2 : Int32} {h h' : Hp} {v : Int32} (hf : f_P_leafKeys a0 p1 p2 h = some (v, h')) : Z l C mi m_P_leafKeys 0 0 [(0, vr (some a0)), (1, vi p1), (2, vi p2)] [] h (some (vi v)) h' := by
  unfold f_P_leafKeys at hf
  refine z_aload_n 0 d_P_leafKeys_0 rfl rfl ?_
  obtain ⟨g1, hf⟩ := gd_some hf
  refine z_getR d_P_leafKeys_1 (fl_K (isK_eq g1) fl_P_15_5) (fi_K (isK_eq g1) rfl) rfl ?_
  refine z_iload_n 1 d_P_leafKeys_4 rfl rfl ?_
  obtain ⟨a2, e3, hf⟩ := dr_some hf
  obtain ⟨g4, hf⟩ := gd_some hf
  obtain ⟨g5, hf⟩ := gd_some hf
  refine z_iald d_P_leafKeys_5 e3 (by rw [isK_eq g4]; decide) (by rw [isK_eq g4]; rfl) (inb_vp g5) ?_
  refine z_bipush (v := (nI 8)) d_P_leafKeys_6 (by decide) ?_
  refine z_iload_n 2 d_P_leafKeys_8 rfl rfl ?_
  refine z_imul d_P_leafKeys_9 ?_
  refine z_iushr d_P_leafKeys_10 ?_
  refine z_sipush (v := (nI 255)) d_P_leafKeys_11 (by decide) ?_
  refine z_iand d_P_leafKeys_14 ?_
  obtain ⟨rfl, rfl⟩ := Prod.mk.inj (Option.some.inj hf)
  exact z_ret d_P_leafKeys_15 rfl
set_option maxRecDepth 100000 in
set_option maxHeartbeats 4000000 in
theorem fr_P_leafKeys {C : Ct} {mi : Nat} {a0 : Nat} {p1 : Int32} {p2 : Int32} {h h' : Hp} {v : Int32} (hf : f_P_leafKeys a0 p1 p2 h = some (v, h')) : Keep W_P_leafKeys h h' := by
  unfold f_P_leafKeys at hf
  obtain ⟨g1, hf⟩ := gd_some hf
  obtain ⟨a2, e3, hf⟩ := dr_some hf
  obtain ⟨g4, hf⟩ := gd_some hf
  obtain ⟨g5, hf⟩ := gd_some hf
  obtain ⟨rfl, rfl⟩ := Prod.mk.inj (Option.some.inj hf)
  exact (Keep.refl W_P_leafKeys _)
theorem c_P_leafKeys {l : Launch} {C : Ct} {mi : Nat} {a0 : Nat} {p1 : Int32} {p2 : Int32} {h h' : Hp} {v : Int32} (hf : f_P_leafKeys a0 p1 p2 h = some (v, h')) : Mt l C mi m_P_leafKeys 0 [vr (some a0), vi p1, vi p2] h (some (vi v)) h' := mt_I (ty := .int) rfl rfl rfl (by decide) (Nat.le_of_ble_eq_true rfl) (zf_P_leafKeys hf)
-- VersionMaps$Present.needsLeaf(II)Z
def m_P_needsLeaf : Mi := (⟨"VersionMaps$Present", "needsLeaf", "(II)Z"⟩, prog_7_method_19_code, 3, (Option.some Jvm.ClassFile.FieldType.boolean), .ireturn)
theorem cw_P_needsLeaf : cw_ok m_P_needsLeaf 2 := ⟨by decide +kernel, by decide +kernel, by decide +kernel, by decide +kernel⟩
theorem im_P_needsLeaf : Cond.instanceMethod m_P_needsLeaf.1 ∈ lw_w := by decide +kernel
theorem se_P_needsLeaf : Cond.selects "VersionMaps$Present" m_P_needsLeaf.1 m_P_needsLeaf.1 ∈ lw_w := by decide +kernel
theorem d_P_needsLeaf_0 : decode prog_7_method_19_code 0 = .ok (.aload_n 0, 1) := by decide +kernel
theorem d_P_needsLeaf_1 : decode prog_7_method_19_code 1 = .ok (.iload_n 1, 1) := by decide +kernel
theorem d_P_needsLeaf_2 : decode prog_7_method_19_code 2 = .ok (.iload_n 2, 1) := by decide +kernel
theorem d_P_needsLeaf_3 : decode prog_7_method_19_code 3 = .ok (.invokevirtual 99, 3) := by decide +kernel
theorem d_P_needsLeaf_6 : decode prog_7_method_19_code 6 = .ok (.ifCond .eq 16, 3) := by decide +kernel
theorem d_P_needsLeaf_9 : decode prog_7_method_19_code 9 = .ok (.aload_n 0, 1) := by decide +kernel
theorem d_P_needsLeaf_10 : decode prog_7_method_19_code 10 = .ok (.iload_n 1, 1) := by decide +kernel
theorem d_P_needsLeaf_11 : decode prog_7_method_19_code 11 = .ok (.iload_n 2, 1) := by decide +kernel
theorem d_P_needsLeaf_12 : decode prog_7_method_19_code 12 = .ok (.invokevirtual 107, 3) := by decide +kernel
theorem d_P_needsLeaf_15 : decode prog_7_method_19_code 15 = .ok (.ifCond .eq 7, 3) := by decide +kernel
theorem d_P_needsLeaf_18 : decode prog_7_method_19_code 18 = .ok (.iconst 1, 1) := by decide +kernel
theorem d_P_needsLeaf_19 : decode prog_7_method_19_code 19 = .ok (.goto 4, 3) := by decide +kernel
theorem d_P_needsLeaf_22 : decode prog_7_method_19_code 22 = .ok (.iconst 0, 1) := by decide +kernel
theorem d_P_needsLeaf_23 : decode prog_7_method_19_code 23 = .ok (.ireturn, 1) := by decide +kernel
def W_P_needsLeaf : Wl := ([], [])
def f0_P_needsLeaf (a0 : Nat) (p1 : Int32) (p2 : Int32) (h : Hp) : Option (Int32 × Hp) :=
  gd (isK h a0 5) (cl (f_P_isLeafTouched a0 p1 p2 h) fun v4 h2 => if v4 = 0 then (some ((0 : Int32), h2)) else (gd (isK h2 a0 5) (cl (f_P_leafKeys a0 p1 p2 h2) fun v10 h8 => if v10 = 0 then (some ((0 : Int32), h8)) else (some ((1 : Int32), h8)))))
def f_P_needsLeaf (a0 : Nat) (p1 : Int32) (p2 : Int32) (h : Hp) : Option (Int32 × Hp) := zbw (f0_P_needsLeaf a0 p1 p2 h)
set_option maxRecDepth 100000 in
set_option maxHeartbeats 4000000 in
theorem zf_P_needsLeaf {l : Launch} {C : Ct} {mi : Nat} {a0 : Nat} {p1 : Int32} {p2 : Int32} {h h' : Hp} {v : Int32} (hf : f0_P_needsLeaf a0 p1 p2 h = some (v, h')) : Z l C mi m_P_needsLeaf 1 0 [(0, vr (some a0)), (1, vi p1), (2, vi p2)] [] h (some (vi v)) h' := by
  unfold f0_P_needsLeaf at hf
  refine z_aload_n 0 d_P_needsLeaf_0 rfl rfl ?_
  refine z_iload_n 1 d_P_needsLeaf_1 rfl rfl ?_
  refine z_iload_n 2 d_P_needsLeaf_2 rfl rfl ?_
  obtain ⟨g1, hf⟩ := gd_some hf
  obtain ⟨v4, h2, ec3, hf⟩ := cl_some hf
  refine z_callVx rfl (c_P_isLeafTouched ec3) d_P_needsLeaf_3 cw_P_isLeafTouched lk_P_99 im_P_isLeafTouched se_P_isLeafTouched (kc_K (isK_eq g1) kc_5) ⟨by decide, by decide⟩ (Nat.le_of_ble_eq_true rfl) rfl ?_
  refine z_if_eq (tgt := 22) d_P_needsLeaf_6 (by decide) (fun c6 => ?_) (fun c6 => ?_)
  · rw [if_pos c6] at hf
    refine z_iconst (v := (0 : Int32)) d_P_needsLeaf_22 (by decide) ?_
    obtain ⟨rfl, rfl⟩ := Prod.mk.inj (Option.some.inj hf)
    exact z_ret d_P_needsLeaf_23 rfl
  · rw [if_neg c6] at hf
    refine z_aload_n 0 d_P_needsLeaf_9 rfl rfl ?_
    refine z_iload_n 1 d_P_needsLeaf_10 rfl rfl ?_
    refine z_iload_n 2 d_P_needsLeaf_11 rfl rfl ?_
    obtain ⟨g7, hf⟩ := gd_some hf
    obtain ⟨v10, h8, ec9, hf⟩ := cl_some hf
    refine z_callVx rfl (c_P_leafKeys ec9) d_P_needsLeaf_12 cw_P_leafKeys lk_P_107 im_P_leafKeys se_P_leafKeys (kc_K (isK_eq g7) kc_5) ⟨by decide, by decide⟩ (Nat.le_of_ble_eq_true rfl) rfl ?_
    refine z_if_eq (tgt := 22) d_P_needsLeaf_15 (by decide) (fun c12 => ?_) (fun c12 => ?_)
    · rw [if_pos c12] at hf
      refine z_iconst (v := (0 : Int32)) d_P_needsLeaf_22 (by decide) ?_
      obtain ⟨rfl, rfl⟩ := Prod.mk.inj (Option.some.inj hf)
      exact z_ret d_P_needsLeaf_23 rfl
    · rw [if_neg c12] at hf
      refine z_iconst (v := (1 : Int32)) d_P_needsLeaf_18 (by decide) ?_
      refine z_goto (tgt := 23) d_P_needsLeaf_19 (by decide) ?_
      obtain ⟨rfl, rfl⟩ := Prod.mk.inj (Option.some.inj hf)
      exact z_ret d_P_needsLeaf_23 rfl
set_option maxRecDepth 100000 in
set_option maxHeartbeats 4000000 in
theorem fr0_P_needsLeaf {C : Ct} {mi : Nat} {a0 : Nat} {p1 : Int32} {p2 : Int32} {h h' : Hp} {v : Int32} (hf : f0_P_needsLeaf a0 p1 p2 h = some (v, h')) : Keep W_P_needsLeaf h h' := by
  unfold f0_P_needsLeaf at hf
  obtain ⟨g1, hf⟩ := gd_some hf
  obtain ⟨v4, h2, ec3, hf⟩ := cl_some hf
  have K5 := (Keep.refl W_P_needsLeaf _).trans ((fr_P_isLeafTouched (C := C) (mi := mi) ec3).mono (by decide) (by decide))
  rcases Classical.em (v4 = 0) with c6 | c6
  · rw [if_pos c6] at hf
    obtain ⟨rfl, rfl⟩ := Prod.mk.inj (Option.some.inj hf)
    exact K5
  · rw [if_neg c6] at hf
    obtain ⟨g7, hf⟩ := gd_some hf
    obtain ⟨v10, h8, ec9, hf⟩ := cl_some hf
    have K11 := K5.trans ((fr_P_leafKeys (C := C) (mi := mi) ec9).mono (by decide) (by decide))
    rcases Classical.em (v10 = 0) with c12 | c12
    · rw [if_pos c12] at hf
      obtain ⟨rfl, rfl⟩ := Prod.mk.inj (Option.some.inj hf)
      exact K11
    · rw [if_neg c12] at hf
      obtain ⟨rfl, rfl⟩ := Prod.mk.inj (Option.some.inj hf)
      exact K11
theorem fr_P_needsLeaf {C : Ct} {mi : Nat} {a0 : Nat} {p1 : Int32} {p2 : Int32} {h h' : Hp} {v : Int32} (hf : f_P_needsLeaf a0 p1 p2 h = some (v, h')) : Keep W_P_needsLeaf h h' := fr0_P_needsLeaf (C := C) (mi := mi) (zbw_some hf).2
theorem c_P_needsLeaf {l : Launch} {C : Ct} {mi : Nat} {a0 : Nat} {p1 : Int32} {p2 : Int32} {h h' : Hp} {v : Int32} (hf : f_P_needsLeaf a0 p1 p2 h = some (v, h')) : Mt l C mi m_P_needsLeaf 1 [vr (some a0), vi p1, vi p2] h (some (vi v)) h' := mt_I (ty := .boolean) rfl rfl (zb_eq (zbw_some hf).1) (by decide) (Nat.le_of_ble_eq_true rfl) (zf_P_needsLeaf (zbw_some hf).2)
-- VersionMaps$Present.pagesToWrite()I
def m_P_pagesToWrite : Mi := (⟨"VersionMaps$Present", "pagesToWrite", "()I"⟩, prog_7_method_11_code, 4, (Option.some Jvm.ClassFile.FieldType.int), .ireturn)
theorem cw_P_pagesToWrite : cw_ok m_P_pagesToWrite 0 := ⟨by decide +kernel, by decide +kernel, by decide +kernel, by decide +kernel⟩
theorem im_P_pagesToWrite : Cond.instanceMethod m_P_pagesToWrite.1 ∈ lw_w := by decide +kernel
theorem se_P_pagesToWrite : Cond.selects "VersionMaps$Present" m_P_pagesToWrite.1 m_P_pagesToWrite.1 ∈ lw_w := by decide +kernel
theorem d_P_pagesToWrite_0 : decode prog_7_method_11_code 0 = .ok (.iconst 1, 1) := by decide +kernel
theorem d_P_pagesToWrite_1 : decode prog_7_method_11_code 1 = .ok (.istore_n 1, 1) := by decide +kernel
theorem d_P_pagesToWrite_2 : decode prog_7_method_11_code 2 = .ok (.iconst 0, 1) := by decide +kernel
theorem d_P_pagesToWrite_3 : decode prog_7_method_11_code 3 = .ok (.istore_n 2, 1) := by decide +kernel
theorem d_P_pagesToWrite_4 : decode prog_7_method_11_code 4 = .ok (.iload_n 2, 1) := by decide +kernel
theorem d_P_pagesToWrite_5 : decode prog_7_method_11_code 5 = .ok (.iconst 4, 1) := by decide +kernel
theorem d_P_pagesToWrite_6 : decode prog_7_method_11_code 6 = .ok (.if_icmp .ge 45, 3) := by decide +kernel
theorem d_P_pagesToWrite_9 : decode prog_7_method_11_code 9 = .ok (.aload_n 0, 1) := by decide +kernel
theorem d_P_pagesToWrite_10 : decode prog_7_method_11_code 10 = .ok (.iload_n 2, 1) := by decide +kernel
theorem d_P_pagesToWrite_11 : decode prog_7_method_11_code 11 = .ok (.invokevirtual 66, 3) := by decide +kernel
theorem d_P_pagesToWrite_14 : decode prog_7_method_11_code 14 = .ok (.ifCond .eq 6, 3) := by decide +kernel
theorem d_P_pagesToWrite_17 : decode prog_7_method_11_code 17 = .ok (.iinc 1 1, 3) := by decide +kernel
theorem d_P_pagesToWrite_20 : decode prog_7_method_11_code 20 = .ok (.iconst 0, 1) := by decide +kernel
theorem d_P_pagesToWrite_21 : decode prog_7_method_11_code 21 = .ok (.istore_n 3, 1) := by decide +kernel
theorem d_P_pagesToWrite_22 : decode prog_7_method_11_code 22 = .ok (.iload_n 3, 1) := by decide +kernel
theorem d_P_pagesToWrite_23 : decode prog_7_method_11_code 23 = .ok (.iconst 4, 1) := by decide +kernel
theorem d_P_pagesToWrite_24 : decode prog_7_method_11_code 24 = .ok (.if_icmp .ge 21, 3) := by decide +kernel
theorem d_P_pagesToWrite_27 : decode prog_7_method_11_code 27 = .ok (.aload_n 0, 1) := by decide +kernel
theorem d_P_pagesToWrite_28 : decode prog_7_method_11_code 28 = .ok (.iload_n 2, 1) := by decide +kernel
theorem d_P_pagesToWrite_29 : decode prog_7_method_11_code 29 = .ok (.iload_n 3, 1) := by decide +kernel
theorem d_P_pagesToWrite_30 : decode prog_7_method_11_code 30 = .ok (.invokevirtual 70, 3) := by decide +kernel
theorem d_P_pagesToWrite_33 : decode prog_7_method_11_code 33 = .ok (.ifCond .eq 6, 3) := by decide +kernel
theorem d_P_pagesToWrite_36 : decode prog_7_method_11_code 36 = .ok (.iinc 1 1, 3) := by decide +kernel
theorem d_P_pagesToWrite_39 : decode prog_7_method_11_code 39 = .ok (.iinc 3 1, 3) := by decide +kernel
theorem d_P_pagesToWrite_42 : decode prog_7_method_11_code 42 = .ok (.goto (-20), 3) := by decide +kernel
theorem d_P_pagesToWrite_45 : decode prog_7_method_11_code 45 = .ok (.iinc 2 1, 3) := by decide +kernel
theorem d_P_pagesToWrite_48 : decode prog_7_method_11_code 48 = .ok (.goto (-44), 3) := by decide +kernel
theorem d_P_pagesToWrite_51 : decode prog_7_method_11_code 51 = .ok (.iload_n 1, 1) := by decide +kernel
theorem d_P_pagesToWrite_52 : decode prog_7_method_11_code 52 = .ok (.ireturn, 1) := by decide +kernel
def W_P_pagesToWrite : Wl := ([], [])
def b_P_pagesToWrite_22 (y0 : Nat) (y1 : Int32) (y2 : Int32) (y3 : Int32) (h : Hp) : Option ((Int32 × Int32 × Hp) ⊕ (Int32 × Hp)) :=
  if (nI 4) ≤ y3 then (some (.inr (y1, h))) else (gd (isK h y0 5) (cl (f_P_needsLeaf y0 y2 y3 h) fun v12 h10 => if v12 = 0 then (some (.inl (y1, (y3 + (1 : Int32)), h10))) else (some (.inl ((y1 + (1 : Int32)), (y3 + (1 : Int32)), h10)))))
set_option maxRecDepth 100000 in
set_option maxHeartbeats 4000000 in
theorem zb_P_pagesToWrite_22 {l : Launch} {C : Ct} {mi : Nat} {y0 : Nat} {y1 : Int32} {y2 : Int32} {y3 : Int32} {h h' : Hp} {v : Int32} {q : ((Int32 × Int32 × Hp) ⊕ (Int32 × Hp))} (hf : b_P_pagesToWrite_22 y0 y1 y2 y3 h = some q) (kc : ∀ s, q = .inl s → Z l C mi m_P_pagesToWrite 2 22 [(0, vr (some y0)), (1, vi s.1), (2, vi y2), (3, vi s.2.1)] [] s.2.2 (some (vi v)) h') (ke : ∀ x, q = .inr x → Z l C mi m_P_pagesToWrite 2 45 [(0, vr (some y0)), (1, vi x.1), (2, vi y2)] [] x.2 (some (vi v)) h') : Z l C mi m_P_pagesToWrite 2 22 [(0, vr (some y0)), (1, vi y1), (2, vi y2), (3, vi y3)] [] h (some (vi v)) h' := by
  unfold b_P_pagesToWrite_22 at hf
  refine z_iload_n 3 d_P_pagesToWrite_22 rfl rfl ?_
  refine z_iconst (v := (nI 4)) d_P_pagesToWrite_23 (by decide) ?_
  refine z_icmp_ge (tgt := 45) d_P_pagesToWrite_24 (by decide) (fun c8 => ?_) (fun c8 => ?_)
  · rw [if_pos c8] at hf
    refine z_ls [0, 1, 2] rfl ?_
    exact ke (y1, h) (Option.some.inj hf).symm
  · rw [if_neg c8] at hf
    refine z_aload_n 0 d_P_pagesToWrite_27 rfl rfl ?_
    refine z_iload_n 2 d_P_pagesToWrite_28 rfl rfl ?_
    refine z_iload_n 3 d_P_pagesToWrite_29 rfl rfl ?_
    obtain ⟨g9, hf⟩ := gd_some hf
    obtain ⟨v12, h10, ec11, hf⟩ := cl_some hf
    refine z_callVx rfl (c_P_needsLeaf ec11) d_P_pagesToWrite_30 cw_P_needsLeaf lk_P_70 im_P_needsLeaf se_P_needsLeaf (kc_K (isK_eq g9) kc_5) ⟨by decide, by decide⟩ (Nat.le_of_ble_eq_true rfl) rfl ?_
    refine z_if_eq (tgt := 39) d_P_pagesToWrite_33 (by decide) (fun c14 => ?_) (fun c14 => ?_)
    · rw [if_pos c14] at hf
      refine z_iinc (ls2 := [(3, vi (y3 + (1 : Int32))), (0, vr (some y0)), (1, vi y1), (2, vi y2)]) 3 d_P_pagesToWrite_39 rfl rfl (by decide) rfl ?_
      refine z_goto (tgt := 22) d_P_pagesToWrite_42 (by decide) ?_
      refine z_ls [1, 2, 3, 0] rfl ?_
      exact kc (y1, (y3 + (1 : Int32)), h10) (Option.some.inj hf).symm
    · rw [if_neg c14] at hf
      refine z_iinc (ls2 := [(1, vi (y1 + (1 : Int32))), (0, vr (some y0)), (2, vi y2), (3, vi y3)]) 1 d_P_pagesToWrite_36 rfl rfl (by decide) rfl ?_
      refine z_iinc (ls2 := [(3, vi (y3 + (1 : Int32))), (1, vi (y1 + (1 : Int32))), (0, vr (some y0)), (2, vi y2)]) 3 d_P_pagesToWrite_39 rfl rfl (by decide) rfl ?_
      refine z_goto (tgt := 22) d_P_pagesToWrite_42 (by decide) ?_
      refine z_ls [2, 1, 3, 0] rfl ?_
      exact kc ((y1 + (1 : Int32)), (y3 + (1 : Int32)), h10) (Option.some.inj hf).symm
set_option maxRecDepth 100000 in
set_option maxHeartbeats 4000000 in
theorem kb_P_pagesToWrite_22 {C : Ct} {mi : Nat} {y0 : Nat} {y1 : Int32} {y2 : Int32} {y3 : Int32} {h : Hp} {q : ((Int32 × Int32 × Hp) ⊕ (Int32 × Hp))} (hf : b_P_pagesToWrite_22 y0 y1 y2 y3 h = some q) : Keep W_P_pagesToWrite h (Sum.elim (fun s : Int32 × Int32 × Hp => s.2.2) (fun x : Int32 × Hp => x.2) q) := by
  unfold b_P_pagesToWrite_22 at hf
  rcases Classical.em ((nI 4) ≤ y3) with c8 | c8
  · rw [if_pos c8] at hf
    cases (Option.some.inj hf)
    exact (Keep.refl W_P_pagesToWrite _)
  · rw [if_neg c8] at hf
    obtain ⟨g9, hf⟩ := gd_some hf
    obtain ⟨v12, h10, ec11, hf⟩ := cl_some hf
    have K13 := (Keep.refl W_P_pagesToWrite _).trans ((fr_P_needsLeaf (C := C) (mi := mi) ec11).mono (by decide) (by decide))
    rcases Classical.em (v12 = 0) with c14 | c14
    · rw [if_pos c14] at hf
      cases (Option.some.inj hf)
      exact K13
    · rw [if_neg c14] at hf
      cases (Option.some.inj hf)
      exact K13
def l_P_pagesToWrite_22 (y0 : Nat) (y2 : Int32) (s : Int32 × Int32 × Hp) : Option (Int32 × Hp) := lp (fun s => b_P_pagesToWrite_22 y0 s.1 y2 s.2.1 s.2.2) FU s
theorem zzl_P_pagesToWrite_22 {l : Launch} {C : Ct} {mi : Nat} {y0 : Nat} {y2 : Int32} {h' : Hp} {v : Int32} : ∀ (n : Nat) (s : Int32 × Int32 × Hp) (x : (Int32 × Hp)), lp (fun s : Int32 × Int32 × Hp => b_P_pagesToWrite_22 y0 s.1 y2 s.2.1 s.2.2) n s = some x → Z l C mi m_P_pagesToWrite 2 45 [(0, vr (some y0)), (1, vi x.1), (2, vi y2)] [] x.2 (some (vi v)) h' → Z l C mi m_P_pagesToWrite 2 22 [(0, vr (some y0)), (1, vi s.1), (2, vi y2), (3, vi s.2.1)] [] s.2.2 (some (vi v)) h' := by
  intro n
  induction n with
  | zero => intro s x hl; cases hl
  | succ n ih =>
    intro s x hl ke
    rcases lp_some hl with ⟨s2, hb, hl2⟩ | hb
    · exact zb_P_pagesToWrite_22 hb (fun s3 e3 => by cases e3; refine z_ls [0, 1, 2, 3] rfl ?_; exact ih s2 x hl2 ke) (fun x e3 => by cases e3)
    · exact zb_P_pagesToWrite_22 hb (fun s3 e3 => by cases e3) (fun x e3 => by cases e3; exact ke)
theorem zl_P_pagesToWrite_22 {l : Launch} {C : Ct} {mi : Nat} {y0 : Nat} {y2 : Int32} {h' : Hp} {v : Int32} {s : Int32 × Int32 × Hp} {x : (Int32 × Hp)} (hl : l_P_pagesToWrite_22 y0 y2 s = some x) (ke : Z l C mi m_P_pagesToWrite 2 45 [(0, vr (some y0)), (1, vi x.1), (2, vi y2)] [] x.2 (some (vi v)) h') : Z l C mi m_P_pagesToWrite 2 22 [(0, vr (some y0)), (1, vi s.1), (2, vi y2), (3, vi s.2.1)] [] s.2.2 (some (vi v)) h' := zzl_P_pagesToWrite_22 FU s x hl ke
theorem kl_P_pagesToWrite_22 {C : Ct} {mi : Nat} {y0 : Nat} {y2 : Int32} {s : Int32 × Int32 × Hp} {q : (Int32 × Hp)} (hl : l_P_pagesToWrite_22 y0 y2 s = some q) : Keep W_P_pagesToWrite s.2.2 ((fun x : Int32 × Hp => x.2) q) := lpk (sh := (fun s : Int32 × Int32 × Hp => s.2.2)) (rh := (fun x : Int32 × Hp => x.2)) (fun s q hb => kb_P_pagesToWrite_22 (C := C) (mi := mi) hb) FU s q hl
def j_P_pagesToWrite_20_L4 (y0 : Nat) (y1 : Int32) (y2 : Int32) (h : Hp) : Option ((Int32 × Int32 × Hp) ⊕ (Int32 × Hp)) :=
  bd (l_P_pagesToWrite_22 y0 y2 (y1, (0 : Int32), h)) fun x15 => some (.inl (x15.1, (y2 + (1 : Int32)), x15.2))
set_option maxRecDepth 100000 in
set_option maxHeartbeats 4000000 in
theorem zj_P_pagesToWrite_20_L4 {l : Launch} {C : Ct} {mi : Nat} {y0 : Nat} {y1 : Int32} {y2 : Int32} {h h' : Hp} {v : Int32} {q : ((Int32 × Int32 × Hp) ⊕ (Int32 × Hp))} (hf : j_P_pagesToWrite_20_L4 y0 y1 y2 h = some q) (kc : ∀ s, q = .inl s → Z l C mi m_P_pagesToWrite 2 4 [(0, vr (some y0)), (1, vi s.1), (2, vi s.2.1)] [] s.2.2 (some (vi v)) h') (ke : ∀ x, q = .inr x → Z l C mi m_P_pagesToWrite 2 51 [(1, vi x.1)] [] x.2 (some (vi v)) h') : Z l C mi m_P_pagesToWrite 2 20 [(0, vr (some y0)), (1, vi y1), (2, vi y2)] [] h (some (vi v)) h' := by
  unfold j_P_pagesToWrite_20_L4 at hf
  refine z_iconst (v := (0 : Int32)) d_P_pagesToWrite_20 (by decide) ?_
  refine z_istore_n (ls2 := [(3, vi (0 : Int32)), (0, vr (some y0)), (1, vi y1), (2, vi y2)]) d_P_pagesToWrite_21 rfl (by decide) rfl ?_
  obtain ⟨x15, el16, hf⟩ := bd_some hf
  refine z_ls [1, 2, 3, 0] rfl ?_
  refine zl_P_pagesToWrite_22 el16 ?_
  refine z_iinc (ls2 := [(2, vi (y2 + (1 : Int32))), (0, vr (some y0)), (1, vi x15.1)]) 2 d_P_pagesToWrite_45 rfl rfl (by decide) rfl ?_
  refine z_goto (tgt := 4) d_P_pagesToWrite_48 (by decide) ?_
  refine z_ls [1, 2, 0] rfl ?_
  exact kc (x15.1, (y2 + (1 : Int32)), x15.2) (Option.some.inj hf).symm
set_option maxRecDepth 100000 in
set_option maxHeartbeats 4000000 in
theorem kj_P_pagesToWrite_20_L4 {C : Ct} {mi : Nat} {y0 : Nat} {y1 : Int32} {y2 : Int32} {h : Hp} {q : ((Int32 × Int32 × Hp) ⊕ (Int32 × Hp))} (hf : j_P_pagesToWrite_20_L4 y0 y1 y2 h = some q) : Keep W_P_pagesToWrite h (Sum.elim (fun s : Int32 × Int32 × Hp => s.2.2) (fun x : Int32 × Hp => x.2) q) := by
  unfold j_P_pagesToWrite_20_L4 at hf
  obtain ⟨x15, el16, hf⟩ := bd_some hf
  have K17 := (Keep.refl W_P_pagesToWrite _).trans (kl_P_pagesToWrite_22 (C := C) (mi := mi) el16)
  cases (Option.some.inj hf)
  exact K17
def b_P_pagesToWrite_4 (y0 : Nat) (y1 : Int32) (y2 : Int32) (h : Hp) : Option ((Int32 × Int32 × Hp) ⊕ (Int32 × Hp)) :=
  if (nI 4) ≤ y2 then (some (.inr (y1, h))) else (gd (isK h y0 5) (cl (f_P_needsRoot y0 y2 h) fun v5 h3 => if v5 = 0 then (j_P_pagesToWrite_20_L4 y0 y1 y2 h3) else (j_P_pagesToWrite_20_L4 y0 (y1 + (1 : Int32)) y2 h3)))
set_option maxRecDepth 100000 in
set_option maxHeartbeats 4000000 in
theorem zb_P_pagesToWrite_4 {l : Launch} {C : Ct} {mi : Nat} {y0 : Nat} {y1 : Int32} {y2 : Int32} {h h' : Hp} {v : Int32} {q : ((Int32 × Int32 × Hp) ⊕ (Int32 × Hp))} (hf : b_P_pagesToWrite_4 y0 y1 y2 h = some q) (kc : ∀ s, q = .inl s → Z l C mi m_P_pagesToWrite 2 4 [(0, vr (some y0)), (1, vi s.1), (2, vi s.2.1)] [] s.2.2 (some (vi v)) h') (ke : ∀ x, q = .inr x → Z l C mi m_P_pagesToWrite 2 51 [(1, vi x.1)] [] x.2 (some (vi v)) h') : Z l C mi m_P_pagesToWrite 2 4 [(0, vr (some y0)), (1, vi y1), (2, vi y2)] [] h (some (vi v)) h' := by
  unfold b_P_pagesToWrite_4 at hf
  refine z_iload_n 2 d_P_pagesToWrite_4 rfl rfl ?_
  refine z_iconst (v := (nI 4)) d_P_pagesToWrite_5 (by decide) ?_
  refine z_icmp_ge (tgt := 51) d_P_pagesToWrite_6 (by decide) (fun c1 => ?_) (fun c1 => ?_)
  · rw [if_pos c1] at hf
    refine z_ls [1] rfl ?_
    exact ke (y1, h) (Option.some.inj hf).symm
  · rw [if_neg c1] at hf
    refine z_aload_n 0 d_P_pagesToWrite_9 rfl rfl ?_
    refine z_iload_n 2 d_P_pagesToWrite_10 rfl rfl ?_
    obtain ⟨g2, hf⟩ := gd_some hf
    obtain ⟨v5, h3, ec4, hf⟩ := cl_some hf
    refine z_callVx rfl (c_P_needsRoot ec4) d_P_pagesToWrite_11 cw_P_needsRoot lk_P_66 im_P_needsRoot se_P_needsRoot (kc_K (isK_eq g2) kc_5) ⟨by decide, by decide⟩ (Nat.le_of_ble_eq_true rfl) rfl ?_
    refine z_if_eq (tgt := 20) d_P_pagesToWrite_14 (by decide) (fun c7 => ?_) (fun c7 => ?_)
    · rw [if_pos c7] at hf
      refine z_ls [0, 1, 2] rfl ?_
      exact zj_P_pagesToWrite_20_L4 hf kc ke
    · rw [if_neg c7] at hf
      refine z_iinc (ls2 := [(1, vi (y1 + (1 : Int32))), (0, vr (some y0)), (2, vi y2)]) 1 d_P_pagesToWrite_17 rfl rfl (by decide) rfl ?_
      refine z_ls [1, 0, 2] rfl ?_
      exact zj_P_pagesToWrite_20_L4 hf kc ke
set_option maxRecDepth 100000 in
set_option maxHeartbeats 4000000 in
theorem kb_P_pagesToWrite_4 {C : Ct} {mi : Nat} {y0 : Nat} {y1 : Int32} {y2 : Int32} {h : Hp} {q : ((Int32 × Int32 × Hp) ⊕ (Int32 × Hp))} (hf : b_P_pagesToWrite_4 y0 y1 y2 h = some q) : Keep W_P_pagesToWrite h (Sum.elim (fun s : Int32 × Int32 × Hp => s.2.2) (fun x : Int32 × Hp => x.2) q) := by
  unfold b_P_pagesToWrite_4 at hf
  rcases Classical.em ((nI 4) ≤ y2) with c1 | c1
  · rw [if_pos c1] at hf
    cases (Option.some.inj hf)
    exact (Keep.refl W_P_pagesToWrite _)
  · rw [if_neg c1] at hf
    obtain ⟨g2, hf⟩ := gd_some hf
    obtain ⟨v5, h3, ec4, hf⟩ := cl_some hf
    have K6 := (Keep.refl W_P_pagesToWrite _).trans ((fr_P_needsRoot (C := C) (mi := mi) ec4).mono (by decide) (by decide))
    rcases Classical.em (v5 = 0) with c7 | c7
    · rw [if_pos c7] at hf
      exact K6.trans (kj_P_pagesToWrite_20_L4 (C := C) (mi := mi) hf)
    · rw [if_neg c7] at hf
      exact K6.trans (kj_P_pagesToWrite_20_L4 (C := C) (mi := mi) hf)
def l_P_pagesToWrite_4 (y0 : Nat) (s : Int32 × Int32 × Hp) : Option (Int32 × Hp) := lp (fun s => b_P_pagesToWrite_4 y0 s.1 s.2.1 s.2.2) FU s
theorem zzl_P_pagesToWrite_4 {l : Launch} {C : Ct} {mi : Nat} {y0 : Nat} {h' : Hp} {v : Int32} : ∀ (n : Nat) (s : Int32 × Int32 × Hp) (x : (Int32 × Hp)), lp (fun s : Int32 × Int32 × Hp => b_P_pagesToWrite_4 y0 s.1 s.2.1 s.2.2) n s = some x → Z l C mi m_P_pagesToWrite 2 51 [(1, vi x.1)] [] x.2 (some (vi v)) h' → Z l C mi m_P_pagesToWrite 2 4 [(0, vr (some y0)), (1, vi s.1), (2, vi s.2.1)] [] s.2.2 (some (vi v)) h' := by
  intro n
  induction n with
  | zero => intro s x hl; cases hl
  | succ n ih =>
    intro s x hl ke
    rcases lp_some hl with ⟨s2, hb, hl2⟩ | hb
    · exact zb_P_pagesToWrite_4 hb (fun s3 e3 => by cases e3; refine z_ls [0, 1, 2] rfl ?_; exact ih s2 x hl2 ke) (fun x e3 => by cases e3)
    · exact zb_P_pagesToWrite_4 hb (fun s3 e3 => by cases e3) (fun x e3 => by cases e3; exact ke)
theorem zl_P_pagesToWrite_4 {l : Launch} {C : Ct} {mi : Nat} {y0 : Nat} {h' : Hp} {v : Int32} {s : Int32 × Int32 × Hp} {x : (Int32 × Hp)} (hl : l_P_pagesToWrite_4 y0 s = some x) (ke : Z l C mi m_P_pagesToWrite 2 51 [(1, vi x.1)] [] x.2 (some (vi v)) h') : Z l C mi m_P_pagesToWrite 2 4 [(0, vr (some y0)), (1, vi s.1), (2, vi s.2.1)] [] s.2.2 (some (vi v)) h' := zzl_P_pagesToWrite_4 FU s x hl ke
theorem kl_P_pagesToWrite_4 {C : Ct} {mi : Nat} {y0 : Nat} {s : Int32 × Int32 × Hp} {q : (Int32 × Hp)} (hl : l_P_pagesToWrite_4 y0 s = some q) : Keep W_P_pagesToWrite s.2.2 ((fun x : Int32 × Hp => x.2) q) := lpk (sh := (fun s : Int32 × Int32 × Hp => s.2.2)) (rh := (fun x : Int32 × Hp => x.2)) (fun s q hb => kb_P_pagesToWrite_4 (C := C) (mi := mi) hb) FU s q hl
def f_P_pagesToWrite (a0 : Nat) (h : Hp) : Option (Int32 × Hp) :=
  bd (l_P_pagesToWrite_4 a0 ((1 : Int32), (0 : Int32), h)) fun x18 => some (x18.1, x18.2)
set_option maxRecDepth 100000 in
set_option maxHeartbeats 4000000 in
theorem zf_P_pagesToWrite {l : Launch} {C : Ct} {mi : Nat} {a0 : Nat} {h h' : Hp} {v : Int32} (hf : f_P_pagesToWrite a0 h = some (v, h')) : Z l C mi m_P_pagesToWrite 2 0 [(0, vr (some a0))] [] h (some (vi v)) h' := by
  unfold f_P_pagesToWrite at hf
  refine z_iconst (v := (1 : Int32)) d_P_pagesToWrite_0 (by decide) ?_
  refine z_istore_n (ls2 := [(1, vi (1 : Int32)), (0, vr (some a0))]) d_P_pagesToWrite_1 rfl (by decide) rfl ?_
  refine z_iconst (v := (0 : Int32)) d_P_pagesToWrite_2 (by decide) ?_
  refine z_istore_n (ls2 := [(2, vi (0 : Int32)), (1, vi (1 : Int32)), (0, vr (some a0))]) d_P_pagesToWrite_3 rfl (by decide) rfl ?_
  obtain ⟨x18, el19, hf⟩ := bd_some hf
  refine z_ls [2, 1, 0] rfl ?_
  refine zl_P_pagesToWrite_4 el19 ?_
  refine z_iload_n 0 d_P_pagesToWrite_51 rfl rfl ?_
  obtain ⟨rfl, rfl⟩ := Prod.mk.inj (Option.some.inj hf)
  exact z_ret d_P_pagesToWrite_52 rfl
set_option maxRecDepth 100000 in
set_option maxHeartbeats 4000000 in
theorem fr_P_pagesToWrite {C : Ct} {mi : Nat} {a0 : Nat} {h h' : Hp} {v : Int32} (hf : f_P_pagesToWrite a0 h = some (v, h')) : Keep W_P_pagesToWrite h h' := by
  unfold f_P_pagesToWrite at hf
  obtain ⟨x18, el19, hf⟩ := bd_some hf
  have K20 := (Keep.refl W_P_pagesToWrite _).trans (kl_P_pagesToWrite_4 (C := C) (mi := mi) el19)
  obtain ⟨rfl, rfl⟩ := Prod.mk.inj (Option.some.inj hf)
  exact K20
theorem c_P_pagesToWrite {l : Launch} {C : Ct} {mi : Nat} {a0 : Nat} {h h' : Hp} {v : Int32} (hf : f_P_pagesToWrite a0 h = some (v, h')) : Mt l C mi m_P_pagesToWrite 2 [vr (some a0)] h (some (vi v)) h' := mt_I (ty := .int) rfl rfl rfl (by decide) (Nat.le_of_ble_eq_true rfl) (zf_P_pagesToWrite hf)
-- VersionMaps.blocksFor(I)I
def m_X_blocksFor : Mi := (⟨"VersionMaps", "blocksFor", "(I)I"⟩, prog_1_method_21_code, 1, (Option.some Jvm.ClassFile.FieldType.int), .ireturn)
theorem cw_X_blocksFor : cw_ok m_X_blocksFor 1 := ⟨by decide +kernel, by decide +kernel, by decide +kernel, by decide +kernel⟩
theorem d_X_blocksFor_0 : decode prog_1_method_21_code 0 = .ok (.iload_n 0, 1) := by decide +kernel
theorem d_X_blocksFor_1 : decode prog_1_method_21_code 1 = .ok (.iconst 2, 1) := by decide +kernel
theorem d_X_blocksFor_2 : decode prog_1_method_21_code 2 = .ok (.iadd, 1) := by decide +kernel
theorem d_X_blocksFor_3 : decode prog_1_method_21_code 3 = .ok (.iconst 1, 1) := by decide +kernel
theorem d_X_blocksFor_4 : decode prog_1_method_21_code 4 = .ok (.isub, 1) := by decide +kernel
theorem d_X_blocksFor_5 : decode prog_1_method_21_code 5 = .ok (.iconst 2, 1) := by decide +kernel
theorem d_X_blocksFor_6 : decode prog_1_method_21_code 6 = .ok (.idiv, 1) := by decide +kernel
theorem d_X_blocksFor_7 : decode prog_1_method_21_code 7 = .ok (.ireturn, 1) := by decide +kernel
def W_X_blocksFor : Wl := ([], [])
def f_X_blocksFor (p1 : Int32) (h : Hp) : Option (Int32 × Hp) :=
  some ((((p1 + (nI 2)) - (1 : Int32)) / (nI 2)), h)
set_option maxRecDepth 100000 in
set_option maxHeartbeats 4000000 in
theorem zf_X_blocksFor {l : Launch} {C : Ct} {mi : Nat} {p1 : Int32} {h h' : Hp} {v : Int32} (hf : f_X_blocksFor p1 h = some (v, h')) : Z l C mi m_X_blocksFor 0 0 [(0, vi p1)] [] h (some (vi v)) h' := by
  unfold f_X_blocksFor at hf
  refine z_iload_n 0 d_X_blocksFor_0 rfl rfl ?_
  refine z_iconst (v := (nI 2)) d_X_blocksFor_1 (by decide) ?_
  refine z_iadd d_X_blocksFor_2 ?_
  refine z_iconst (v := (1 : Int32)) d_X_blocksFor_3 (by decide) ?_
  refine z_isub d_X_blocksFor_4 ?_
  refine z_iconst (v := (nI 2)) d_X_blocksFor_5 (by decide) ?_
  refine z_idiv d_X_blocksFor_6 (by decide) ?_
  obtain ⟨rfl, rfl⟩ := Prod.mk.inj (Option.some.inj hf)
  exact z_ret d_X_blocksFor_7 rfl
set_option maxRecDepth 100000 in
set_option maxHeartbeats 4000000 in
theorem fr_X_blocksFor {C : Ct} {mi : Nat} {p1 : Int32} {h h' : Hp} {v : Int32} (hf : f_X_blocksFor p1 h = some (v, h')) : Keep W_X_blocksFor h h' := by
  unfold f_X_blocksFor at hf
  obtain ⟨rfl, rfl⟩ := Prod.mk.inj (Option.some.inj hf)
  exact (Keep.refl W_X_blocksFor _)
theorem c_X_blocksFor {l : Launch} {C : Ct} {mi : Nat} {p1 : Int32} {h h' : Hp} {v : Int32} (hf : f_X_blocksFor p1 h = some (v, h')) : Mt l C mi m_X_blocksFor 0 [vi p1] h (some (vi v)) h' := mt_I (ty := .int) rfl rfl rfl (by decide) (Nat.le_of_ble_eq_true rfl) (zf_X_blocksFor hf)
-- VersionMaps$Chunk.<init>(III)V
def m_K_init : Mi := (⟨"VersionMaps$Chunk", "<init>", "(III)V"⟩, prog_3_method_1_code, 4, (Option.none : Option Jvm.ClassFile.FieldType), .return_)
theorem cw_K_init : cw_ok m_K_init 3 := ⟨by decide +kernel, by decide +kernel, by decide +kernel, by decide +kernel⟩
theorem im_K_init : Cond.instanceMethod m_K_init.1 ∈ lw_w := by decide +kernel
theorem d_K_init_0 : decode prog_3_method_1_code 0 = .ok (.aload_n 0, 1) := by decide +kernel
theorem d_K_init_1 : decode prog_3_method_1_code 1 = .ok (.invokespecial 1, 3) := by decide +kernel
theorem d_K_init_4 : decode prog_3_method_1_code 4 = .ok (.aload_n 0, 1) := by decide +kernel
theorem d_K_init_5 : decode prog_3_method_1_code 5 = .ok (.iconst 0, 1) := by decide +kernel
theorem d_K_init_6 : decode prog_3_method_1_code 6 = .ok (.putfield 7, 3) := by decide +kernel
theorem d_K_init_9 : decode prog_3_method_1_code 9 = .ok (.aload_n 0, 1) := by decide +kernel
theorem d_K_init_10 : decode prog_3_method_1_code 10 = .ok (.aconst_null, 1) := by decide +kernel
theorem d_K_init_11 : decode prog_3_method_1_code 11 = .ok (.putfield 13, 3) := by decide +kernel
theorem d_K_init_14 : decode prog_3_method_1_code 14 = .ok (.aload_n 0, 1) := by decide +kernel
theorem d_K_init_15 : decode prog_3_method_1_code 15 = .ok (.iload_n 1, 1) := by decide +kernel
theorem d_K_init_16 : decode prog_3_method_1_code 16 = .ok (.putfield 17, 3) := by decide +kernel
theorem d_K_init_19 : decode prog_3_method_1_code 19 = .ok (.aload_n 0, 1) := by decide +kernel
theorem d_K_init_20 : decode prog_3_method_1_code 20 = .ok (.iload_n 2, 1) := by decide +kernel
theorem d_K_init_21 : decode prog_3_method_1_code 21 = .ok (.putfield 20, 3) := by decide +kernel
theorem d_K_init_24 : decode prog_3_method_1_code 24 = .ok (.aload_n 0, 1) := by decide +kernel
theorem d_K_init_25 : decode prog_3_method_1_code 25 = .ok (.iload_n 3, 1) := by decide +kernel
theorem d_K_init_26 : decode prog_3_method_1_code 26 = .ok (.anewarray 23, 3) := by decide +kernel
theorem d_K_init_29 : decode prog_3_method_1_code 29 = .ok (.putfield 25, 3) := by decide +kernel
theorem d_K_init_32 : decode prog_3_method_1_code 32 = .ok (.return_, 1) := by decide +kernel
def W_K_init : Wl := ([(2, 0), (2, 1), (2, 2), (2, 3), (2, 4)], [])
def f_K_init (a0 : Nat) (p1 : Int32) (p2 : Int32) (p3 : Int32) (h : Hp) : Option Hp :=
  gd (isK h a0 2) (nm (wI h a0 3 (0 : Int32)) fun h2 => nm (wR h2 a0 4 none) fun h5 => nm (wI h5 a0 0 p1) fun h8 => nm (wI h8 a0 1 p2) fun h11 => gd (lnB p3) (nm (nw h11 103 p3.toNatClampNeg p3.toNatClampNeg) fun h15 => gd (isK h15 a0 2) (nm (wR h15 a0 2 (some (hpN h11))) fun h19 => some h19)))
set_option maxRecDepth 100000 in
set_option maxHeartbeats 4000000 in
theorem zf_K_init {l : Launch} {C : Ct} {mi : Nat} {a0 : Nat} {p1 : Int32} {p2 : Int32} {p3 : Int32} {h h' : Hp} (hf : f_K_init a0 p1 p2 p3 h = some h') : Z l C mi m_K_init 1 0 [(0, vr (some a0)), (1, vi p1), (2, vi p2), (3, vi p3)] [] h none h' := by
  unfold f_K_init at hf
  refine z_aload_n 0 d_K_init_0 rfl rfl ?_
  refine z_oinit d_K_init_1 (by decide +kernel) rfl (by decide) (Nat.le_of_ble_eq_true rfl) ?_
  refine z_aload_n 0 d_K_init_4 rfl rfl ?_
  refine z_iconst (v := (0 : Int32)) d_K_init_5 (by decide) ?_
  obtain ⟨g1, hf⟩ := gd_some hf
  obtain ⟨h2, eh3, hf⟩ := nm_some hf
  refine z_putI d_K_init_6 (fl_K (isK_eq g1) fl_K_7_2) (pu_K (isK_eq g1) (fun q hq => by cases (Option.some.inj hq); exact Or.inl rfl)) (fi_K (isK_eq g1) rfl) rfl ?_
  refine z_hp eh3 ?_
  refine z_aload_n 0 d_K_init_9 rfl rfl ?_
  refine z_aconst_null d_K_init_10 ?_
  obtain ⟨h5, eh6, hf⟩ := nm_some hf
  refine z_putR d_K_init_11 (fl_K (isK_eq (isK_wI eh3 g1)) fl_K_13_2) (pu_K (isK_eq (isK_wI eh3 g1)) (fun q hq => by cases (Option.some.inj hq); exact Or.inl rfl)) (fi_K (isK_eq (isK_wI eh3 g1)) rfl) rfl ?_
  refine z_hp eh6 ?_
  refine z_aload_n 0 d_K_init_14 rfl rfl ?_
  refine z_iload_n 1 d_K_init_15 rfl rfl ?_
  obtain ⟨h8, eh9, hf⟩ := nm_some hf
  refine z_putI d_K_init_16 (fl_K (isK_eq (isK_wR eh6 (isK_wI eh3 g1))) fl_K_17_2) (pu_K (isK_eq (isK_wR eh6 (isK_wI eh3 g1))) (fun q hq => by cases (Option.some.inj hq); exact Or.inr ⟨rfl, rfl⟩)) (fi_K (isK_eq (isK_wR eh6 (isK_wI eh3 g1))) rfl) rfl ?_
  refine z_hp eh9 ?_
  refine z_aload_n 0 d_K_init_19 rfl rfl ?_
  refine z_iload_n 2 d_K_init_20 rfl rfl ?_
  obtain ⟨h11, eh12, hf⟩ := nm_some hf
  refine z_putI d_K_init_21 (fl_K (isK_eq (isK_wI eh9 (isK_wR eh6 (isK_wI eh3 g1)))) fl_K_20_2) (pu_K (isK_eq (isK_wI eh9 (isK_wR eh6 (isK_wI eh3 g1)))) (fun q hq => by cases (Option.some.inj hq); exact Or.inr ⟨rfl, rfl⟩)) (fi_K (isK_eq (isK_wI eh9 (isK_wR eh6 (isK_wI eh3 g1)))) rfl) rfl ?_
  refine z_hp eh12 ?_
  refine z_aload_n 0 d_K_init_24 rfl rfl ?_
  refine z_iload_n 3 d_K_init_25 rfl rfl ?_
  obtain ⟨g14, hf⟩ := gd_some hf
  obtain ⟨h15, eh16, hf⟩ := nm_some hf
  refine z_newR (N := p3.toNatClampNeg) (κ := 103) (t := 3) d_K_init_26 (by decide +kernel) (by decide +kernel) (by decide) (by decide) rfl (lnB_eq g14).1 rfl (lnB_eq g14).2 ?_
  refine z_hp eh16 ?_
  obtain ⟨g18, hf⟩ := gd_some hf
  obtain ⟨h19, eh20, hf⟩ := nm_some hf
  refine z_putR d_K_init_29 (fl_K (isK_eq g18) fl_K_25_2) (pu_K (isK_eq g18) (fun q hq => by cases (Option.some.inj hq); exact Or.inr ⟨rfl, rfl⟩)) (fi_K (isK_eq g18) rfl) rfl ?_
  refine z_hp eh20 ?_
  cases (Option.some.inj hf)
  exact z_ret d_K_init_32 rfl
set_option maxRecDepth 100000 in
set_option maxHeartbeats 4000000 in
theorem fr_K_init {C : Ct} {mi : Nat} {a0 : Nat} {p1 : Int32} {p2 : Int32} {p3 : Int32} {h h' : Hp} (hf : f_K_init a0 p1 p2 p3 h = some h') : Keep W_K_init h h' := by
  unfold f_K_init at hf
  obtain ⟨g1, hf⟩ := gd_some hf
  obtain ⟨h2, eh3, hf⟩ := nm_some hf
  have K4 := (Keep.refl W_K_init _).trans (kw_I eh3 (isK_eq g1) (Or.inl (by decide)))
  obtain ⟨h5, eh6, hf⟩ := nm_some hf
  have K7 := K4.trans (kw_R eh6 (isK_eq (isK_wI eh3 g1)) (Or.inl (by decide)))
  obtain ⟨h8, eh9, hf⟩ := nm_some hf
  have K10 := K7.trans (kw_I eh9 (isK_eq (isK_wR eh6 (isK_wI eh3 g1))) (Or.inl (by decide)))
  obtain ⟨h11, eh12, hf⟩ := nm_some hf
  have K13 := K10.trans (kw_I eh12 (isK_eq (isK_wI eh9 (isK_wR eh6 (isK_wI eh3 g1)))) (Or.inl (by decide)))
  obtain ⟨g14, hf⟩ := gd_some hf
  obtain ⟨h15, eh16, hf⟩ := nm_some hf
  have K17 := K13.trans (kw_N eh16)
  obtain ⟨g18, hf⟩ := gd_some hf
  obtain ⟨h19, eh20, hf⟩ := nm_some hf
  have K21 := K17.trans (kw_R eh20 (isK_eq g18) (Or.inl (by decide)))
  cases (Option.some.inj hf)
  exact K21
theorem c_K_init {l : Launch} {C : Ct} {mi : Nat} {a0 : Nat} {p1 : Int32} {p2 : Int32} {p3 : Int32} {h h' : Hp} (hf : f_K_init a0 p1 p2 p3 h = some h') : Mt l C mi m_K_init 1 [vr (some a0), vi p1, vi p2, vi p3] h none h' := mt_V rfl rfl (by decide) (Nat.le_of_ble_eq_true rfl) (zf_K_init hf)
-- VersionMaps$Page.<init>()V
def m_G_init : Mi := (⟨"VersionMaps$Page", "<init>", "()V"⟩, prog_6_method_1_code, 1, (Option.none : Option Jvm.ClassFile.FieldType), .return_)
theorem cw_G_init : cw_ok m_G_init 0 := ⟨by decide +kernel, by decide +kernel, by decide +kernel, by decide +kernel⟩
theorem im_G_init : Cond.instanceMethod m_G_init.1 ∈ lw_w := by decide +kernel
theorem d_G_init_0 : decode prog_6_method_1_code 0 = .ok (.aload_n 0, 1) := by decide +kernel
theorem d_G_init_1 : decode prog_6_method_1_code 1 = .ok (.invokespecial 1, 3) := by decide +kernel
theorem d_G_init_4 : decode prog_6_method_1_code 4 = .ok (.aload_n 0, 1) := by decide +kernel
theorem d_G_init_5 : decode prog_6_method_1_code 5 = .ok (.aconst_null, 1) := by decide +kernel
theorem d_G_init_6 : decode prog_6_method_1_code 6 = .ok (.putfield 7, 3) := by decide +kernel
theorem d_G_init_9 : decode prog_6_method_1_code 9 = .ok (.aload_n 0, 1) := by decide +kernel
theorem d_G_init_10 : decode prog_6_method_1_code 10 = .ok (.iconst 0, 1) := by decide +kernel
theorem d_G_init_11 : decode prog_6_method_1_code 11 = .ok (.putfield 13, 3) := by decide +kernel
theorem d_G_init_14 : decode prog_6_method_1_code 14 = .ok (.aload_n 0, 1) := by decide +kernel
theorem d_G_init_15 : decode prog_6_method_1_code 15 = .ok (.iconst 0, 1) := by decide +kernel
theorem d_G_init_16 : decode prog_6_method_1_code 16 = .ok (.putfield 17, 3) := by decide +kernel
theorem d_G_init_19 : decode prog_6_method_1_code 19 = .ok (.return_, 1) := by decide +kernel
def W_G_init : Wl := ([(3, 0), (3, 1), (3, 2), (4, 0), (4, 1), (4, 2), (6, 0), (6, 1), (6, 2)], [])
def f_G_init (a0 : Nat) (h : Hp) : Option Hp :=
  gd (isPg h a0) (nm (wR h a0 0 none) fun h2 => nm (wI h2 a0 1 (0 : Int32)) fun h5 => nm (wI h5 a0 2 (0 : Int32)) fun h8 => some h8)
set_option maxRecDepth 100000 in
set_option maxHeartbeats 4000000 in
theorem zf_G_init {l : Launch} {C : Ct} {mi : Nat} {a0 : Nat} {h h' : Hp} (hf : f_G_init a0 h = some h') : Z l C mi m_G_init 1 0 [(0, vr (some a0))] [] h none h' := by
  unfold f_G_init at hf
  refine z_aload_n 0 d_G_init_0 rfl rfl ?_
  refine z_oinit d_G_init_1 (by decide +kernel) rfl (by decide) (Nat.le_of_ble_eq_true rfl) ?_
  refine z_aload_n 0 d_G_init_4 rfl rfl ?_
  refine z_aconst_null d_G_init_5 ?_
  obtain ⟨g1, hf⟩ := gd_some hf
  obtain ⟨h2, eh3, hf⟩ := nm_some hf
  refine z_putR d_G_init_6 (fl_P g1 fl_G_7_3 fl_G_7_4 fl_G_7_6) (pu_P g1 (fun q hq => by cases (Option.some.inj hq); exact Or.inl rfl) (fun q hq => by cases (Option.some.inj hq); exact Or.inl rfl) (fun q hq => by cases (Option.some.inj hq); exact Or.inl rfl)) (fi_P g1 rfl rfl rfl) rfl ?_
  refine z_hp eh3 ?_
  refine z_aload_n 0 d_G_init_9 rfl rfl ?_
  refine z_iconst (v := (0 : Int32)) d_G_init_10 (by decide) ?_
  obtain ⟨h5, eh6, hf⟩ := nm_some hf
  refine z_putI d_G_init_11 (fl_P (isPg_wR eh3 g1) fl_G_13_3 fl_G_13_4 fl_G_13_6) (pu_P (isPg_wR eh3 g1) (fun q hq => by cases (Option.some.inj hq); exact Or.inl rfl) (fun q hq => by cases (Option.some.inj hq); exact Or.inl rfl) (fun q hq => by cases (Option.some.inj hq); exact Or.inl rfl)) (fi_P (isPg_wR eh3 g1) rfl rfl rfl) rfl ?_
  refine z_hp eh6 ?_
  refine z_aload_n 0 d_G_init_14 rfl rfl ?_
  refine z_iconst (v := (0 : Int32)) d_G_init_15 (by decide) ?_
  obtain ⟨h8, eh9, hf⟩ := nm_some hf
  refine z_putI d_G_init_16 (fl_P (isPg_wI eh6 (isPg_wR eh3 g1)) fl_G_17_3 fl_G_17_4 fl_G_17_6) (pu_P (isPg_wI eh6 (isPg_wR eh3 g1)) (fun q hq => by cases (Option.some.inj hq); exact Or.inl rfl) (fun q hq => by cases (Option.some.inj hq); exact Or.inl rfl) (fun q hq => by cases (Option.some.inj hq); exact Or.inl rfl)) (fi_P (isPg_wI eh6 (isPg_wR eh3 g1)) rfl rfl rfl) rfl ?_
  refine z_hp eh9 ?_
  cases (Option.some.inj hf)
  exact z_ret d_G_init_19 rfl
set_option maxRecDepth 100000 in
set_option maxHeartbeats 4000000 in
theorem fr_G_init {C : Ct} {mi : Nat} {a0 : Nat} {h h' : Hp} (hf : f_G_init a0 h = some h') : Keep W_G_init h h' := by
  unfold f_G_init at hf
  obtain ⟨g1, hf⟩ := gd_some hf
  obtain ⟨h2, eh3, hf⟩ := nm_some hf
  have K4 := (Keep.refl W_G_init _).trans (kw_RP eh3 g1 (Or.inl (by decide)) (Or.inl (by decide)) (Or.inl (by decide)))
  obtain ⟨h5, eh6, hf⟩ := nm_some hf
  have K7 := K4.trans (kw_IP eh6 (isPg_wR eh3 g1) (Or.inl (by decide)) (Or.inl (by decide)) (Or.inl (by decide)))
  obtain ⟨h8, eh9, hf⟩ := nm_some hf
  have K10 := K7.trans (kw_IP eh9 (isPg_wI eh6 (isPg_wR eh3 g1)) (Or.inl (by decide)) (Or.inl (by decide)) (Or.inl (by decide)))
  cases (Option.some.inj hf)
  exact K10
theorem c_G_init {l : Launch} {C : Ct} {mi : Nat} {a0 : Nat} {h h' : Hp} (hf : f_G_init a0 h = some h') : Mt l C mi m_G_init 1 [vr (some a0)] h none h' := mt_V rfl rfl (by decide) (Nat.le_of_ble_eq_true rfl) (zf_G_init hf)
-- VersionMaps$Meta.<init>(I)V
def m_E_init : Mi := (⟨"VersionMaps$Meta", "<init>", "(I)V"⟩, prog_5_method_1_code, 2, (Option.none : Option Jvm.ClassFile.FieldType), .return_)
theorem cw_E_init : cw_ok m_E_init 1 := ⟨by decide +kernel, by decide +kernel, by decide +kernel, by decide +kernel⟩
theorem im_E_init : Cond.instanceMethod m_E_init.1 ∈ lw_w := by decide +kernel
theorem d_E_init_0 : decode prog_5_method_1_code 0 = .ok (.aload_n 0, 1) := by decide +kernel
theorem d_E_init_1 : decode prog_5_method_1_code 1 = .ok (.invokespecial 3, 3) := by decide +kernel
theorem d_E_init_4 : decode prog_5_method_1_code 4 = .ok (.aload_n 0, 1) := by decide +kernel
theorem d_E_init_5 : decode prog_5_method_1_code 5 = .ok (.iconst 4, 1) := by decide +kernel
theorem d_E_init_6 : decode prog_5_method_1_code 6 = .ok (.anewarray 9, 3) := by decide +kernel
theorem d_E_init_9 : decode prog_5_method_1_code 9 = .ok (.putfield 11, 3) := by decide +kernel
theorem d_E_init_12 : decode prog_5_method_1_code 12 = .ok (.aload_n 0, 1) := by decide +kernel
theorem d_E_init_13 : decode prog_5_method_1_code 13 = .ok (.iload_n 1, 1) := by decide +kernel
theorem d_E_init_14 : decode prog_5_method_1_code 14 = .ok (.putfield 17, 3) := by decide +kernel
theorem d_E_init_17 : decode prog_5_method_1_code 17 = .ok (.return_, 1) := by decide +kernel
def W_E_init : Wl := ([(3, 0), (3, 1), (3, 2), (4, 0), (4, 1), (4, 2), (4, 3), (4, 4), (6, 0), (6, 1), (6, 2)], [])
def f_E_init (a0 : Nat) (p1 : Int32) (h : Hp) : Option Hp :=
  cv (f_G_init a0 h) fun h1 => nm (nw h1 104 4 4) fun h4 => gd (isK h4 a0 4) (nm (wR h4 a0 4 (some (hpN h1))) fun h8 => nm (wI h8 a0 3 p1) fun h11 => some h11)
set_option maxRecDepth 100000 in
set_option maxHeartbeats 4000000 in
theorem zf_E_init {l : Launch} {C : Ct} {mi : Nat} {a0 : Nat} {p1 : Int32} {h h' : Hp} (hf : f_E_init a0 p1 h = some h') : Z l C mi m_E_init 2 0 [(0, vr (some a0)), (1, vi p1)] [] h none h' := by
  unfold f_E_init at hf
  refine z_aload_n 0 d_E_init_0 rfl rfl ?_
  obtain ⟨h1, ec2, hf⟩ := cv_some hf
  refine z_callIN (host := "VersionMaps") (c_G_init ec2) d_E_init_1 rfl cw_G_init lk_E_3 im_G_init rfl ⟨by decide, by decide⟩ (Nat.le_of_ble_eq_true rfl) rfl ?_
  refine z_aload_n 0 d_E_init_4 rfl rfl ?_
  refine z_iconst (v := (nI 4)) d_E_init_5 (by decide) ?_
  obtain ⟨h4, eh5, hf⟩ := nm_some hf
  refine z_newR (N := 4) (κ := 104) (t := 4) d_E_init_6 (by decide +kernel) (by decide +kernel) (by decide) (by decide) rfl (by decide) (by decide) (by decide) ?_
  refine z_hp eh5 ?_
  obtain ⟨g7, hf⟩ := gd_some hf
  obtain ⟨h8, eh9, hf⟩ := nm_some hf
  refine z_putR d_E_init_9 (fl_K (isK_eq g7) fl_E_11_4) (pu_K (isK_eq g7) (fun q hq => by cases (Option.some.inj hq); exact Or.inr ⟨rfl, rfl⟩)) (fi_K (isK_eq g7) rfl) rfl ?_
  refine z_hp eh9 ?_
  refine z_aload_n 0 d_E_init_12 rfl rfl ?_
  refine z_iload_n 1 d_E_init_13 rfl rfl ?_
  obtain ⟨h11, eh12, hf⟩ := nm_some hf
  refine z_putI d_E_init_14 (fl_K (isK_eq (isK_wR eh9 g7)) fl_E_17_4) (pu_K (isK_eq (isK_wR eh9 g7)) (fun q hq => by cases (Option.some.inj hq); exact Or.inr ⟨rfl, rfl⟩)) (fi_K (isK_eq (isK_wR eh9 g7)) rfl) rfl ?_
  refine z_hp eh12 ?_
  cases (Option.some.inj hf)
  exact z_ret d_E_init_17 rfl
set_option maxRecDepth 100000 in
set_option maxHeartbeats 4000000 in
theorem fr_E_init {C : Ct} {mi : Nat} {a0 : Nat} {p1 : Int32} {h h' : Hp} (hf : f_E_init a0 p1 h = some h') : Keep W_E_init h h' := by
  unfold f_E_init at hf
  obtain ⟨h1, ec2, hf⟩ := cv_some hf
  have K3 := (Keep.refl W_E_init _).trans ((fr_G_init (C := C) (mi := mi) ec2).mono (by decide) (by decide))
  obtain ⟨h4, eh5, hf⟩ := nm_some hf
  have K6 := K3.trans (kw_N eh5)
  obtain ⟨g7, hf⟩ := gd_some hf
  obtain ⟨h8, eh9, hf⟩ := nm_some hf
  have K10 := K6.trans (kw_R eh9 (isK_eq g7) (Or.inl (by decide)))
  obtain ⟨h11, eh12, hf⟩ := nm_some hf
  have K13 := K10.trans (kw_I eh12 (isK_eq (isK_wR eh9 g7)) (Or.inl (by decide)))
  cases (Option.some.inj hf)
  exact K13
theorem c_E_init {l : Launch} {C : Ct} {mi : Nat} {a0 : Nat} {p1 : Int32} {h h' : Hp} (hf : f_E_init a0 p1 h = some h') : Mt l C mi m_E_init 2 [vr (some a0), vi p1] h none h' := mt_V rfl rfl (by decide) (Nat.le_of_ble_eq_true rfl) (zf_E_init hf)
-- VersionMaps$Root.<init>()V
def m_O_init : Mi := (⟨"VersionMaps$Root", "<init>", "()V"⟩, prog_8_method_1_code, 1, (Option.none : Option Jvm.ClassFile.FieldType), .return_)
theorem cw_O_init : cw_ok m_O_init 0 := ⟨by decide +kernel, by decide +kernel, by decide +kernel, by decide +kernel⟩
theorem im_O_init : Cond.instanceMethod m_O_init.1 ∈ lw_w := by decide +kernel
theorem d_O_init_0 : decode prog_8_method_1_code 0 = .ok (.aload_n 0, 1) := by decide +kernel
theorem d_O_init_1 : decode prog_8_method_1_code 1 = .ok (.invokespecial 3, 3) := by decide +kernel
theorem d_O_init_4 : decode prog_8_method_1_code 4 = .ok (.aload_n 0, 1) := by decide +kernel
theorem d_O_init_5 : decode prog_8_method_1_code 5 = .ok (.iconst 4, 1) := by decide +kernel
theorem d_O_init_6 : decode prog_8_method_1_code 6 = .ok (.anewarray 9, 3) := by decide +kernel
theorem d_O_init_9 : decode prog_8_method_1_code 9 = .ok (.putfield 11, 3) := by decide +kernel
theorem d_O_init_12 : decode prog_8_method_1_code 12 = .ok (.return_, 1) := by decide +kernel
def W_O_init : Wl := ([(3, 0), (3, 1), (3, 2), (4, 0), (4, 1), (4, 2), (6, 0), (6, 1), (6, 2), (6, 3)], [])
def f_O_init (a0 : Nat) (h : Hp) : Option Hp :=
  cv (f_G_init a0 h) fun h1 => nm (nw h1 105 4 4) fun h4 => gd (isK h4 a0 6) (nm (wR h4 a0 3 (some (hpN h1))) fun h8 => some h8)
set_option maxRecDepth 100000 in
set_option maxHeartbeats 4000000 in
theorem zf_O_init {l : Launch} {C : Ct} {mi : Nat} {a0 : Nat} {h h' : Hp} (hf : f_O_init a0 h = some h') : Z l C mi m_O_init 2 0 [(0, vr (some a0))] [] h none h' := by
  unfold f_O_init at hf
  refine z_aload_n 0 d_O_init_0 rfl rfl ?_
  obtain ⟨h1, ec2, hf⟩ := cv_some hf
  refine z_callIN (host := "VersionMaps") (c_G_init ec2) d_O_init_1 rfl cw_G_init lk_O_3 im_G_init rfl ⟨by decide, by decide⟩ (Nat.le_of_ble_eq_true rfl) rfl ?_
  refine z_aload_n 0 d_O_init_4 rfl rfl ?_
  refine z_iconst (v := (nI 4)) d_O_init_5 (by decide) ?_
  obtain ⟨h4, eh5, hf⟩ := nm_some hf
  refine z_newR (N := 4) (κ := 105) (t := 5) d_O_init_6 (by decide +kernel) (by decide +kernel) (by decide) (by decide) rfl (by decide) (by decide) (by decide) ?_
  refine z_hp eh5 ?_
  obtain ⟨g7, hf⟩ := gd_some hf
  obtain ⟨h8, eh9, hf⟩ := nm_some hf
  refine z_putR d_O_init_9 (fl_K (isK_eq g7) fl_O_11_6) (pu_K (isK_eq g7) (fun q hq => by cases (Option.some.inj hq); exact Or.inr ⟨rfl, rfl⟩)) (fi_K (isK_eq g7) rfl) rfl ?_
  refine z_hp eh9 ?_
  cases (Option.some.inj hf)
  exact z_ret d_O_init_12 rfl
set_option maxRecDepth 100000 in
set_option maxHeartbeats 4000000 in
theorem fr_O_init {C : Ct} {mi : Nat} {a0 : Nat} {h h' : Hp} (hf : f_O_init a0 h = some h') : Keep W_O_init h h' := by
  unfold f_O_init at hf
  obtain ⟨h1, ec2, hf⟩ := cv_some hf
  have K3 := (Keep.refl W_O_init _).trans ((fr_G_init (C := C) (mi := mi) ec2).mono (by decide) (by decide))
  obtain ⟨h4, eh5, hf⟩ := nm_some hf
  have K6 := K3.trans (kw_N eh5)
  obtain ⟨g7, hf⟩ := gd_some hf
  obtain ⟨h8, eh9, hf⟩ := nm_some hf
  have K10 := K6.trans (kw_R eh9 (isK_eq g7) (Or.inl (by decide)))
  cases (Option.some.inj hf)
  exact K10
theorem c_O_init {l : Launch} {C : Ct} {mi : Nat} {a0 : Nat} {h h' : Hp} (hf : f_O_init a0 h = some h') : Mt l C mi m_O_init 2 [vr (some a0)] h none h' := mt_V rfl rfl (by decide) (Nat.le_of_ble_eq_true rfl) (zf_O_init hf)
-- VersionMaps$Leaf.<init>()V
def m_L_init : Mi := (⟨"VersionMaps$Leaf", "<init>", "()V"⟩, prog_4_method_1_code, 1, (Option.none : Option Jvm.ClassFile.FieldType), .return_)
theorem cw_L_init : cw_ok m_L_init 0 := ⟨by decide +kernel, by decide +kernel, by decide +kernel, by decide +kernel⟩
theorem im_L_init : Cond.instanceMethod m_L_init.1 ∈ lw_w := by decide +kernel
theorem d_L_init_0 : decode prog_4_method_1_code 0 = .ok (.aload_n 0, 1) := by decide +kernel
theorem d_L_init_1 : decode prog_4_method_1_code 1 = .ok (.invokespecial 3, 3) := by decide +kernel
theorem d_L_init_4 : decode prog_4_method_1_code 4 = .ok (.aload_n 0, 1) := by decide +kernel
theorem d_L_init_5 : decode prog_4_method_1_code 5 = .ok (.bipush 8, 2) := by decide +kernel
theorem d_L_init_7 : decode prog_4_method_1_code 7 = .ok (.newarray .int, 2) := by decide +kernel
theorem d_L_init_9 : decode prog_4_method_1_code 9 = .ok (.putfield 9, 3) := by decide +kernel
theorem d_L_init_12 : decode prog_4_method_1_code 12 = .ok (.aload_n 0, 1) := by decide +kernel
theorem d_L_init_13 : decode prog_4_method_1_code 13 = .ok (.iconst 0, 1) := by decide +kernel
theorem d_L_init_14 : decode prog_4_method_1_code 14 = .ok (.putfield 15, 3) := by decide +kernel
theorem d_L_init_17 : decode prog_4_method_1_code 17 = .ok (.return_, 1) := by decide +kernel
def W_L_init : Wl := ([(3, 0), (3, 1), (3, 2), (3, 3), (3, 4), (4, 0), (4, 1), (4, 2), (6, 0), (6, 1), (6, 2)], [])
def f_L_init (a0 : Nat) (h : Hp) : Option Hp :=
  cv (f_G_init a0 h) fun h1 => nm (nw h1 106 8 8) fun h4 => gd (isK h4 a0 3) (nm (wR h4 a0 3 (some (hpN h1))) fun h8 => nm (wI h8 a0 4 (0 : Int32)) fun h11 => some h11)
set_option maxRecDepth 100000 in
set_option maxHeartbeats 4000000 in
theorem zf_L_init {l : Launch} {C : Ct} {mi : Nat} {a0 : Nat} {h h' : Hp} (hf : f_L_init a0 h = some h') : Z l C mi m_L_init 2 0 [(0, vr (some a0))] [] h none h' := by
  unfold f_L_init at hf
  refine z_aload_n 0 d_L_init_0 rfl rfl ?_
  obtain ⟨h1, ec2, hf⟩ := cv_some hf
  refine z_callIN (host := "VersionMaps") (c_G_init ec2) d_L_init_1 rfl cw_G_init lk_L_3 im_G_init rfl ⟨by decide, by decide⟩ (Nat.le_of_ble_eq_true rfl) rfl ?_
  refine z_aload_n 0 d_L_init_4 rfl rfl ?_
  refine z_bipush (v := (nI 8)) d_L_init_5 (by decide) ?_
  obtain ⟨h4, eh5, hf⟩ := nm_some hf
  refine z_newI (N := 8) (κ := 106) d_L_init_7 (by decide) rfl (by decide) (by decide) (by decide) ?_
  refine z_hp eh5 ?_
  obtain ⟨g7, hf⟩ := gd_some hf
  obtain ⟨h8, eh9, hf⟩ := nm_some hf
  refine z_putR d_L_init_9 (fl_K (isK_eq g7) fl_L_9_3) (pu_K (isK_eq g7) (fun q hq => by cases (Option.some.inj hq); exact Or.inr ⟨rfl, rfl⟩)) (fi_K (isK_eq g7) rfl) rfl ?_
  refine z_hp eh9 ?_
  refine z_aload_n 0 d_L_init_12 rfl rfl ?_
  refine z_iconst (v := (0 : Int32)) d_L_init_13 (by decide) ?_
  obtain ⟨h11, eh12, hf⟩ := nm_some hf
  refine z_putI d_L_init_14 (fl_K (isK_eq (isK_wR eh9 g7)) fl_L_15_3) (pu_K (isK_eq (isK_wR eh9 g7)) (fun q hq => by cases (Option.some.inj hq); exact Or.inl rfl)) (fi_K (isK_eq (isK_wR eh9 g7)) rfl) rfl ?_
  refine z_hp eh12 ?_
  cases (Option.some.inj hf)
  exact z_ret d_L_init_17 rfl
set_option maxRecDepth 100000 in
set_option maxHeartbeats 4000000 in
theorem fr_L_init {C : Ct} {mi : Nat} {a0 : Nat} {h h' : Hp} (hf : f_L_init a0 h = some h') : Keep W_L_init h h' := by
  unfold f_L_init at hf
  obtain ⟨h1, ec2, hf⟩ := cv_some hf
  have K3 := (Keep.refl W_L_init _).trans ((fr_G_init (C := C) (mi := mi) ec2).mono (by decide) (by decide))
  obtain ⟨h4, eh5, hf⟩ := nm_some hf
  have K6 := K3.trans (kw_N eh5)
  obtain ⟨g7, hf⟩ := gd_some hf
  obtain ⟨h8, eh9, hf⟩ := nm_some hf
  have K10 := K6.trans (kw_R eh9 (isK_eq g7) (Or.inl (by decide)))
  obtain ⟨h11, eh12, hf⟩ := nm_some hf
  have K13 := K10.trans (kw_I eh12 (isK_eq (isK_wR eh9 g7)) (Or.inl (by decide)))
  cases (Option.some.inj hf)
  exact K13
theorem c_L_init {l : Launch} {C : Ct} {mi : Nat} {a0 : Nat} {h h' : Hp} (hf : f_L_init a0 h = some h') : Mt l C mi m_L_init 2 [vr (some a0)] h none h' := mt_V rfl rfl (by decide) (Nat.le_of_ble_eq_true rfl) (zf_L_init hf)
-- VersionMaps$Chunk.append(LVersionMaps$Page;)V
def m_K_append : Mi := (⟨"VersionMaps$Chunk", "append", "(LVersionMaps$Page;)V"⟩, prog_3_method_2_code, 2, (Option.none : Option Jvm.ClassFile.FieldType), .return_)
theorem cw_K_append : cw_ok m_K_append 1 := ⟨by decide +kernel, by decide +kernel, by decide +kernel, by decide +kernel⟩
theorem im_K_append : Cond.instanceMethod m_K_append.1 ∈ lw_w := by decide +kernel
theorem se_K_append : Cond.selects "VersionMaps$Chunk" m_K_append.1 m_K_append.1 ∈ lw_w := by decide +kernel
theorem d_K_append_0 : decode prog_3_method_2_code 0 = .ok (.aload_n 1, 1) := by decide +kernel
theorem d_K_append_1 : decode prog_3_method_2_code 1 = .ok (.aload_n 0, 1) := by decide +kernel
theorem d_K_append_2 : decode prog_3_method_2_code 2 = .ok (.putfield 29, 3) := by decide +kernel
theorem d_K_append_5 : decode prog_3_method_2_code 5 = .ok (.aload_n 1, 1) := by decide +kernel
theorem d_K_append_6 : decode prog_3_method_2_code 6 = .ok (.aload_n 0, 1) := by decide +kernel
theorem d_K_append_7 : decode prog_3_method_2_code 7 = .ok (.getfield 7, 3) := by decide +kernel
theorem d_K_append_10 : decode prog_3_method_2_code 10 = .ok (.putfield 33, 3) := by decide +kernel
theorem d_K_append_13 : decode prog_3_method_2_code 13 = .ok (.aload_n 0, 1) := by decide +kernel
theorem d_K_append_14 : decode prog_3_method_2_code 14 = .ok (.getfield 25, 3) := by decide +kernel
theorem d_K_append_17 : decode prog_3_method_2_code 17 = .ok (.aload_n 0, 1) := by decide +kernel
theorem d_K_append_18 : decode prog_3_method_2_code 18 = .ok (.getfield 7, 3) := by decide +kernel
theorem d_K_append_21 : decode prog_3_method_2_code 21 = .ok (.aload_n 1, 1) := by decide +kernel
theorem d_K_append_22 : decode prog_3_method_2_code 22 = .ok (.aastore, 1) := by decide +kernel
theorem d_K_append_23 : decode prog_3_method_2_code 23 = .ok (.aload_n 0, 1) := by decide +kernel
theorem d_K_append_24 : decode prog_3_method_2_code 24 = .ok (.dup, 1) := by decide +kernel
theorem d_K_append_25 : decode prog_3_method_2_code 25 = .ok (.getfield 7, 3) := by decide +kernel
theorem d_K_append_28 : decode prog_3_method_2_code 28 = .ok (.iconst 1, 1) := by decide +kernel
theorem d_K_append_29 : decode prog_3_method_2_code 29 = .ok (.iadd, 1) := by decide +kernel
theorem d_K_append_30 : decode prog_3_method_2_code 30 = .ok (.putfield 7, 3) := by decide +kernel
theorem d_K_append_33 : decode prog_3_method_2_code 33 = .ok (.return_, 1) := by decide +kernel
def W_K_append : Wl := ([(2, 3), (3, 0), (3, 1), (4, 0), (4, 1), (6, 0), (6, 1)], [103])
def f_K_append (a0 : Nat) (p1 : Option Nat) (h : Hp) : Option Hp :=
  dr p1 fun a1 => gd (isPg h a1) (nm (wR h a1 0 (some a0)) fun h4 => gd (isK h4 a0 2) (nm (wI h4 a1 1 (hpI h4 a0 3)) fun h8 => dr (hpR h8 a0 2) fun a11 => gd (isK h8 a11 103) (gd (inb (hpI h8 a0 3) (hpL h8 a11)) (gd (asV h8 p1 a11) (nm (wR h8 a11 (hpI h8 a0 3).toNatClampNeg p1) fun h16 => nm (wI h16 a0 3 ((hpI h16 a0 3) + (1 : Int32))) fun h19 => some h19)))))
set_option maxRecDepth 100000 in
set_option maxHeartbeats 4000000 in
theorem zf_K_append {l : Launch} {C : Ct} {mi : Nat} {a0 : Nat} {p1 : Option Nat} {h h' : Hp} (hf : f_K_append a0 p1 h = some h') : Z l C mi m_K_append 0 0 [(0, vr (some a0)), (1, vr p1)] [] h none h' := by
  unfold f_K_append at hf
  refine z_aload_n 1 d_K_append_0 rfl rfl ?_
  refine z_aload_n 0 d_K_append_1 rfl rfl ?_
  obtain ⟨a1, e2, hf⟩ := dr_some hf
  obtain ⟨g3, hf⟩ := gd_some hf
  obtain ⟨h4, eh5, hf⟩ := nm_some hf
  refine z_putR d_K_append_2 (fl_P g3 fl_K_29_3 fl_K_29_4 fl_K_29_6) (pu_P g3 (fun q hq => by cases (Option.some.inj hq); exact Or.inl rfl) (fun q hq => by cases (Option.some.inj hq); exact Or.inl rfl) (fun q hq => by cases (Option.some.inj hq); exact Or.inl rfl)) (fi_P g3 rfl rfl rfl) e2 ?_
  refine z_hp eh5 ?_
  refine z_aload_n 1 d_K_append_5 rfl rfl ?_
  refine z_aload_n 0 d_K_append_6 rfl rfl ?_
  obtain ⟨g7, hf⟩ := gd_some hf
  refine z_getI d_K_append_7 (fl_K (isK_eq g7) fl_K_7_2) (fi_K (isK_eq g7) rfl) rfl ?_
  obtain ⟨h8, eh9, hf⟩ := nm_some hf
  refine z_putI d_K_append_10 (fl_P (isPg_wR eh5 g3) fl_K_33_3 fl_K_33_4 fl_K_33_6) (pu_P (isPg_wR eh5 g3) (fun q hq => by cases (Option.some.inj hq); exact Or.inl rfl) (fun q hq => by cases (Option.some.inj hq); exact Or.inl rfl) (fun q hq => by cases (Option.some.inj hq); exact Or.inl rfl)) (fi_P (isPg_wR eh5 g3) rfl rfl rfl) e2 ?_
  refine z_hp eh9 ?_
  refine z_aload_n 0 d_K_append_13 rfl rfl ?_
  refine z_getR d_K_append_14 (fl_K (isK_eq (isK_wI eh9 g7)) fl_K_25_2) (fi_K (isK_eq (isK_wI eh9 g7)) rfl) rfl ?_
  refine z_aload_n 0 d_K_append_17 rfl rfl ?_
  refine z_getI d_K_append_18 (fl_K (isK_eq (isK_wI eh9 g7)) fl_K_7_2) (fi_K (isK_eq (isK_wI eh9 g7)) rfl) rfl ?_
  refine z_aload_n 1 d_K_append_21 rfl rfl ?_
  obtain ⟨a11, e12, hf⟩ := dr_some hf
  obtain ⟨g13, hf⟩ := gd_some hf
  obtain ⟨g14, hf⟩ := gd_some hf
  obtain ⟨g15, hf⟩ := gd_some hf
  obtain ⟨h16, eh17, hf⟩ := nm_some hf
  refine z_aast d_K_append_22 e12 (by rw [isK_eq g13]; decide) (by rw [isK_eq g13]; decide) (asV_ok g15) (inb_vp g14) ?_
  refine z_hp eh17 ?_
  refine z_aload_n 0 d_K_append_23 rfl rfl ?_
  refine z_dup d_K_append_24 rfl ?_
  refine z_getI d_K_append_25 (fl_K (isK_eq (isK_wR eh17 (isK_wI eh9 g7))) fl_K_7_2) (fi_K (isK_eq (isK_wR eh17 (isK_wI eh9 g7))) rfl) rfl ?_
  refine z_iconst (v := (1 : Int32)) d_K_append_28 (by decide) ?_
  refine z_iadd d_K_append_29 ?_
  obtain ⟨h19, eh20, hf⟩ := nm_some hf
  refine z_putI d_K_append_30 (fl_K (isK_eq (isK_wR eh17 (isK_wI eh9 g7))) fl_K_7_2) (pu_K (isK_eq (isK_wR eh17 (isK_wI eh9 g7))) (fun q hq => by cases (Option.some.inj hq); exact Or.inl rfl)) (fi_K (isK_eq (isK_wR eh17 (isK_wI eh9 g7))) rfl) rfl ?_
  refine z_hp eh20 ?_
  cases (Option.some.inj hf)
  exact z_ret d_K_append_33 rfl
set_option maxRecDepth 100000 in
set_option maxHeartbeats 4000000 in
theorem fr_K_append {C : Ct} {mi : Nat} {a0 : Nat} {p1 : Option Nat} {h h' : Hp} (hf : f_K_append a0 p1 h = some h') : Keep W_K_append h h' := by
  unfold f_K_append at hf
  obtain ⟨a1, e2, hf⟩ := dr_some hf
  obtain ⟨g3, hf⟩ := gd_some hf
  obtain ⟨h4, eh5, hf⟩ := nm_some hf
  have K6 := (Keep.refl W_K_append _).trans (kw_RP eh5 g3 (Or.inl (by decide)) (Or.inl (by decide)) (Or.inl (by decide)))
  obtain ⟨g7, hf⟩ := gd_some hf
  obtain ⟨h8, eh9, hf⟩ := nm_some hf
  have K10 := K6.trans (kw_IP eh9 (isPg_wR eh5 g3) (Or.inl (by decide)) (Or.inl (by decide)) (Or.inl (by decide)))
  obtain ⟨a11, e12, hf⟩ := dr_some hf
  obtain ⟨g13, hf⟩ := gd_some hf
  obtain ⟨g14, hf⟩ := gd_some hf
  obtain ⟨g15, hf⟩ := gd_some hf
  obtain ⟨h16, eh17, hf⟩ := nm_some hf
  have K18 := K10.trans (kw_R eh17 (isK_eq g13) (Or.inr (by decide)))
  obtain ⟨h19, eh20, hf⟩ := nm_some hf
  have K21 := K18.trans (kw_I eh20 (isK_eq (isK_wR eh17 (isK_wI eh9 g7))) (Or.inl (by decide)))
  cases (Option.some.inj hf)
  exact K21
theorem c_K_append {l : Launch} {C : Ct} {mi : Nat} {a0 : Nat} {p1 : Option Nat} {h h' : Hp} (hf : f_K_append a0 p1 h = some h') : Mt l C mi m_K_append 0 [vr (some a0), vr p1] h none h' := mt_V rfl rfl (by decide) (Nat.le_of_ble_eq_true rfl) (zf_K_append hf)
-- VersionMaps$Present.writeLeaf(LVersionMaps$Chunk;II)LVersionMaps$Leaf;
def m_P_writeLeaf : Mi := (⟨"VersionMaps$Present", "writeLeaf", "(LVersionMaps$Chunk;II)LVersionMaps$Leaf;"⟩, prog_7_method_14_code, 5, (Option.some (Jvm.ClassFile.FieldType.object "VersionMaps$Leaf")), .areturn)
theorem cw_P_writeLeaf : cw_ok m_P_writeLeaf 3 := ⟨by decide +kernel, by decide +kernel, by decide +kernel, by decide +kernel⟩
theorem im_P_writeLeaf : Cond.instanceMethod m_P_writeLeaf.1 ∈ lw_w := by decide +kernel
theorem se_P_writeLeaf : Cond.selects "VersionMaps$Present" m_P_writeLeaf.1 m_P_writeLeaf.1 ∈ lw_w := by decide +kernel
theorem d_P_writeLeaf_0 : decode prog_7_method_14_code 0 = .ok (.new 52, 3) := by decide +kernel
theorem d_P_writeLeaf_3 : decode prog_7_method_14_code 3 = .ok (.dup, 1) := by decide +kernel
theorem d_P_writeLeaf_4 : decode prog_7_method_14_code 4 = .ok (.invokespecial 106, 3) := by decide +kernel
theorem d_P_writeLeaf_7 : decode prog_7_method_14_code 7 = .ok (.astore 4, 2) := by decide +kernel
theorem d_P_writeLeaf_9 : decode prog_7_method_14_code 9 = .ok (.aload 4, 2) := by decide +kernel
theorem d_P_writeLeaf_11 : decode prog_7_method_14_code 11 = .ok (.aload_n 0, 1) := by decide +kernel
theorem d_P_writeLeaf_12 : decode prog_7_method_14_code 12 = .ok (.iload_n 2, 1) := by decide +kernel
theorem d_P_writeLeaf_13 : decode prog_7_method_14_code 13 = .ok (.iload_n 3, 1) := by decide +kernel
theorem d_P_writeLeaf_14 : decode prog_7_method_14_code 14 = .ok (.invokevirtual 107, 3) := by decide +kernel
theorem d_P_writeLeaf_17 : decode prog_7_method_14_code 17 = .ok (.putfield 57, 3) := by decide +kernel
theorem d_P_writeLeaf_20 : decode prog_7_method_14_code 20 = .ok (.aload_n 0, 1) := by decide +kernel
theorem d_P_writeLeaf_21 : decode prog_7_method_14_code 21 = .ok (.getfield 9, 3) := by decide +kernel
theorem d_P_writeLeaf_24 : decode prog_7_method_14_code 24 = .ok (.bipush 32, 2) := by decide +kernel
theorem d_P_writeLeaf_26 : decode prog_7_method_14_code 26 = .ok (.iload_n 2, 1) := by decide +kernel
theorem d_P_writeLeaf_27 : decode prog_7_method_14_code 27 = .ok (.imul, 1) := by decide +kernel
theorem d_P_writeLeaf_28 : decode prog_7_method_14_code 28 = .ok (.bipush 8, 2) := by decide +kernel
theorem d_P_writeLeaf_30 : decode prog_7_method_14_code 30 = .ok (.iload_n 3, 1) := by decide +kernel
theorem d_P_writeLeaf_31 : decode prog_7_method_14_code 31 = .ok (.imul, 1) := by decide +kernel
theorem d_P_writeLeaf_32 : decode prog_7_method_14_code 32 = .ok (.iadd, 1) := by decide +kernel
theorem d_P_writeLeaf_33 : decode prog_7_method_14_code 33 = .ok (.aload 4, 2) := by decide +kernel
theorem d_P_writeLeaf_35 : decode prog_7_method_14_code 35 = .ok (.getfield 59, 3) := by decide +kernel
theorem d_P_writeLeaf_38 : decode prog_7_method_14_code 38 = .ok (.iconst 0, 1) := by decide +kernel
theorem d_P_writeLeaf_39 : decode prog_7_method_14_code 39 = .ok (.bipush 8, 2) := by decide +kernel
theorem d_P_writeLeaf_41 : decode prog_7_method_14_code 41 = .ok (.invokestatic 60, 3) := by decide +kernel
theorem d_P_writeLeaf_44 : decode prog_7_method_14_code 44 = .ok (.aload_n 1, 1) := by decide +kernel
theorem d_P_writeLeaf_45 : decode prog_7_method_14_code 45 = .ok (.aload 4, 2) := by decide +kernel
theorem d_P_writeLeaf_47 : decode prog_7_method_14_code 47 = .ok (.invokevirtual 102, 3) := by decide +kernel
theorem d_P_writeLeaf_50 : decode prog_7_method_14_code 50 = .ok (.aload 4, 2) := by decide +kernel
theorem d_P_writeLeaf_52 : decode prog_7_method_14_code 52 = .ok (.areturn, 1) := by decide +kernel
def W_P_writeLeaf : Wl := ([(2, 3), (3, 0), (3, 1), (3, 2), (3, 3), (3, 4), (4, 0), (4, 1), (4, 2), (6, 0), (6, 1), (6, 2)], [103, 106])
def f_P_writeLeaf (a0 : Nat) (p1 : Option Nat) (p2 : Int32) (p3 : Int32) (h : Hp) : Option (Option Nat × Hp) :=
  nm (nw h 3 0 5) fun h1 => cv (f_L_init (hpN h) h1) fun h4 => gd (isK h4 a0 5) (cl (f_P_leafKeys a0 p2 p3 h4) fun v10 h8 => gd (isK h8 (hpN h) 3) (nm (wI h8 (hpN h) 4 v10) fun h13 => gd (isK h13 a0 5) (dr (hpR h13 a0 0) fun a17 => dr (hpR h13 (hpN h) 3) fun a19 => gd (isK h13 a17 66) (gd (isK h13 a19 106) (gd (cpB h13 a17 a19 (((nI 32) * p2) + ((nI 8) * p3)) (0 : Int32) (nI 8)) (nm (cpI h13 a17 (((nI 32) * p2) + ((nI 8) * p3)).toNatClampNeg a19 (0 : Int32).toNatClampNeg (nI 8).toNatClampNeg) fun h24 => dr p1 fun a27 => gd (isK h24 a27 2) (cv (f_K_append a27 (some (hpN h)) h24) fun h30 => some ((some (hpN h)), h30))))))))
set_option maxRecDepth 100000 in
set_option maxHeartbeats 4000000 in
theorem zf_P_writeLeaf {l : Launch} {C : Ct} {mi : Nat} {a0 : Nat} {p1 : Option Nat} {p2 : Int32} {p3 : Int32} {h h' : Hp} {v : Option Nat} (hf : f_P_writeLeaf a0 p1 p2 p3 h = some (v, h')) : Z l C mi m_P_writeLeaf 3 0 [(0, vr (some a0)), (1, vr p1), (2, vi p2), (3, vi p3)] [] h (some (vr v)) h' := by
  unfold f_P_writeLeaf at hf
  obtain ⟨h1, eh2, hf⟩ := nm_some hf
  refine z_new (κ := 3) d_P_writeLeaf_0 rfl (by decide +kernel) ?_
  refine z_hp eh2 ?_
  refine z_dup d_P_writeLeaf_3 rfl ?_
  obtain ⟨h4, ec5, hf⟩ := cv_some hf
  refine z_callIN (host := "VersionMaps") (c_L_init ec5) d_P_writeLeaf_4 rfl cw_L_init lk_P_106 im_L_init rfl ⟨by decide, by decide⟩ (Nat.le_of_ble_eq_true rfl) rfl ?_
  refine z_astore (ls2 := [(4, vr (some (hpN h))), (0, vr (some a0)), (1, vr p1), (2, vi p2), (3, vi p3)]) d_P_writeLeaf_7 (by decide) rfl ?_
  refine z_aload 0 d_P_writeLeaf_9 rfl ?_
  refine z_aload_n 1 d_P_writeLeaf_11 rfl rfl ?_
  refine z_iload_n 3 d_P_writeLeaf_12 rfl rfl ?_
  refine z_iload_n 4 d_P_writeLeaf_13 rfl rfl ?_
  obtain ⟨g7, hf⟩ := gd_some hf
  obtain ⟨v10, h8, ec9, hf⟩ := cl_some hf
  refine z_callVx rfl (c_P_leafKeys ec9) d_P_writeLeaf_14 cw_P_leafKeys lk_P_107 im_P_leafKeys se_P_leafKeys (kc_K (isK_eq g7) kc_5) ⟨by decide, by decide⟩ (Nat.le_of_ble_eq_true rfl) rfl ?_
  obtain ⟨g12, hf⟩ := gd_some hf
  obtain ⟨h13, eh14, hf⟩ := nm_some hf
  refine z_putI d_P_writeLeaf_17 (fl_K (isK_eq g12) fl_P_57_3) (pu_K (isK_eq g12) (fun q hq => by cases (Option.some.inj hq); exact Or.inl rfl)) (fi_K (isK_eq g12) rfl) rfl ?_
  refine z_hp eh14 ?_
  refine z_aload_n 1 d_P_writeLeaf_20 rfl rfl ?_
  obtain ⟨g16, hf⟩ := gd_some hf
  refine z_getR d_P_writeLeaf_21 (fl_K (isK_eq g16) fl_P_9_5) (fi_K (isK_eq g16) rfl) rfl ?_
  refine z_bipush (v := (nI 32)) d_P_writeLeaf_24 (by decide) ?_
  refine z_iload_n 3 d_P_writeLeaf_26 rfl rfl ?_
  refine z_imul d_P_writeLeaf_27 ?_
  refine z_bipush (v := (nI 8)) d_P_writeLeaf_28 (by decide) ?_
  refine z_iload_n 4 d_P_writeLeaf_30 rfl rfl ?_
  refine z_imul d_P_writeLeaf_31 ?_
  refine z_iadd d_P_writeLeaf_32 ?_
  refine z_aload 0 d_P_writeLeaf_33 rfl ?_
  refine z_getR d_P_writeLeaf_35 (fl_K (isK_eq (isK_wI eh14 g12)) fl_P_59_3) (fi_K (isK_eq (isK_wI eh14 g12)) rfl) rfl ?_
  refine z_iconst (v := (0 : Int32)) d_P_writeLeaf_38 (by decide) ?_
  refine z_bipush (v := (nI 8)) d_P_writeLeaf_39 (by decide) ?_
  obtain ⟨a17, e18, hf⟩ := dr_some hf
  obtain ⟨a19, e20, hf⟩ := dr_some hf
  obtain ⟨g21, hf⟩ := gd_some hf
  obtain ⟨g22, hf⟩ := gd_some hf
  obtain ⟨g23, hf⟩ := gd_some hf
  obtain ⟨h24, eh25, hf⟩ := nm_some hf
  refine z_copyI d_P_writeLeaf_41 (show Cond.methodLink _ _ _ ∈ lw_w by decide +kernel) (by decide) (Nat.le_of_ble_eq_true rfl) e18 e20 (by rw [isK_eq g21]; decide) (by rw [isK_eq g21]; rfl) (by rw [isK_eq g22]; decide) (by rw [isK_eq g22]; rfl) (cpB_eq g23).1 (cpB_eq g23).2.1 (cpB_eq g23).2.2.1 (cpB_eq g23).2.2.2.1 (cpB_eq g23).2.2.2.2 ?_
  refine z_hp eh25 ?_
  refine z_aload_n 2 d_P_writeLeaf_44 rfl rfl ?_
  refine z_aload 0 d_P_writeLeaf_45 rfl ?_
  obtain ⟨a27, e28, hf⟩ := dr_some hf
  obtain ⟨g29, hf⟩ := gd_some hf
  obtain ⟨h30, ec31, hf⟩ := cv_some hf
  refine z_callVx e28 (c_K_append ec31) d_P_writeLeaf_47 cw_K_append lk_P_102 im_K_append se_K_append (kc_K (isK_eq g29) kc_2) ⟨by decide, by decide⟩ (Nat.le_of_ble_eq_true rfl) rfl ?_
  refine z_aload 0 d_P_writeLeaf_50 rfl ?_
  obtain ⟨rfl, rfl⟩ := Prod.mk.inj (Option.some.inj hf)
  exact z_ret d_P_writeLeaf_52 rfl
set_option maxRecDepth 100000 in
set_option maxHeartbeats 4000000 in
theorem fr_P_writeLeaf {C : Ct} {mi : Nat} {a0 : Nat} {p1 : Option Nat} {p2 : Int32} {p3 : Int32} {h h' : Hp} {v : Option Nat} (hf : f_P_writeLeaf a0 p1 p2 p3 h = some (v, h')) : Keep W_P_writeLeaf h h' := by
  unfold f_P_writeLeaf at hf
  obtain ⟨h1, eh2, hf⟩ := nm_some hf
  have K3 := (Keep.refl W_P_writeLeaf _).trans (kw_N eh2)
  obtain ⟨h4, ec5, hf⟩ := cv_some hf
  have K6 := K3.trans ((fr_L_init (C := C) (mi := mi) ec5).mono (by decide) (by decide))
  obtain ⟨g7, hf⟩ := gd_some hf
  obtain ⟨v10, h8, ec9, hf⟩ := cl_some hf
  have K11 := K6.trans ((fr_P_leafKeys (C := C) (mi := mi) ec9).mono (by decide) (by decide))
  obtain ⟨g12, hf⟩ := gd_some hf
  obtain ⟨h13, eh14, hf⟩ := nm_some hf
  have K15 := K11.trans (kw_I eh14 (isK_eq g12) (Or.inl (by decide)))
  obtain ⟨g16, hf⟩ := gd_some hf
  obtain ⟨a17, e18, hf⟩ := dr_some hf
  obtain ⟨a19, e20, hf⟩ := dr_some hf
  obtain ⟨g21, hf⟩ := gd_some hf
  obtain ⟨g22, hf⟩ := gd_some hf
  obtain ⟨g23, hf⟩ := gd_some hf
  obtain ⟨h24, eh25, hf⟩ := nm_some hf
  have K26 := K15.trans (kw_cI eh25 (isK_eq g22) (by decide))
  obtain ⟨a27, e28, hf⟩ := dr_some hf
  obtain ⟨g29, hf⟩ := gd_some hf
  obtain ⟨h30, ec31, hf⟩ := cv_some hf
  have K32 := K26.trans ((fr_K_append (C := C) (mi := mi) ec31).mono (by decide) (by decide))
  obtain ⟨rfl, rfl⟩ := Prod.mk.inj (Option.some.inj hf)
  exact K32
theorem c_P_writeLeaf {l : Launch} {C : Ct} {mi : Nat} {a0 : Nat} {p1 : Option Nat} {p2 : Int32} {p3 : Int32} {h h' : Hp} {v : Option Nat} (hf : f_P_writeLeaf a0 p1 p2 p3 h = some (v, h')) : Mt l C mi m_P_writeLeaf 3 [vr (some a0), vr p1, vi p2, vi p3] h (some (vr v)) h' := mt_R rfl (Or.inl ⟨_, rfl⟩) rfl (by decide) (Nat.le_of_ble_eq_true rfl) (zf_P_writeLeaf hf)
-- VersionMaps$Present.writeMap(LVersionMaps$Chunk;ILVersionMaps$Meta;)LVersionMaps$Root;
def m_P_writeMap : Mi := (⟨"VersionMaps$Present", "writeMap", "(LVersionMaps$Chunk;ILVersionMaps$Meta;)LVersionMaps$Root;"⟩, prog_7_method_13_code, 6, (Option.some (Jvm.ClassFile.FieldType.object "VersionMaps$Root")), .areturn)
theorem cw_P_writeMap : cw_ok m_P_writeMap 3 := ⟨by decide +kernel, by decide +kernel, by decide +kernel, by decide +kernel⟩
theorem im_P_writeMap : Cond.instanceMethod m_P_writeMap.1 ∈ lw_w := by decide +kernel
theorem se_P_writeMap : Cond.selects "VersionMaps$Present" m_P_writeMap.1 m_P_writeMap.1 ∈ lw_w := by decide +kernel
theorem d_P_writeMap_0 : decode prog_7_method_13_code 0 = .ok (.aload_n 0, 1) := by decide +kernel
theorem d_P_writeMap_1 : decode prog_7_method_13_code 1 = .ok (.iload_n 2, 1) := by decide +kernel
theorem d_P_writeMap_2 : decode prog_7_method_13_code 2 = .ok (.invokevirtual 66, 3) := by decide +kernel
theorem d_P_writeMap_5 : decode prog_7_method_13_code 5 = .ok (.ifCond .ne 5, 3) := by decide +kernel
theorem d_P_writeMap_8 : decode prog_7_method_13_code 8 = .ok (.aconst_null, 1) := by decide +kernel
theorem d_P_writeMap_9 : decode prog_7_method_13_code 9 = .ok (.areturn, 1) := by decide +kernel
theorem d_P_writeMap_10 : decode prog_7_method_13_code 10 = .ok (.new 42, 3) := by decide +kernel
theorem d_P_writeMap_13 : decode prog_7_method_13_code 13 = .ok (.dup, 1) := by decide +kernel
theorem d_P_writeMap_14 : decode prog_7_method_13_code 14 = .ok (.invokespecial 90, 3) := by decide +kernel
theorem d_P_writeMap_17 : decode prog_7_method_13_code 17 = .ok (.astore 4, 2) := by decide +kernel
theorem d_P_writeMap_19 : decode prog_7_method_13_code 19 = .ok (.iconst 0, 1) := by decide +kernel
theorem d_P_writeMap_20 : decode prog_7_method_13_code 20 = .ok (.istore 5, 2) := by decide +kernel
theorem d_P_writeMap_22 : decode prog_7_method_13_code 22 = .ok (.iload 5, 2) := by decide +kernel
theorem d_P_writeMap_24 : decode prog_7_method_13_code 24 = .ok (.iconst 4, 1) := by decide +kernel
theorem d_P_writeMap_25 : decode prog_7_method_13_code 25 = .ok (.if_icmp .ge 67, 3) := by decide +kernel
theorem d_P_writeMap_28 : decode prog_7_method_13_code 28 = .ok (.aload_n 0, 1) := by decide +kernel
theorem d_P_writeMap_29 : decode prog_7_method_13_code 29 = .ok (.iload_n 2, 1) := by decide +kernel
theorem d_P_writeMap_30 : decode prog_7_method_13_code 30 = .ok (.iload 5, 2) := by decide +kernel
theorem d_P_writeMap_32 : decode prog_7_method_13_code 32 = .ok (.invokevirtual 70, 3) := by decide +kernel
theorem d_P_writeMap_35 : decode prog_7_method_13_code 35 = .ok (.ifCond .eq 22, 3) := by decide +kernel
theorem d_P_writeMap_38 : decode prog_7_method_13_code 38 = .ok (.aload 4, 2) := by decide +kernel
theorem d_P_writeMap_40 : decode prog_7_method_13_code 40 = .ok (.getfield 91, 3) := by decide +kernel
theorem d_P_writeMap_43 : decode prog_7_method_13_code 43 = .ok (.iload 5, 2) := by decide +kernel
theorem d_P_writeMap_45 : decode prog_7_method_13_code 45 = .ok (.aload_n 0, 1) := by decide +kernel
theorem d_P_writeMap_46 : decode prog_7_method_13_code 46 = .ok (.aload_n 1, 1) := by decide +kernel
theorem d_P_writeMap_47 : decode prog_7_method_13_code 47 = .ok (.iload_n 2, 1) := by decide +kernel
theorem d_P_writeMap_48 : decode prog_7_method_13_code 48 = .ok (.iload 5, 2) := by decide +kernel
theorem d_P_writeMap_50 : decode prog_7_method_13_code 50 = .ok (.invokevirtual 95, 3) := by decide +kernel
theorem d_P_writeMap_53 : decode prog_7_method_13_code 53 = .ok (.aastore, 1) := by decide +kernel
theorem d_P_writeMap_54 : decode prog_7_method_13_code 54 = .ok (.goto 32, 3) := by decide +kernel
theorem d_P_writeMap_57 : decode prog_7_method_13_code 57 = .ok (.aload_n 0, 1) := by decide +kernel
theorem d_P_writeMap_58 : decode prog_7_method_13_code 58 = .ok (.iload_n 2, 1) := by decide +kernel
theorem d_P_writeMap_59 : decode prog_7_method_13_code 59 = .ok (.iload 5, 2) := by decide +kernel
theorem d_P_writeMap_61 : decode prog_7_method_13_code 61 = .ok (.invokevirtual 99, 3) := by decide +kernel
theorem d_P_writeMap_64 : decode prog_7_method_13_code 64 = .ok (.ifCond .ne 22, 3) := by decide +kernel
theorem d_P_writeMap_67 : decode prog_7_method_13_code 67 = .ok (.aload_n 3, 1) := by decide +kernel
theorem d_P_writeMap_68 : decode prog_7_method_13_code 68 = .ok (.ifnull 18, 3) := by decide +kernel
theorem d_P_writeMap_71 : decode prog_7_method_13_code 71 = .ok (.aload 4, 2) := by decide +kernel
theorem d_P_writeMap_73 : decode prog_7_method_13_code 73 = .ok (.getfield 91, 3) := by decide +kernel
theorem d_P_writeMap_76 : decode prog_7_method_13_code 76 = .ok (.iload 5, 2) := by decide +kernel
theorem d_P_writeMap_78 : decode prog_7_method_13_code 78 = .ok (.aload_n 3, 1) := by decide +kernel
theorem d_P_writeMap_79 : decode prog_7_method_13_code 79 = .ok (.iload_n 2, 1) := by decide +kernel
theorem d_P_writeMap_80 : decode prog_7_method_13_code 80 = .ok (.iload 5, 2) := by decide +kernel
theorem d_P_writeMap_82 : decode prog_7_method_13_code 82 = .ok (.invokevirtual 47, 3) := by decide +kernel
theorem d_P_writeMap_85 : decode prog_7_method_13_code 85 = .ok (.aastore, 1) := by decide +kernel
theorem d_P_writeMap_86 : decode prog_7_method_13_code 86 = .ok (.iinc 5 1, 3) := by decide +kernel
theorem d_P_writeMap_89 : decode prog_7_method_13_code 89 = .ok (.goto (-67), 3) := by decide +kernel
theorem d_P_writeMap_92 : decode prog_7_method_13_code 92 = .ok (.aload_n 1, 1) := by decide +kernel
theorem d_P_writeMap_93 : decode prog_7_method_13_code 93 = .ok (.aload 4, 2) := by decide +kernel
theorem d_P_writeMap_95 : decode prog_7_method_13_code 95 = .ok (.invokevirtual 102, 3) := by decide +kernel
theorem d_P_writeMap_98 : decode prog_7_method_13_code 98 = .ok (.aload 4, 2) := by decide +kernel
theorem d_P_writeMap_100 : decode prog_7_method_13_code 100 = .ok (.areturn, 1) := by decide +kernel
def W_P_writeMap : Wl := ([(2, 3), (3, 0), (3, 1), (3, 2), (3, 3), (3, 4), (4, 0), (4, 1), (4, 2), (6, 0), (6, 1), (6, 2), (6, 3)], [103, 105, 106])
def b_P_writeMap_22 (y0 : Nat) (y1 : Option Nat) (y2 : Int32) (y3 : Option Nat) (y4 : Option Nat) (y5 : Int32) (h : Hp) : Option ((Int32 × Hp) ⊕ (Hp)) :=
  if (nI 4) ≤ y5 then (some (.inr h)) else (gd (isK h y0 5) (cl (f_P_needsLeaf y0 y2 y5 h) fun v17 h15 => if v17 = 0 then (gd (isK h15 y0 5) (cl (f_P_isLeafTouched y0 y2 y5 h15) fun v23 h21 => if v23 = 0 then (if y3 = none then (some (.inl ((y5 + (1 : Int32)), h21))) else (dr y4 fun a27 => gd (isK h21 a27 6) (dr y3 fun a30 => gd (isK h21 a30 4) (cl (f_E_leafOf a30 y2 y5 h21) fun v35 h33 => dr (hpR h21 a27 3) fun a37 => gd (isK h33 a37 105) (gd (inb y5 (hpL h33 a37)) (gd (asV h33 v35 a37) (nm (wR h33 a37 y5.toNatClampNeg v35) fun h42 => some (.inl ((y5 + (1 : Int32)), h42))))))))) else (some (.inl ((y5 + (1 : Int32)), h21))))) else (dr y4 fun a45 => gd (isK h15 a45 6) (gd (isK h15 y0 5) (cl (f_P_writeLeaf y0 y1 y2 y5 h15) fun v51 h49 => dr (hpR h15 a45 3) fun a53 => gd (isK h49 a53 105) (gd (inb y5 (hpL h49 a53)) (gd (asV h49 v51 a53) (nm (wR h49 a53 y5.toNatClampNeg v51) fun h58 => some (.inl ((y5 + (1 : Int32)), h58))))))))))
set_option maxRecDepth 100000 in
set_option maxHeartbeats 4000000 in
theorem zb_P_writeMap_22 {l : Launch} {C : Ct} {mi : Nat} {y0 : Nat} {y1 : Option Nat} {y2 : Int32} {y3 : Option Nat} {y4 : Option Nat} {y5 : Int32} {h h' : Hp} {v : Option Nat} {q : ((Int32 × Hp) ⊕ (Hp))} (hf : b_P_writeMap_22 y0 y1 y2 y3 y4 y5 h = some q) (kc : ∀ s, q = .inl s → Z l C mi m_P_writeMap 4 22 [(0, vr (some y0)), (1, vr y1), (2, vi y2), (3, vr y3), (4, vr y4), (5, vi s.1)] [] s.2 (some (vr v)) h') (ke : ∀ x, q = .inr x → Z l C mi m_P_writeMap 4 92 [(1, vr y1), (4, vr y4)] [] x (some (vr v)) h') : Z l C mi m_P_writeMap 4 22 [(0, vr (some y0)), (1, vr y1), (2, vi y2), (3, vr y3), (4, vr y4), (5, vi y5)] [] h (some (vr v)) h' := by
  unfold b_P_writeMap_22 at hf
  refine z_iload 5 d_P_writeMap_22 rfl ?_
  refine z_iconst (v := (nI 4)) d_P_writeMap_24 (by decide) ?_
  refine z_icmp_ge (tgt := 92) d_P_writeMap_25 (by decide) (fun c13 => ?_) (fun c13 => ?_)
  · rw [if_pos c13] at hf
    refine z_ls [1, 4] rfl ?_
    exact ke h (Option.some.inj hf).symm
  · rw [if_neg c13] at hf
    refine z_aload_n 0 d_P_writeMap_28 rfl rfl ?_
    refine z_iload_n 2 d_P_writeMap_29 rfl rfl ?_
    refine z_iload 5 d_P_writeMap_30 rfl ?_
    obtain ⟨g14, hf⟩ := gd_some hf
    obtain ⟨v17, h15, ec16, hf⟩ := cl_some hf
    refine z_callVx rfl (c_P_needsLeaf ec16) d_P_writeMap_32 cw_P_needsLeaf lk_P_70 im_P_needsLeaf se_P_needsLeaf (kc_K (isK_eq g14) kc_5) ⟨by decide, by decide⟩ (Nat.le_of_ble_eq_true rfl) rfl ?_
    refine z_if_eq (tgt := 57) d_P_writeMap_35 (by decide) (fun c19 => ?_) (fun c19 => ?_)
    · rw [if_pos c19] at hf
      refine z_aload_n 0 d_P_writeMap_57 rfl rfl ?_
      refine z_iload_n 2 d_P_writeMap_58 rfl rfl ?_
      refine z_iload 5 d_P_writeMap_59 rfl ?_
      obtain ⟨g20, hf⟩ := gd_some hf
      obtain ⟨v23, h21, ec22, hf⟩ := cl_some hf
      refine z_callVx rfl (c_P_isLeafTouched ec22) d_P_writeMap_61 cw_P_isLeafTouched lk_P_99 im_P_isLeafTouched se_P_isLeafTouched (kc_K (isK_eq g20) kc_5) ⟨by decide, by decide⟩ (Nat.le_of_ble_eq_true rfl) rfl ?_
      refine z_if_ne (tgt := 86) d_P_writeMap_64 (by decide) (fun c25 => ?_) (fun c25 => ?_)
      · rw [if_neg c25] at hf
        refine z_iinc (ls2 := [(5, vi (y5 + (1 : Int32))), (0, vr (some y0)), (1, vr y1), (2, vi y2), (3, vr y3), (4, vr y4)]) 5 d_P_writeMap_86 rfl rfl (by decide) rfl ?_
        refine z_goto (tgt := 22) d_P_writeMap_89 (by decide) ?_
        refine z_ls [1, 2, 3, 4, 5, 0] rfl ?_
        exact kc ((y5 + (1 : Int32)), h21) (Option.some.inj hf).symm
      · rw [if_pos c25] at hf
        refine z_aload_n 3 d_P_writeMap_67 rfl rfl ?_
        refine z_ifnull (tgt := 86) d_P_writeMap_68 (by decide) (fun c26 => ?_) (fun c26 => ?_)
        · rw [if_pos c26] at hf
          refine z_iinc (ls2 := [(5, vi (y5 + (1 : Int32))), (0, vr (some y0)), (1, vr y1), (2, vi y2), (3, vr y3), (4, vr y4)]) 5 d_P_writeMap_86 rfl rfl (by decide) rfl ?_
          refine z_goto (tgt := 22) d_P_writeMap_89 (by decide) ?_
          refine z_ls [1, 2, 3, 4, 5, 0] rfl ?_
          exact kc ((y5 + (1 : Int32)), h21) (Option.some.inj hf).symm
        · rw [if_neg c26] at hf
          refine z_aload 4 d_P_writeMap_71 rfl ?_
          obtain ⟨a27, e28, hf⟩ := dr_some hf
          obtain ⟨g29, hf⟩ := gd_some hf
          refine z_getR d_P_writeMap_73 (fl_K (isK_eq g29) fl_P_91_6) (fi_K (isK_eq g29) rfl) e28 ?_
          refine z_iload 5 d_P_writeMap_76 rfl ?_
          refine z_aload_n 3 d_P_writeMap_78 rfl rfl ?_
          refine z_iload_n 2 d_P_writeMap_79 rfl rfl ?_
          refine z_iload 5 d_P_writeMap_80 rfl ?_
          obtain ⟨a30, e31, hf⟩ := dr_some hf
          obtain ⟨g32, hf⟩ := gd_some hf
          obtain ⟨v35, h33, ec34, hf⟩ := cl_some hf
          refine z_callVx e31 (c_E_leafOf ec34) d_P_writeMap_82 cw_E_leafOf lk_P_47 im_E_leafOf se_E_leafOf (kc_K (isK_eq g32) kc_4) ⟨by decide, by decide⟩ (Nat.le_of_ble_eq_true rfl) rfl ?_
          obtain ⟨a37, e38, hf⟩ := dr_some hf
          obtain ⟨g39, hf⟩ := gd_some hf
          obtain ⟨g40, hf⟩ := gd_some hf
          obtain ⟨g41, hf⟩ := gd_some hf
          obtain ⟨h42, eh43, hf⟩ := nm_some hf
          refine z_aast d_P_writeMap_85 e38 (by rw [isK_eq g39]; decide) (by rw [isK_eq g39]; decide) (asV_ok g41) (inb_vp g40) ?_
          refine z_hp eh43 ?_
          refine z_iinc (ls2 := [(5, vi (y5 + (1 : Int32))), (0, vr (some y0)), (1, vr y1), (2, vi y2), (3, vr y3), (4, vr y4)]) 5 d_P_writeMap_86 rfl rfl (by decide) rfl ?_
          refine z_goto (tgt := 22) d_P_writeMap_89 (by decide) ?_
          refine z_ls [1, 2, 3, 4, 5, 0] rfl ?_
          exact kc ((y5 + (1 : Int32)), h42) (Option.some.inj hf).symm
    · rw [if_neg c19] at hf
      refine z_aload 4 d_P_writeMap_38 rfl ?_
      obtain ⟨a45, e46, hf⟩ := dr_some hf
      obtain ⟨g47, hf⟩ := gd_some hf
      refine z_getR d_P_writeMap_40 (fl_K (isK_eq g47) fl_P_91_6) (fi_K (isK_eq g47) rfl) e46 ?_
      refine z_iload 5 d_P_writeMap_43 rfl ?_
      refine z_aload_n 0 d_P_writeMap_45 rfl rfl ?_
      refine z_aload_n 1 d_P_writeMap_46 rfl rfl ?_
      refine z_iload_n 2 d_P_writeMap_47 rfl rfl ?_
      refine z_iload 5 d_P_writeMap_48 rfl ?_
      obtain ⟨g48, hf⟩ := gd_some hf
      obtain ⟨v51, h49, ec50, hf⟩ := cl_some hf
      refine z_callVx rfl (c_P_writeLeaf ec50) d_P_writeMap_50 cw_P_writeLeaf lk_P_95 im_P_writeLeaf se_P_writeLeaf (kc_K (isK_eq g48) kc_5) ⟨by decide, by decide⟩ (Nat.le_of_ble_eq_true rfl) rfl ?_
      obtain ⟨a53, e54, hf⟩ := dr_some hf
      obtain ⟨g55, hf⟩ := gd_some hf
      obtain ⟨g56, hf⟩ := gd_some hf
      obtain ⟨g57, hf⟩ := gd_some hf
      obtain ⟨h58, eh59, hf⟩ := nm_some hf
      refine z_aast d_P_writeMap_53 e54 (by rw [isK_eq g55]; decide) (by rw [isK_eq g55]; decide) (asV_ok g57) (inb_vp g56) ?_
      refine z_hp eh59 ?_
      refine z_goto (tgt := 86) d_P_writeMap_54 (by decide) ?_
      refine z_iinc (ls2 := [(5, vi (y5 + (1 : Int32))), (0, vr (some y0)), (1, vr y1), (2, vi y2), (3, vr y3), (4, vr y4)]) 5 d_P_writeMap_86 rfl rfl (by decide) rfl ?_
      refine z_goto (tgt := 22) d_P_writeMap_89 (by decide) ?_
      refine z_ls [1, 2, 3, 4, 5, 0] rfl ?_
      exact kc ((y5 + (1 : Int32)), h58) (Option.some.inj hf).symm
set_option maxRecDepth 100000 in
set_option maxHeartbeats 4000000 in
theorem kb_P_writeMap_22 {C : Ct} {mi : Nat} {y0 : Nat} {y1 : Option Nat} {y2 : Int32} {y3 : Option Nat} {y4 : Option Nat} {y5 : Int32} {h : Hp} {q : ((Int32 × Hp) ⊕ (Hp))} (hf : b_P_writeMap_22 y0 y1 y2 y3 y4 y5 h = some q) : Keep W_P_writeMap h (Sum.elim (fun s : Int32 × Hp => s.2) (fun x : Hp => x) q) := by
  unfold b_P_writeMap_22 at hf
  rcases Classical.em ((nI 4) ≤ y5) with c13 | c13
  · rw [if_pos c13] at hf
    cases (Option.some.inj hf)
    exact (Keep.refl W_P_writeMap _)
  · rw [if_neg c13] at hf
    obtain ⟨g14, hf⟩ := gd_some hf
    obtain ⟨v17, h15, ec16, hf⟩ := cl_some hf
    have K18 := (Keep.refl W_P_writeMap _).trans ((fr_P_needsLeaf (C := C) (mi := mi) ec16).mono (by decide) (by decide))
    rcases Classical.em (v17 = 0) with c19 | c19
    · rw [if_pos c19] at hf
      obtain ⟨g20, hf⟩ := gd_some hf
      obtain ⟨v23, h21, ec22, hf⟩ := cl_some hf
      have K24 := K18.trans ((fr_P_isLeafTouched (C := C) (mi := mi) ec22).mono (by decide) (by decide))
      rcases (Classical.em (v23 = 0)).symm with c25 | c25
      · rw [if_neg c25] at hf
        cases (Option.some.inj hf)
        exact K24
      · rw [if_pos c25] at hf
        rcases Classical.em (y3 = none) with c26 | c26
        · rw [if_pos c26] at hf
          cases (Option.some.inj hf)
          exact K24
        · rw [if_neg c26] at hf
          obtain ⟨a27, e28, hf⟩ := dr_some hf
          obtain ⟨g29, hf⟩ := gd_some hf
          obtain ⟨a30, e31, hf⟩ := dr_some hf
          obtain ⟨g32, hf⟩ := gd_some hf
          obtain ⟨v35, h33, ec34, hf⟩ := cl_some hf
          have K36 := K24.trans ((fr_E_leafOf (C := C) (mi := mi) ec34).mono (by decide) (by decide))
          obtain ⟨a37, e38, hf⟩ := dr_some hf
          obtain ⟨g39, hf⟩ := gd_some hf
          obtain ⟨g40, hf⟩ := gd_some hf
          obtain ⟨g41, hf⟩ := gd_some hf
          obtain ⟨h42, eh43, hf⟩ := nm_some hf
          have K44 := K36.trans (kw_R eh43 (isK_eq g39) (Or.inr (by decide)))
          cases (Option.some.inj hf)
          exact K44
    · rw [if_neg c19] at hf
      obtain ⟨a45, e46, hf⟩ := dr_some hf
      obtain ⟨g47, hf⟩ := gd_some hf
      obtain ⟨g48, hf⟩ := gd_some hf
      obtain ⟨v51, h49, ec50, hf⟩ := cl_some hf
      have K52 := K18.trans ((fr_P_writeLeaf (C := C) (mi := mi) ec50).mono (by decide) (by decide))
      obtain ⟨a53, e54, hf⟩ := dr_some hf
      obtain ⟨g55, hf⟩ := gd_some hf
      obtain ⟨g56, hf⟩ := gd_some hf
      obtain ⟨g57, hf⟩ := gd_some hf
      obtain ⟨h58, eh59, hf⟩ := nm_some hf
      have K60 := K52.trans (kw_R eh59 (isK_eq g55) (Or.inr (by decide)))
      cases (Option.some.inj hf)
      exact K60
def l_P_writeMap_22 (y0 : Nat) (y1 : Option Nat) (y2 : Int32) (y3 : Option Nat) (y4 : Option Nat) (s : Int32 × Hp) : Option (Hp) := lp (fun s => b_P_writeMap_22 y0 y1 y2 y3 y4 s.1 s.2) FU s
theorem zzl_P_writeMap_22 {l : Launch} {C : Ct} {mi : Nat} {y0 : Nat} {y1 : Option Nat} {y2 : Int32} {y3 : Option Nat} {y4 : Option Nat} {h' : Hp} {v : Option Nat} : ∀ (n : Nat) (s : Int32 × Hp) (x : (Hp)), lp (fun s : Int32 × Hp => b_P_writeMap_22 y0 y1 y2 y3 y4 s.1 s.2) n s = some x → Z l C mi m_P_writeMap 4 92 [(1, vr y1), (4, vr y4)] [] x (some (vr v)) h' → Z l C mi m_P_writeMap 4 22 [(0, vr (some y0)), (1, vr y1), (2, vi y2), (3, vr y3), (4, vr y4), (5, vi s.1)] [] s.2 (some (vr v)) h' := by
  intro n
  induction n with
  | zero => intro s x hl; cases hl
  | succ n ih =>
    intro s x hl ke
    rcases lp_some hl with ⟨s2, hb, hl2⟩ | hb
    · exact zb_P_writeMap_22 hb (fun s3 e3 => by cases e3; refine z_ls [0, 1, 2, 3, 4, 5] rfl ?_; exact ih s2 x hl2 ke) (fun x e3 => by cases e3)
    · exact zb_P_writeMap_22 hb (fun s3 e3 => by cases e3) (fun x e3 => by cases e3; exact ke)
theorem zl_P_writeMap_22 {l : Launch} {C : Ct} {mi : Nat} {y0 : Nat} {y1 : Option Nat} {y2 : Int32} {y3 : Option Nat} {y4 : Option Nat} {h' : Hp} {v : Option Nat} {s : Int32 × Hp} {x : (Hp)} (hl : l_P_writeMap_22 y0 y1 y2 y3 y4 s = some x) (ke : Z l C mi m_P_writeMap 4 92 [(1, vr y1), (4, vr y4)] [] x (some (vr v)) h') : Z l C mi m_P_writeMap 4 22 [(0, vr (some y0)), (1, vr y1), (2, vi y2), (3, vr y3), (4, vr y4), (5, vi s.1)] [] s.2 (some (vr v)) h' := zzl_P_writeMap_22 FU s x hl ke
theorem kl_P_writeMap_22 {C : Ct} {mi : Nat} {y0 : Nat} {y1 : Option Nat} {y2 : Int32} {y3 : Option Nat} {y4 : Option Nat} {s : Int32 × Hp} {q : (Hp)} (hl : l_P_writeMap_22 y0 y1 y2 y3 y4 s = some q) : Keep W_P_writeMap s.2 ((fun x : Hp => x) q) := lpk (sh := (fun s : Int32 × Hp => s.2)) (rh := (fun x : Hp => x)) (fun s q hb => kb_P_writeMap_22 (C := C) (mi := mi) hb) FU s q hl
def f_P_writeMap (a0 : Nat) (p1 : Option Nat) (p2 : Int32) (p3 : Option Nat) (h : Hp) : Option (Option Nat × Hp) :=
  gd (isK h a0 5) (cl (f_P_needsRoot a0 p2 h) fun v4 h2 => if v4 = 0 then (some (none, h2)) else (nm (nw h2 6 0 4) fun h7 => cv (f_O_init (hpN h2) h7) fun h10 => bd (l_P_writeMap_22 a0 p1 p2 p3 (some (hpN h2)) ((0 : Int32), h10)) fun x61 => dr p1 fun a64 => gd (isK x61 a64 2) (cv (f_K_append a64 (some (hpN h2)) x61) fun h67 => some ((some (hpN h2)), h67))))
set_option maxRecDepth 100000 in
set_option maxHeartbeats 4000000 in
theorem zf_P_writeMap {l : Launch} {C : Ct} {mi : Nat} {a0 : Nat} {p1 : Option Nat} {p2 : Int32} {p3 : Option Nat} {h h' : Hp} {v : Option Nat} (hf : f_P_writeMap a0 p1 p2 p3 h = some (v, h')) : Z l C mi m_P_writeMap 4 0 [(0, vr (some a0)), (1, vr p1), (2, vi p2), (3, vr p3)] [] h (some (vr v)) h' := by
  unfold f_P_writeMap at hf
  refine z_aload_n 0 d_P_writeMap_0 rfl rfl ?_
  refine z_iload_n 2 d_P_writeMap_1 rfl rfl ?_
  obtain ⟨g1, hf⟩ := gd_some hf
  obtain ⟨v4, h2, ec3, hf⟩ := cl_some hf
  refine z_callVx rfl (c_P_needsRoot ec3) d_P_writeMap_2 cw_P_needsRoot lk_P_66 im_P_needsRoot se_P_needsRoot (kc_K (isK_eq g1) kc_5) ⟨by decide, by decide⟩ (Nat.le_of_ble_eq_true rfl) rfl ?_
  refine z_if_ne (tgt := 10) d_P_writeMap_5 (by decide) (fun c6 => ?_) (fun c6 => ?_)
  · rw [if_neg c6] at hf
    obtain ⟨h7, eh8, hf⟩ := nm_some hf
    refine z_new (κ := 6) d_P_writeMap_10 rfl (by decide +kernel) ?_
    refine z_hp eh8 ?_
    refine z_dup d_P_writeMap_13 rfl ?_
    obtain ⟨h10, ec11, hf⟩ := cv_some hf
    refine z_callIN (host := "VersionMaps") (c_O_init ec11) d_P_writeMap_14 rfl cw_O_init lk_P_90 im_O_init rfl ⟨by decide, by decide⟩ (Nat.le_of_ble_eq_true rfl) rfl ?_
    refine z_astore (ls2 := [(4, vr (some (hpN h2))), (0, vr (some a0)), (1, vr p1), (2, vi p2), (3, vr p3)]) d_P_writeMap_17 (by decide) rfl ?_
    refine z_iconst (v := (0 : Int32)) d_P_writeMap_19 (by decide) ?_
    refine z_istore (ls2 := [(5, vi (0 : Int32)), (4, vr (some (hpN h2))), (0, vr (some a0)), (1, vr p1), (2, vi p2), (3, vr p3)]) d_P_writeMap_20 (by decide) rfl ?_
    obtain ⟨x61, el62, hf⟩ := bd_some hf
    refine z_ls [2, 3, 4, 5, 1, 0] rfl ?_
    refine zl_P_writeMap_22 el62 ?_
    refine z_aload_n 0 d_P_writeMap_92 rfl rfl ?_
    refine z_aload 1 d_P_writeMap_93 rfl ?_
    obtain ⟨a64, e65, hf⟩ := dr_some hf
    obtain ⟨g66, hf⟩ := gd_some hf
    obtain ⟨h67, ec68, hf⟩ := cv_some hf
    refine z_callVx e65 (c_K_append ec68) d_P_writeMap_95 cw_K_append lk_P_102 im_K_append se_K_append (kc_K (isK_eq g66) kc_2) ⟨by decide, by decide⟩ (Nat.le_of_ble_eq_true rfl) rfl ?_
    refine z_aload 1 d_P_writeMap_98 rfl ?_
    obtain ⟨rfl, rfl⟩ := Prod.mk.inj (Option.some.inj hf)
    exact z_ret d_P_writeMap_100 rfl
  · rw [if_pos c6] at hf
    refine z_aconst_null d_P_writeMap_8 ?_
    obtain ⟨rfl, rfl⟩ := Prod.mk.inj (Option.some.inj hf)
    exact z_ret d_P_writeMap_9 rfl
set_option maxRecDepth 100000 in
set_option maxHeartbeats 4000000 in
theorem fr_P_writeMap {C : Ct} {mi : Nat} {a0 : Nat} {p1 : Option Nat} {p2 : Int32} {p3 : Option Nat} {h h' : Hp} {v : Option Nat} (hf : f_P_writeMap a0 p1 p2 p3 h = some (v, h')) : Keep W_P_writeMap h h' := by
  unfold f_P_writeMap at hf
  obtain ⟨g1, hf⟩ := gd_some hf
  obtain ⟨v4, h2, ec3, hf⟩ := cl_some hf
  have K5 := (Keep.refl W_P_writeMap _).trans ((fr_P_needsRoot (C := C) (mi := mi) ec3).mono (by decide) (by decide))
  rcases (Classical.em (v4 = 0)).symm with c6 | c6
  · rw [if_neg c6] at hf
    obtain ⟨h7, eh8, hf⟩ := nm_some hf
    have K9 := K5.trans (kw_N eh8)
    obtain ⟨h10, ec11, hf⟩ := cv_some hf
    have K12 := K9.trans ((fr_O_init (C := C) (mi := mi) ec11).mono (by decide) (by decide))
    obtain ⟨x61, el62, hf⟩ := bd_some hf
    have K63 := K12.trans (kl_P_writeMap_22 (C := C) (mi := mi) el62)
    obtain ⟨a64, e65, hf⟩ := dr_some hf
    obtain ⟨g66, hf⟩ := gd_some hf
    obtain ⟨h67, ec68, hf⟩ := cv_some hf
    have K69 := K63.trans ((fr_K_append (C := C) (mi := mi) ec68).mono (by decide) (by decide))
    obtain ⟨rfl, rfl⟩ := Prod.mk.inj (Option.some.inj hf)
    exact K69
  · rw [if_pos c6] at hf
    obtain ⟨rfl, rfl⟩ := Prod.mk.inj (Option.some.inj hf)
    exact K5
theorem c_P_writeMap {l : Launch} {C : Ct} {mi : Nat} {a0 : Nat} {p1 : Option Nat} {p2 : Int32} {p3 : Option Nat} {h h' : Hp} {v : Option Nat} (hf : f_P_writeMap a0 p1 p2 p3 h = some (v, h')) : Mt l C mi m_P_writeMap 4 [vr (some a0), vr p1, vi p2, vr p3] h (some (vr v)) h' := mt_R rfl (Or.inl ⟨_, rfl⟩) rfl (by decide) (Nat.le_of_ble_eq_true rfl) (zf_P_writeMap hf)
-- VersionMaps$Chunk.close(LVersionMaps$Meta;)V
def m_K_close : Mi := (⟨"VersionMaps$Chunk", "close", "(LVersionMaps$Meta;)V"⟩, prog_3_method_3_code, 2, (Option.none : Option Jvm.ClassFile.FieldType), .return_)
theorem cw_K_close : cw_ok m_K_close 1 := ⟨by decide +kernel, by decide +kernel, by decide +kernel, by decide +kernel⟩
theorem im_K_close : Cond.instanceMethod m_K_close.1 ∈ lw_w := by decide +kernel
theorem se_K_close : Cond.selects "VersionMaps$Chunk" m_K_close.1 m_K_close.1 ∈ lw_w := by decide +kernel
theorem d_K_close_0 : decode prog_3_method_3_code 0 = .ok (.aload_n 0, 1) := by decide +kernel
theorem d_K_close_1 : decode prog_3_method_3_code 1 = .ok (.aload_n 1, 1) := by decide +kernel
theorem d_K_close_2 : decode prog_3_method_3_code 2 = .ok (.invokevirtual 36, 3) := by decide +kernel
theorem d_K_close_5 : decode prog_3_method_3_code 5 = .ok (.aload_n 0, 1) := by decide +kernel
theorem d_K_close_6 : decode prog_3_method_3_code 6 = .ok (.aload_n 1, 1) := by decide +kernel
theorem d_K_close_7 : decode prog_3_method_3_code 7 = .ok (.putfield 13, 3) := by decide +kernel
theorem d_K_close_10 : decode prog_3_method_3_code 10 = .ok (.return_, 1) := by decide +kernel
def W_K_close : Wl := ([(2, 3), (2, 4), (3, 0), (3, 1), (4, 0), (4, 1), (6, 0), (6, 1)], [103])
def f_K_close (a0 : Nat) (p1 : Option Nat) (h : Hp) : Option Hp :=
  gd (isK h a0 2) (cv (f_K_append a0 p1 h) fun h2 => gd (isK h2 a0 2) (nm (wR h2 a0 4 p1) fun h6 => some h6))
set_option maxRecDepth 100000 in
set_option maxHeartbeats 4000000 in
theorem zf_K_close {l : Launch} {C : Ct} {mi : Nat} {a0 : Nat} {p1 : Option Nat} {h h' : Hp} (hf : f_K_close a0 p1 h = some h') : Z l C mi m_K_close 1 0 [(0, vr (some a0)), (1, vr p1)] [] h none h' := by
  unfold f_K_close at hf
  refine z_aload_n 0 d_K_close_0 rfl rfl ?_
  refine z_aload_n 1 d_K_close_1 rfl rfl ?_
  obtain ⟨g1, hf⟩ := gd_some hf
  obtain ⟨h2, ec3, hf⟩ := cv_some hf
  refine z_callVx rfl (c_K_append ec3) d_K_close_2 cw_K_append lk_K_36 im_K_append se_K_append (kc_K (isK_eq g1) kc_2) ⟨by decide, by decide⟩ (Nat.le_of_ble_eq_true rfl) rfl ?_
  refine z_aload_n 0 d_K_close_5 rfl rfl ?_
  refine z_aload_n 1 d_K_close_6 rfl rfl ?_
  obtain ⟨g5, hf⟩ := gd_some hf
  obtain ⟨h6, eh7, hf⟩ := nm_some hf
  refine z_putR d_K_close_7 (fl_K (isK_eq g5) fl_K_13_2) (pu_K (isK_eq g5) (fun q hq => by cases (Option.some.inj hq); exact Or.inl rfl)) (fi_K (isK_eq g5) rfl) rfl ?_
  refine z_hp eh7 ?_
  cases (Option.some.inj hf)
  exact z_ret d_K_close_10 rfl
set_option maxRecDepth 100000 in
set_option maxHeartbeats 4000000 in
theorem fr_K_close {C : Ct} {mi : Nat} {a0 : Nat} {p1 : Option Nat} {h h' : Hp} (hf : f_K_close a0 p1 h = some h') : Keep W_K_close h h' := by
  unfold f_K_close at hf
  obtain ⟨g1, hf⟩ := gd_some hf
  obtain ⟨h2, ec3, hf⟩ := cv_some hf
  have K4 := (Keep.refl W_K_close _).trans ((fr_K_append (C := C) (mi := mi) ec3).mono (by decide) (by decide))
  obtain ⟨g5, hf⟩ := gd_some hf
  obtain ⟨h6, eh7, hf⟩ := nm_some hf
  have K8 := K4.trans (kw_R eh7 (isK_eq g5) (Or.inl (by decide)))
  cases (Option.some.inj hf)
  exact K8
theorem c_K_close {l : Launch} {C : Ct} {mi : Nat} {a0 : Nat} {p1 : Option Nat} {h h' : Hp} (hf : f_K_close a0 p1 h = some h') : Mt l C mi m_K_close 1 [vr (some a0), vr p1] h none h' := mt_V rfl rfl (by decide) (Nat.le_of_ble_eq_true rfl) (zf_K_close hf)
-- VersionMaps$Present.writeTouched(LVersionMaps$Chunk;ILVersionMaps$Meta;)V
def m_P_writeTouched : Mi := (⟨"VersionMaps$Present", "writeTouched", "(LVersionMaps$Chunk;ILVersionMaps$Meta;)V"⟩, prog_7_method_12_code, 6, (Option.none : Option Jvm.ClassFile.FieldType), .return_)
theorem cw_P_writeTouched : cw_ok m_P_writeTouched 3 := ⟨by decide +kernel, by decide +kernel, by decide +kernel, by decide +kernel⟩
theorem im_P_writeTouched : Cond.instanceMethod m_P_writeTouched.1 ∈ lw_w := by decide +kernel
theorem se_P_writeTouched : Cond.selects "VersionMaps$Present" m_P_writeTouched.1 m_P_writeTouched.1 ∈ lw_w := by decide +kernel
theorem d_P_writeTouched_0 : decode prog_7_method_12_code 0 = .ok (.new 36, 3) := by decide +kernel
theorem d_P_writeTouched_3 : decode prog_7_method_12_code 3 = .ok (.dup, 1) := by decide +kernel
theorem d_P_writeTouched_4 : decode prog_7_method_12_code 4 = .ok (.iload_n 2, 1) := by decide +kernel
theorem d_P_writeTouched_5 : decode prog_7_method_12_code 5 = .ok (.invokespecial 74, 3) := by decide +kernel
theorem d_P_writeTouched_8 : decode prog_7_method_12_code 8 = .ok (.astore 4, 2) := by decide +kernel
theorem d_P_writeTouched_10 : decode prog_7_method_12_code 10 = .ok (.iconst 0, 1) := by decide +kernel
theorem d_P_writeTouched_11 : decode prog_7_method_12_code 11 = .ok (.istore 5, 2) := by decide +kernel
theorem d_P_writeTouched_13 : decode prog_7_method_12_code 13 = .ok (.iload 5, 2) := by decide +kernel
theorem d_P_writeTouched_15 : decode prog_7_method_12_code 15 = .ok (.iconst 4, 1) := by decide +kernel
theorem d_P_writeTouched_16 : decode prog_7_method_12_code 16 = .ok (.if_icmp .ge 56, 3) := by decide +kernel
theorem d_P_writeTouched_19 : decode prog_7_method_12_code 19 = .ok (.aload_n 0, 1) := by decide +kernel
theorem d_P_writeTouched_20 : decode prog_7_method_12_code 20 = .ok (.iload 5, 2) := by decide +kernel
theorem d_P_writeTouched_22 : decode prog_7_method_12_code 22 = .ok (.invokevirtual 77, 3) := by decide +kernel
theorem d_P_writeTouched_25 : decode prog_7_method_12_code 25 = .ok (.ifCond .eq 22, 3) := by decide +kernel
theorem d_P_writeTouched_28 : decode prog_7_method_12_code 28 = .ok (.aload 4, 2) := by decide +kernel
theorem d_P_writeTouched_30 : decode prog_7_method_12_code 30 = .ok (.getfield 35, 3) := by decide +kernel
theorem d_P_writeTouched_33 : decode prog_7_method_12_code 33 = .ok (.iload 5, 2) := by decide +kernel
theorem d_P_writeTouched_35 : decode prog_7_method_12_code 35 = .ok (.aload_n 0, 1) := by decide +kernel
theorem d_P_writeTouched_36 : decode prog_7_method_12_code 36 = .ok (.aload_n 1, 1) := by decide +kernel
theorem d_P_writeTouched_37 : decode prog_7_method_12_code 37 = .ok (.iload 5, 2) := by decide +kernel
theorem d_P_writeTouched_39 : decode prog_7_method_12_code 39 = .ok (.aload_n 3, 1) := by decide +kernel
theorem d_P_writeTouched_40 : decode prog_7_method_12_code 40 = .ok (.invokevirtual 80, 3) := by decide +kernel
theorem d_P_writeTouched_43 : decode prog_7_method_12_code 43 = .ok (.aastore, 1) := by decide +kernel
theorem d_P_writeTouched_44 : decode prog_7_method_12_code 44 = .ok (.goto 22, 3) := by decide +kernel
theorem d_P_writeTouched_47 : decode prog_7_method_12_code 47 = .ok (.aload_n 3, 1) := by decide +kernel
theorem d_P_writeTouched_48 : decode prog_7_method_12_code 48 = .ok (.ifnull 18, 3) := by decide +kernel
theorem d_P_writeTouched_51 : decode prog_7_method_12_code 51 = .ok (.aload 4, 2) := by decide +kernel
theorem d_P_writeTouched_53 : decode prog_7_method_12_code 53 = .ok (.getfield 35, 3) := by decide +kernel
theorem d_P_writeTouched_56 : decode prog_7_method_12_code 56 = .ok (.iload 5, 2) := by decide +kernel
theorem d_P_writeTouched_58 : decode prog_7_method_12_code 58 = .ok (.aload_n 3, 1) := by decide +kernel
theorem d_P_writeTouched_59 : decode prog_7_method_12_code 59 = .ok (.getfield 35, 3) := by decide +kernel
theorem d_P_writeTouched_62 : decode prog_7_method_12_code 62 = .ok (.iload 5, 2) := by decide +kernel
theorem d_P_writeTouched_64 : decode prog_7_method_12_code 64 = .ok (.aaload, 1) := by decide +kernel
theorem d_P_writeTouched_65 : decode prog_7_method_12_code 65 = .ok (.aastore, 1) := by decide +kernel
theorem d_P_writeTouched_66 : decode prog_7_method_12_code 66 = .ok (.iinc 5 1, 3) := by decide +kernel
theorem d_P_writeTouched_69 : decode prog_7_method_12_code 69 = .ok (.goto (-56), 3) := by decide +kernel
theorem d_P_writeTouched_72 : decode prog_7_method_12_code 72 = .ok (.aload_n 1, 1) := by decide +kernel
theorem d_P_writeTouched_73 : decode prog_7_method_12_code 73 = .ok (.aload 4, 2) := by decide +kernel
theorem d_P_writeTouched_75 : decode prog_7_method_12_code 75 = .ok (.invokevirtual 84, 3) := by decide +kernel
theorem d_P_writeTouched_78 : decode prog_7_method_12_code 78 = .ok (.return_, 1) := by decide +kernel
def W_P_writeTouched : Wl := ([(2, 3), (2, 4), (3, 0), (3, 1), (3, 2), (3, 3), (3, 4), (4, 0), (4, 1), (4, 2), (4, 3), (4, 4), (6, 0), (6, 1), (6, 2), (6, 3)], [103, 104, 105, 106])
def b_P_writeTouched_13 (y0 : Nat) (y1 : Option Nat) (y3 : Option Nat) (y4 : Option Nat) (y5 : Int32) (h : Hp) : Option ((Int32 × Hp) ⊕ (Hp)) :=
  if (nI 4) ≤ y5 then (some (.inr h)) else (gd (isK h y0 5) (cl (f_P_isMapChanged y0 y5 h) fun v11 h9 => if v11 = 0 then (if y3 = none then (some (.inl ((y5 + (1 : Int32)), h9))) else (dr y4 fun a15 => gd (isK h9 a15 4) (dr y3 fun a18 => gd (isK h9 a18 4) (dr (hpR h9 a18 4) fun a21 => gd (isK h9 a21 104) (gd (inb y5 (hpL h9 a21)) (dr (hpR h9 a15 4) fun a25 => gd (isK h9 a25 104) (gd (inb y5 (hpL h9 a25)) (gd (asV h9 (hpR h9 a21 y5.toNatClampNeg) a25) (nm (wR h9 a25 y5.toNatClampNeg (hpR h9 a21 y5.toNatClampNeg)) fun h30 => some (.inl ((y5 + (1 : Int32)), h30))))))))))) else (dr y4 fun a33 => gd (isK h9 a33 4) (gd (isK h9 y0 5) (cl (f_P_writeMap y0 y1 y5 y3 h9) fun v39 h37 => dr (hpR h9 a33 4) fun a41 => gd (isK h37 a41 104) (gd (inb y5 (hpL h37 a41)) (gd (asV h37 v39 a41) (nm (wR h37 a41 y5.toNatClampNeg v39) fun h46 => some (.inl ((y5 + (1 : Int32)), h46))))))))))
set_option maxRecDepth 100000 in
set_option maxHeartbeats 4000000 in
theorem zb_P_writeTouched_13 {l : Launch} {C : Ct} {mi : Nat} {y0 : Nat} {y1 : Option Nat} {y3 : Option Nat} {y4 : Option Nat} {y5 : Int32} {h h' : Hp} {q : ((Int32 × Hp) ⊕ (Hp))} (hf : b_P_writeTouched_13 y0 y1 y3 y4 y5 h = some q) (kc : ∀ s, q = .inl s → Z l C mi m_P_writeTouched 5 13 [(0, vr (some y0)), (1, vr y1), (3, vr y3), (4, vr y4), (5, vi s.1)] [] s.2 none h') (ke : ∀ x, q = .inr x → Z l C mi m_P_writeTouched 5 72 [(1, vr y1), (4, vr y4)] [] x none h') : Z l C mi m_P_writeTouched 5 13 [(0, vr (some y0)), (1, vr y1), (3, vr y3), (4, vr y4), (5, vi y5)] [] h none h' := by
  unfold b_P_writeTouched_13 at hf
  refine z_iload 4 d_P_writeTouched_13 rfl ?_
  refine z_iconst (v := (nI 4)) d_P_writeTouched_15 (by decide) ?_
  refine z_icmp_ge (tgt := 72) d_P_writeTouched_16 (by decide) (fun c7 => ?_) (fun c7 => ?_)
  · rw [if_pos c7] at hf
    refine z_ls [1, 3] rfl ?_
    exact ke h (Option.some.inj hf).symm
  · rw [if_neg c7] at hf
    refine z_aload_n 0 d_P_writeTouched_19 rfl rfl ?_
    refine z_iload 4 d_P_writeTouched_20 rfl ?_
    obtain ⟨g8, hf⟩ := gd_some hf
    obtain ⟨v11, h9, ec10, hf⟩ := cl_some hf
    refine z_callVx rfl (c_P_isMapChanged ec10) d_P_writeTouched_22 cw_P_isMapChanged lk_P_77 im_P_isMapChanged se_P_isMapChanged (kc_K (isK_eq g8) kc_5) ⟨by decide, by decide⟩ (Nat.le_of_ble_eq_true rfl) rfl ?_
    refine z_if_eq (tgt := 47) d_P_writeTouched_25 (by decide) (fun c13 => ?_) (fun c13 => ?_)
    · rw [if_pos c13] at hf
      refine z_aload_n 2 d_P_writeTouched_47 rfl rfl ?_
      refine z_ifnull (tgt := 66) d_P_writeTouched_48 (by decide) (fun c14 => ?_) (fun c14 => ?_)
      · rw [if_pos c14] at hf
        refine z_iinc (ls2 := [(5, vi (y5 + (1 : Int32))), (0, vr (some y0)), (1, vr y1), (3, vr y3), (4, vr y4)]) 4 d_P_writeTouched_66 rfl rfl (by decide) rfl ?_
        refine z_goto (tgt := 13) d_P_writeTouched_69 (by decide) ?_
        refine z_ls [1, 2, 3, 4, 0] rfl ?_
        exact kc ((y5 + (1 : Int32)), h9) (Option.some.inj hf).symm
      · rw [if_neg c14] at hf
        refine z_aload 3 d_P_writeTouched_51 rfl ?_
        obtain ⟨a15, e16, hf⟩ := dr_some hf
        obtain ⟨g17, hf⟩ := gd_some hf
        refine z_getR d_P_writeTouched_53 (fl_K (isK_eq g17) fl_P_35_4) (fi_K (isK_eq g17) rfl) e16 ?_
        refine z_iload 4 d_P_writeTouched_56 rfl ?_
        refine z_aload_n 2 d_P_writeTouched_58 rfl rfl ?_
        obtain ⟨a18, e19, hf⟩ := dr_some hf
        obtain ⟨g20, hf⟩ := gd_some hf
        refine z_getR d_P_writeTouched_59 (fl_K (isK_eq g20) fl_P_35_4) (fi_K (isK_eq g20) rfl) e19 ?_
        refine z_iload 4 d_P_writeTouched_62 rfl ?_
        obtain ⟨a21, e22, hf⟩ := dr_some hf
        obtain ⟨g23, hf⟩ := gd_some hf
        obtain ⟨g24, hf⟩ := gd_some hf
        refine z_aald d_P_writeTouched_64 e22 (by rw [isK_eq g23]; decide) (by rw [isK_eq g23]; decide) (inb_vp g24) ?_
        obtain ⟨a25, e26, hf⟩ := dr_some hf
        obtain ⟨g27, hf⟩ := gd_some hf
        obtain ⟨g28, hf⟩ := gd_some hf
        obtain ⟨g29, hf⟩ := gd_some hf
        obtain ⟨h30, eh31, hf⟩ := nm_some hf
        refine z_aast d_P_writeTouched_65 e26 (by rw [isK_eq g27]; decide) (by rw [isK_eq g27]; decide) (asV_ok g29) (inb_vp g28) ?_
        refine z_hp eh31 ?_
        refine z_iinc (ls2 := [(5, vi (y5 + (1 : Int32))), (0, vr (some y0)), (1, vr y1), (3, vr y3), (4, vr y4)]) 4 d_P_writeTouched_66 rfl rfl (by decide) rfl ?_
        refine z_goto (tgt := 13) d_P_writeTouched_69 (by decide) ?_
        refine z_ls [1, 2, 3, 4, 0] rfl ?_
        exact kc ((y5 + (1 : Int32)), h30) (Option.some.inj hf).symm
    · rw [if_neg c13] at hf
      refine z_aload 3 d_P_writeTouched_28 rfl ?_
      obtain ⟨a33, e34, hf⟩ := dr_some hf
      obtain ⟨g35, hf⟩ := gd_some hf
      refine z_getR d_P_writeTouched_30 (fl_K (isK_eq g35) fl_P_35_4) (fi_K (isK_eq g35) rfl) e34 ?_
      refine z_iload 4 d_P_writeTouched_33 rfl ?_
      refine z_aload_n 0 d_P_writeTouched_35 rfl rfl ?_
      refine z_aload_n 1 d_P_writeTouched_36 rfl rfl ?_
      refine z_iload 4 d_P_writeTouched_37 rfl ?_
      refine z_aload_n 2 d_P_writeTouched_39 rfl rfl ?_
      obtain ⟨g36, hf⟩ := gd_some hf
      obtain ⟨v39, h37, ec38, hf⟩ := cl_some hf
      refine z_callVx rfl (c_P_writeMap ec38) d_P_writeTouched_40 cw_P_writeMap lk_P_80 im_P_writeMap se_P_writeMap (kc_K (isK_eq g36) kc_5) ⟨by decide, by decide⟩ (Nat.le_of_ble_eq_true rfl) rfl ?_
      obtain ⟨a41, e42, hf⟩ := dr_some hf
      obtain ⟨g43, hf⟩ := gd_some hf
      obtain ⟨g44, hf⟩ := gd_some hf
      obtain ⟨g45, hf⟩ := gd_some hf
      obtain ⟨h46, eh47, hf⟩ := nm_some hf
      refine z_aast d_P_writeTouched_43 e42 (by rw [isK_eq g43]; decide) (by rw [isK_eq g43]; decide) (asV_ok g45) (inb_vp g44) ?_
      refine z_hp eh47 ?_
      refine z_goto (tgt := 66) d_P_writeTouched_44 (by decide) ?_
      refine z_iinc (ls2 := [(5, vi (y5 + (1 : Int32))), (0, vr (some y0)), (1, vr y1), (3, vr y3), (4, vr y4)]) 4 d_P_writeTouched_66 rfl rfl (by decide) rfl ?_
      refine z_goto (tgt := 13) d_P_writeTouched_69 (by decide) ?_
      refine z_ls [1, 2, 3, 4, 0] rfl ?_
      exact kc ((y5 + (1 : Int32)), h46) (Option.some.inj hf).symm
set_option maxRecDepth 100000 in
set_option maxHeartbeats 4000000 in
theorem kb_P_writeTouched_13 {C : Ct} {mi : Nat} {y0 : Nat} {y1 : Option Nat} {y3 : Option Nat} {y4 : Option Nat} {y5 : Int32} {h : Hp} {q : ((Int32 × Hp) ⊕ (Hp))} (hf : b_P_writeTouched_13 y0 y1 y3 y4 y5 h = some q) : Keep W_P_writeTouched h (Sum.elim (fun s : Int32 × Hp => s.2) (fun x : Hp => x) q) := by
  unfold b_P_writeTouched_13 at hf
  rcases Classical.em ((nI 4) ≤ y5) with c7 | c7
  · rw [if_pos c7] at hf
    cases (Option.some.inj hf)
    exact (Keep.refl W_P_writeTouched _)
  · rw [if_neg c7] at hf
    obtain ⟨g8, hf⟩ := gd_some hf
    obtain ⟨v11, h9, ec10, hf⟩ := cl_some hf
    have K12 := (Keep.refl W_P_writeTouched _).trans ((fr_P_isMapChanged (C := C) (mi := mi) ec10).mono (by decide) (by decide))
    rcases Classical.em (v11 = 0) with c13 | c13
    · rw [if_pos c13] at hf
      rcases Classical.em (y3 = none) with c14 | c14
      · rw [if_pos c14] at hf
        cases (Option.some.inj hf)
        exact K12
      · rw [if_neg c14] at hf
        obtain ⟨a15, e16, hf⟩ := dr_some hf
        obtain ⟨g17, hf⟩ := gd_some hf
        obtain ⟨a18, e19, hf⟩ := dr_some hf
        obtain ⟨g20, hf⟩ := gd_some hf
        obtain ⟨a21, e22, hf⟩ := dr_some hf
        obtain ⟨g23, hf⟩ := gd_some hf
        obtain ⟨g24, hf⟩ := gd_some hf
        obtain ⟨a25, e26, hf⟩ := dr_some hf
        obtain ⟨g27, hf⟩ := gd_some hf
        obtain ⟨g28, hf⟩ := gd_some hf
        obtain ⟨g29, hf⟩ := gd_some hf
        obtain ⟨h30, eh31, hf⟩ := nm_some hf
        have K32 := K12.trans (kw_R eh31 (isK_eq g27) (Or.inr (by decide)))
        cases (Option.some.inj hf)
        exact K32
    · rw [if_neg c13] at hf
      obtain ⟨a33, e34, hf⟩ := dr_some hf
      obtain ⟨g35, hf⟩ := gd_some hf
      obtain ⟨g36, hf⟩ := gd_some hf
      obtain ⟨v39, h37, ec38, hf⟩ := cl_some hf
      have K40 := K12.trans ((fr_P_writeMap (C := C) (mi := mi) ec38).mono (by decide) (by decide))
      obtain ⟨a41, e42, hf⟩ := dr_some hf
      obtain ⟨g43, hf⟩ := gd_some hf
      obtain ⟨g44, hf⟩ := gd_some hf
      obtain ⟨g45, hf⟩ := gd_some hf
      obtain ⟨h46, eh47, hf⟩ := nm_some hf
      have K48 := K40.trans (kw_R eh47 (isK_eq g43) (Or.inr (by decide)))
      cases (Option.some.inj hf)
      exact K48
def l_P_writeTouched_13 (y0 : Nat) (y1 : Option Nat) (y3 : Option Nat) (y4 : Option Nat) (s : Int32 × Hp) : Option (Hp) := lp (fun s => b_P_writeTouched_13 y0 y1 y3 y4 s.1 s.2) FU s
theorem zzl_P_writeTouched_13 {l : Launch} {C : Ct} {mi : Nat} {y0 : Nat} {y1 : Option Nat} {y3 : Option Nat} {y4 : Option Nat} {h' : Hp} : ∀ (n : Nat) (s : Int32 × Hp) (x : (Hp)), lp (fun s : Int32 × Hp => b_P_writeTouched_13 y0 y1 y3 y4 s.1 s.2) n s = some x → Z l C mi m_P_writeTouched 5 72 [(1, vr y1), (4, vr y4)] [] x none h' → Z l C mi m_P_writeTouched 5 13 [(0, vr (some y0)), (1, vr y1), (3, vr y3), (4, vr y4), (5, vi s.1)] [] s.2 none h' := by
  intro n
  induction n with
  | zero => intro s x hl; cases hl
  | succ n ih =>
    intro s x hl ke
    rcases lp_some hl with ⟨s2, hb, hl2⟩ | hb
    · exact zb_P_writeTouched_13 hb (fun s3 e3 => by cases e3; refine z_ls [0, 1, 2, 3, 4] rfl ?_; exact ih s2 x hl2 ke) (fun x e3 => by cases e3)
    · exact zb_P_writeTouched_13 hb (fun s3 e3 => by cases e3) (fun x e3 => by cases e3; exact ke)
theorem zl_P_writeTouched_13 {l : Launch} {C : Ct} {mi : Nat} {y0 : Nat} {y1 : Option Nat} {y3 : Option Nat} {y4 : Option Nat} {h' : Hp} {s : Int32 × Hp} {x : (Hp)} (hl : l_P_writeTouched_13 y0 y1 y3 y4 s = some x) (ke : Z l C mi m_P_writeTouched 5 72 [(1, vr y1), (4, vr y4)] [] x none h') : Z l C mi m_P_writeTouched 5 13 [(0, vr (some y0)), (1, vr y1), (3, vr y3), (4, vr y4), (5, vi s.1)] [] s.2 none h' := zzl_P_writeTouched_13 FU s x hl ke
theorem kl_P_writeTouched_13 {C : Ct} {mi : Nat} {y0 : Nat} {y1 : Option Nat} {y3 : Option Nat} {y4 : Option Nat} {s : Int32 × Hp} {q : (Hp)} (hl : l_P_writeTouched_13 y0 y1 y3 y4 s = some q) : Keep W_P_writeTouched s.2 ((fun x : Hp => x) q) := lpk (sh := (fun s : Int32 × Hp => s.2)) (rh := (fun x : Hp => x)) (fun s q hb => kb_P_writeTouched_13 (C := C) (mi := mi) hb) FU s q hl
def f_P_writeTouched (a0 : Nat) (p1 : Option Nat) (p2 : Int32) (p3 : Option Nat) (h : Hp) : Option Hp :=
  nm (nw h 4 0 5) fun h1 => cv (f_E_init (hpN h) p2 h1) fun h4 => bd (l_P_writeTouched_13 a0 p1 p3 (some (hpN h)) ((0 : Int32), h4)) fun x49 => dr p1 fun a52 => gd (isK x49 a52 2) (cv (f_K_close a52 (some (hpN h)) x49) fun h55 => some h55)
set_option maxRecDepth 100000 in
set_option maxHeartbeats 4000000 in
theorem zf_P_writeTouched {l : Launch} {C : Ct} {mi : Nat} {a0 : Nat} {p1 : Option Nat} {p2 : Int32} {p3 : Option Nat} {h h' : Hp} (hf : f_P_writeTouched a0 p1 p2 p3 h = some h') : Z l C mi m_P_writeTouched 5 0 [(0, vr (some a0)), (1, vr p1), (2, vi p2), (3, vr p3)] [] h none h' := by
  unfold f_P_writeTouched at hf
  obtain ⟨h1, eh2, hf⟩ := nm_some hf
  refine z_new (κ := 4) d_P_writeTouched_0 rfl (by decide +kernel) ?_
  refine z_hp eh2 ?_
  refine z_dup d_P_writeTouched_3 rfl ?_
  refine z_iload_n 2 d_P_writeTouched_4 rfl rfl ?_
  obtain ⟨h4, ec5, hf⟩ := cv_some hf
  refine z_callI (c_E_init ec5) d_P_writeTouched_5 rfl cw_E_init lk_P_74 im_E_init rfl ⟨by decide, by decide⟩ (Nat.le_of_ble_eq_true rfl) rfl ?_
  refine z_astore (ls2 := [(4, vr (some (hpN h))), (0, vr (some a0)), (1, vr p1), (2, vi p2), (3, vr p3)]) d_P_writeTouched_8 (by decide) rfl ?_
  refine z_iconst (v := (0 : Int32)) d_P_writeTouched_10 (by decide) ?_
  refine z_istore (ls2 := [(5, vi (0 : Int32)), (4, vr (some (hpN h))), (0, vr (some a0)), (1, vr p1), (2, vi p2), (3, vr p3)]) d_P_writeTouched_11 (by decide) rfl ?_
  obtain ⟨x49, el50, hf⟩ := bd_some hf
  refine z_ls [2, 3, 5, 1, 0] rfl ?_
  refine zl_P_writeTouched_13 el50 ?_
  refine z_aload_n 0 d_P_writeTouched_72 rfl rfl ?_
  refine z_aload 1 d_P_writeTouched_73 rfl ?_
  obtain ⟨a52, e53, hf⟩ := dr_some hf
  obtain ⟨g54, hf⟩ := gd_some hf
  obtain ⟨h55, ec56, hf⟩ := cv_some hf
  refine z_callVx e53 (c_K_close ec56) d_P_writeTouched_75 cw_K_close lk_P_84 im_K_close se_K_close (kc_K (isK_eq g54) kc_2) ⟨by decide, by decide⟩ (Nat.le_of_ble_eq_true rfl) rfl ?_
  cases (Option.some.inj hf)
  exact z_ret d_P_writeTouched_78 rfl
set_option maxRecDepth 100000 in
set_option maxHeartbeats 4000000 in
theorem fr_P_writeTouched {C : Ct} {mi : Nat} {a0 : Nat} {p1 : Option Nat} {p2 : Int32} {p3 : Option Nat} {h h' : Hp} (hf : f_P_writeTouched a0 p1 p2 p3 h = some h') : Keep W_P_writeTouched h h' := by
  unfold f_P_writeTouched at hf
  obtain ⟨h1, eh2, hf⟩ := nm_some hf
  have K3 := (Keep.refl W_P_writeTouched _).trans (kw_N eh2)
  obtain ⟨h4, ec5, hf⟩ := cv_some hf
  have K6 := K3.trans ((fr_E_init (C := C) (mi := mi) ec5).mono (by decide) (by decide))
  obtain ⟨x49, el50, hf⟩ := bd_some hf
  have K51 := K6.trans (kl_P_writeTouched_13 (C := C) (mi := mi) el50)
  obtain ⟨a52, e53, hf⟩ := dr_some hf
  obtain ⟨g54, hf⟩ := gd_some hf
  obtain ⟨h55, ec56, hf⟩ := cv_some hf
  have K57 := K51.trans ((fr_K_close (C := C) (mi := mi) ec56).mono (by decide) (by decide))
  cases (Option.some.inj hf)
  exact K57
theorem c_P_writeTouched {l : Launch} {C : Ct} {mi : Nat} {a0 : Nat} {p1 : Option Nat} {p2 : Int32} {p3 : Option Nat} {h h' : Hp} (hf : f_P_writeTouched a0 p1 p2 p3 h = some h') : Mt l C mi m_P_writeTouched 5 [vr (some a0), vr p1, vi p2, vr p3] h none h' := mt_V rfl rfl (by decide) (Nat.le_of_ble_eq_true rfl) (zf_P_writeTouched hf)
-- VersionMaps$Present.forgetTouched()V
def m_P_forgetTouched : Mi := (⟨"VersionMaps$Present", "forgetTouched", "()V"⟩, prog_7_method_8_code, 1, (Option.none : Option Jvm.ClassFile.FieldType), .return_)
theorem cw_P_forgetTouched : cw_ok m_P_forgetTouched 0 := ⟨by decide +kernel, by decide +kernel, by decide +kernel, by decide +kernel⟩
theorem im_P_forgetTouched : Cond.instanceMethod m_P_forgetTouched.1 ∈ lw_w := by decide +kernel
theorem se_P_forgetTouched : Cond.selects "VersionMaps$Present" m_P_forgetTouched.1 m_P_forgetTouched.1 ∈ lw_w := by decide +kernel
theorem d_P_forgetTouched_0 : decode prog_7_method_8_code 0 = .ok (.aload_n 0, 1) := by decide +kernel
theorem d_P_forgetTouched_1 : decode prog_7_method_8_code 1 = .ok (.iconst 0, 1) := by decide +kernel
theorem d_P_forgetTouched_2 : decode prog_7_method_8_code 2 = .ok (.putfield 18, 3) := by decide +kernel
theorem d_P_forgetTouched_5 : decode prog_7_method_8_code 5 = .ok (.aload_n 0, 1) := by decide +kernel
theorem d_P_forgetTouched_6 : decode prog_7_method_8_code 6 = .ok (.iconst 0, 1) := by decide +kernel
theorem d_P_forgetTouched_7 : decode prog_7_method_8_code 7 = .ok (.putfield 22, 3) := by decide +kernel
theorem d_P_forgetTouched_10 : decode prog_7_method_8_code 10 = .ok (.return_, 1) := by decide +kernel
def W_P_forgetTouched : Wl := ([(5, 2), (5, 3)], [])
def f_P_forgetTouched (a0 : Nat) (h : Hp) : Option Hp :=
  gd (isK h a0 5) (nm (wI h a0 2 (0 : Int32)) fun h2 => nm (wI h2 a0 3 (0 : Int32)) fun h5 => some h5)
set_option maxRecDepth 100000 in
set_option maxHeartbeats 4000000 in
theorem zf_P_forgetTouched {l : Launch} {C : Ct} {mi : Nat} {a0 : Nat} {h h' : Hp} (hf : f_P_forgetTouched a0 h = some h') : Z l C mi m_P_forgetTouched 0 0 [(0, vr (some a0))] [] h none h' := by
  unfold f_P_forgetTouched at hf
  refine z_aload_n 0 d_P_forgetTouched_0 rfl rfl ?_
  refine z_iconst (v := (0 : Int32)) d_P_forgetTouched_1 (by decide) ?_
  obtain ⟨g1, hf⟩ := gd_some hf
  obtain ⟨h2, eh3, hf⟩ := nm_some hf
  refine z_putI d_P_forgetTouched_2 (fl_K (isK_eq g1) fl_P_18_5) (pu_K (isK_eq g1) (fun q hq => by cases (Option.some.inj hq); exact Or.inl rfl)) (fi_K (isK_eq g1) rfl) rfl ?_
  refine z_hp eh3 ?_
  refine z_aload_n 0 d_P_forgetTouched_5 rfl rfl ?_
  refine z_iconst (v := (0 : Int32)) d_P_forgetTouched_6 (by decide) ?_
  obtain ⟨h5, eh6, hf⟩ := nm_some hf
  refine z_putI d_P_forgetTouched_7 (fl_K (isK_eq (isK_wI eh3 g1)) fl_P_22_5) (pu_K (isK_eq (isK_wI eh3 g1)) (fun q hq => by cases (Option.some.inj hq); exact Or.inl rfl)) (fi_K (isK_eq (isK_wI eh3 g1)) rfl) rfl ?_
  refine z_hp eh6 ?_
  cases (Option.some.inj hf)
  exact z_ret d_P_forgetTouched_10 rfl
set_option maxRecDepth 100000 in
set_option maxHeartbeats 4000000 in
theorem fr_P_forgetTouched {C : Ct} {mi : Nat} {a0 : Nat} {h h' : Hp} (hf : f_P_forgetTouched a0 h = some h') : Keep W_P_forgetTouched h h' := by
  unfold f_P_forgetTouched at hf
  obtain ⟨g1, hf⟩ := gd_some hf
  obtain ⟨h2, eh3, hf⟩ := nm_some hf
  have K4 := (Keep.refl W_P_forgetTouched _).trans (kw_I eh3 (isK_eq g1) (Or.inl (by decide)))
  obtain ⟨h5, eh6, hf⟩ := nm_some hf
  have K7 := K4.trans (kw_I eh6 (isK_eq (isK_wI eh3 g1)) (Or.inl (by decide)))
  cases (Option.some.inj hf)
  exact K7
theorem c_P_forgetTouched {l : Launch} {C : Ct} {mi : Nat} {a0 : Nat} {h h' : Hp} (hf : f_P_forgetTouched a0 h = some h') : Mt l C mi m_P_forgetTouched 0 [vr (some a0)] h none h' := mt_V rfl rfl (by decide) (Nat.le_of_ble_eq_true rfl) (zf_P_forgetTouched hf)
-- VersionMaps$Chunk.blockCount()I
def m_K_blockCount : Mi := (⟨"VersionMaps$Chunk", "blockCount", "()I"⟩, prog_3_method_4_code, 1, (Option.some Jvm.ClassFile.FieldType.int), .ireturn)
theorem cw_K_blockCount : cw_ok m_K_blockCount 0 := ⟨by decide +kernel, by decide +kernel, by decide +kernel, by decide +kernel⟩
theorem im_K_blockCount : Cond.instanceMethod m_K_blockCount.1 ∈ lw_w := by decide +kernel
theorem se_K_blockCount : Cond.selects "VersionMaps$Chunk" m_K_blockCount.1 m_K_blockCount.1 ∈ lw_w := by decide +kernel
theorem d_K_blockCount_0 : decode prog_3_method_4_code 0 = .ok (.aload_n 0, 1) := by decide +kernel
theorem d_K_blockCount_1 : decode prog_3_method_4_code 1 = .ok (.getfield 25, 3) := by decide +kernel
theorem d_K_blockCount_4 : decode prog_3_method_4_code 4 = .ok (.arraylength, 1) := by decide +kernel
theorem d_K_blockCount_5 : decode prog_3_method_4_code 5 = .ok (.invokestatic 40, 3) := by decide +kernel
theorem d_K_blockCount_8 : decode prog_3_method_4_code 8 = .ok (.ireturn, 1) := by decide +kernel
def W_K_blockCount : Wl := ([], [])
def f_K_blockCount (a0 : Nat) (h : Hp) : Option (Int32 × Hp) :=
  gd (isK h a0 2) (dr (hpR h a0 2) fun a2 => gd (isK h a2 103) (cl (f_X_blocksFor (Int32.ofNat (hpL h a2)) h) fun v7 h5 => some (v7, h5)))
set_option maxRecDepth 100000 in
set_option maxHeartbeats 4000000 in
theorem zf_K_blockCount {l : Launch} {C : Ct} {mi : Nat} {a0 : Nat} {h h' : Hp} {v : Int32} (hf : f_K_blockCount a0 h = some (v, h')) : Z l C mi m_K_blockCount 1 0 [(0, vr (some a0))] [] h (some (vi v)) h' := by
  unfold f_K_blockCount at hf
  refine z_aload_n 0 d_K_blockCount_0 rfl rfl ?_
  obtain ⟨g1, hf⟩ := gd_some hf
  refine z_getR d_K_blockCount_1 (fl_K (isK_eq g1) fl_K_25_2) (fi_K (isK_eq g1) rfl) rfl ?_
  obtain ⟨a2, e3, hf⟩ := dr_some hf
  obtain ⟨g4, hf⟩ := gd_some hf
  refine z_alen d_K_blockCount_4 e3 (by rw [isK_eq g4]; decide) ?_
  obtain ⟨v7, h5, ec6, hf⟩ := cl_some hf
  refine z_callSN (host := "VersionMaps") (c_X_blocksFor ec6) d_K_blockCount_5 cw_X_blocksFor lk_K_40 (by decide +kernel) ⟨by decide, by decide⟩ (Nat.le_of_ble_eq_true rfl) rfl ?_
  obtain ⟨rfl, rfl⟩ := Prod.mk.inj (Option.some.inj hf)
  exact z_ret d_K_blockCount_8 rfl
set_option maxRecDepth 100000 in
set_option maxHeartbeats 4000000 in
theorem fr_K_blockCount {C : Ct} {mi : Nat} {a0 : Nat} {h h' : Hp} {v : Int32} (hf : f_K_blockCount a0 h = some (v, h')) : Keep W_K_blockCount h h' := by
  unfold f_K_blockCount at hf
  obtain ⟨g1, hf⟩ := gd_some hf
  obtain ⟨a2, e3, hf⟩ := dr_some hf
  obtain ⟨g4, hf⟩ := gd_some hf
  obtain ⟨v7, h5, ec6, hf⟩ := cl_some hf
  have K8 := (Keep.refl W_K_blockCount _).trans ((fr_X_blocksFor (C := C) (mi := mi) ec6).mono (by decide) (by decide))
  obtain ⟨rfl, rfl⟩ := Prod.mk.inj (Option.some.inj hf)
  exact K8
theorem c_K_blockCount {l : Launch} {C : Ct} {mi : Nat} {a0 : Nat} {h h' : Hp} {v : Int32} (hf : f_K_blockCount a0 h = some (v, h')) : Mt l C mi m_K_blockCount 1 [vr (some a0)] h (some (vi v)) h' := mt_I (ty := .int) rfl rfl rfl (by decide) (Nat.le_of_ble_eq_true rfl) (zf_K_blockCount hf)
-- VersionMaps$Root.markLive(I)V
def m_O_markLive : Mi := (⟨"VersionMaps$Root", "markLive", "(I)V"⟩, prog_8_method_2_code, 3, (Option.none : Option Jvm.ClassFile.FieldType), .return_)
theorem cw_O_markLive : cw_ok m_O_markLive 1 := ⟨by decide +kernel, by decide +kernel, by decide +kernel, by decide +kernel⟩
theorem im_O_markLive : Cond.instanceMethod m_O_markLive.1 ∈ lw_w := by decide +kernel
theorem se_O_markLive : Cond.selects "VersionMaps$Root" m_O_markLive.1 m_O_markLive.1 ∈ lw_w := by decide +kernel
theorem d_O_markLive_0 : decode prog_8_method_2_code 0 = .ok (.aload_n 0, 1) := by decide +kernel
theorem d_O_markLive_1 : decode prog_8_method_2_code 1 = .ok (.iload_n 1, 1) := by decide +kernel
theorem d_O_markLive_2 : decode prog_8_method_2_code 2 = .ok (.putfield 17, 3) := by decide +kernel
theorem d_O_markLive_5 : decode prog_8_method_2_code 5 = .ok (.iconst 0, 1) := by decide +kernel
theorem d_O_markLive_6 : decode prog_8_method_2_code 6 = .ok (.istore_n 2, 1) := by decide +kernel
theorem d_O_markLive_7 : decode prog_8_method_2_code 7 = .ok (.iload_n 2, 1) := by decide +kernel
theorem d_O_markLive_8 : decode prog_8_method_2_code 8 = .ok (.iconst 4, 1) := by decide +kernel
theorem d_O_markLive_9 : decode prog_8_method_2_code 9 = .ok (.if_icmp .ge 28, 3) := by decide +kernel
theorem d_O_markLive_12 : decode prog_8_method_2_code 12 = .ok (.aload_n 0, 1) := by decide +kernel
theorem d_O_markLive_13 : decode prog_8_method_2_code 13 = .ok (.getfield 11, 3) := by decide +kernel
theorem d_O_markLive_16 : decode prog_8_method_2_code 16 = .ok (.iload_n 2, 1) := by decide +kernel
theorem d_O_markLive_17 : decode prog_8_method_2_code 17 = .ok (.aaload, 1) := by decide +kernel
theorem d_O_markLive_18 : decode prog_8_method_2_code 18 = .ok (.ifnull 13, 3) := by decide +kernel
theorem d_O_markLive_21 : decode prog_8_method_2_code 21 = .ok (.aload_n 0, 1) := by decide +kernel
theorem d_O_markLive_22 : decode prog_8_method_2_code 22 = .ok (.getfield 11, 3) := by decide +kernel
theorem d_O_markLive_25 : decode prog_8_method_2_code 25 = .ok (.iload_n 2, 1) := by decide +kernel
theorem d_O_markLive_26 : decode prog_8_method_2_code 26 = .ok (.aaload, 1) := by decide +kernel
theorem d_O_markLive_27 : decode prog_8_method_2_code 27 = .ok (.iload_n 1, 1) := by decide +kernel
theorem d_O_markLive_28 : decode prog_8_method_2_code 28 = .ok (.putfield 21, 3) := by decide +kernel
theorem d_O_markLive_31 : decode prog_8_method_2_code 31 = .ok (.iinc 2 1, 3) := by decide +kernel
theorem d_O_markLive_34 : decode prog_8_method_2_code 34 = .ok (.goto (-27), 3) := by decide +kernel
theorem d_O_markLive_37 : decode prog_8_method_2_code 37 = .ok (.return_, 1) := by decide +kernel
def W_O_markLive : Wl := ([(3, 2), (6, 2)], [])
def b_O_markLive_7 (y0 : Nat) (y1 : Int32) (y2 : Int32) (h : Hp) : Option ((Int32 × Hp) ⊕ (Hp)) :=
  if (nI 4) ≤ y2 then (some (.inr h)) else (gd (isK h y0 6) (dr (hpR h y0 3) fun a7 => gd (isK h a7 105) (gd (inb y2 (hpL h a7)) (if (hpR h a7 y2.toNatClampNeg) = none then (some (.inl ((y2 + (1 : Int32)), h))) else (dr (hpR h a7 y2.toNatClampNeg) fun a12 => gd (isK h a12 3) (nm (wI h a12 2 y1) fun h15 => some (.inl ((y2 + (1 : Int32)), h15))))))))
set_option maxRecDepth 100000 in
set_option maxHeartbeats 4000000 in
theorem zb_O_markLive_7 {l : Launch} {C : Ct} {mi : Nat} {y0 : Nat} {y1 : Int32} {y2 : Int32} {h h' : Hp} {q : ((Int32 × Hp) ⊕ (Hp))} (hf : b_O_markLive_7 y0 y1 y2 h = some q) (kc : ∀ s, q = .inl s → Z l C mi m_O_markLive 0 7 [(0, vr (some y0)), (1, vi y1), (2, vi s.1)] [] s.2 none h') (ke : ∀ x, q = .inr x → Z l C mi m_O_markLive 0 37 [] [] x none h') : Z l C mi m_O_markLive 0 7 [(0, vr (some y0)), (1, vi y1), (2, vi y2)] [] h none h' := by
  unfold b_O_markLive_7 at hf
  refine z_iload_n 2 d_O_markLive_7 rfl rfl ?_
  refine z_iconst (v := (nI 4)) d_O_markLive_8 (by decide) ?_
  refine z_icmp_ge (tgt := 37) d_O_markLive_9 (by decide) (fun c5 => ?_) (fun c5 => ?_)
  · rw [if_pos c5] at hf
    refine z_ls [] rfl ?_
    exact ke h (Option.some.inj hf).symm
  · rw [if_neg c5] at hf
    refine z_aload_n 0 d_O_markLive_12 rfl rfl ?_
    obtain ⟨g6, hf⟩ := gd_some hf
    refine z_getR d_O_markLive_13 (fl_K (isK_eq g6) fl_O_11_6) (fi_K (isK_eq g6) rfl) rfl ?_
    refine z_iload_n 2 d_O_markLive_16 rfl rfl ?_
    obtain ⟨a7, e8, hf⟩ := dr_some hf
    obtain ⟨g9, hf⟩ := gd_some hf
    obtain ⟨g10, hf⟩ := gd_some hf
    refine z_aald d_O_markLive_17 e8 (by rw [isK_eq g9]; decide) (by rw [isK_eq g9]; decide) (inb_vp g10) ?_
    refine z_ifnull (tgt := 31) d_O_markLive_18 (by decide) (fun c11 => ?_) (fun c11 => ?_)
    · rw [if_pos c11] at hf
      refine z_iinc (ls2 := [(2, vi (y2 + (1 : Int32))), (0, vr (some y0)), (1, vi y1)]) 2 d_O_markLive_31 rfl rfl (by decide) rfl ?_
      refine z_goto (tgt := 7) d_O_markLive_34 (by decide) ?_
      refine z_ls [1, 2, 0] rfl ?_
      exact kc ((y2 + (1 : Int32)), h) (Option.some.inj hf).symm
    · rw [if_neg c11] at hf
      refine z_aload_n 0 d_O_markLive_21 rfl rfl ?_
      refine z_getR d_O_markLive_22 (fl_K (isK_eq g6) fl_O_11_6) (fi_K (isK_eq g6) rfl) rfl ?_
      refine z_iload_n 2 d_O_markLive_25 rfl rfl ?_
      refine z_aald d_O_markLive_26 e8 (by rw [isK_eq g9]; decide) (by rw [isK_eq g9]; decide) (inb_vp g10) ?_
      refine z_iload_n 1 d_O_markLive_27 rfl rfl ?_
      obtain ⟨a12, e13, hf⟩ := dr_some hf
      obtain ⟨g14, hf⟩ := gd_some hf
      obtain ⟨h15, eh16, hf⟩ := nm_some hf
      refine z_putI d_O_markLive_28 (fl_K (isK_eq g14) fl_O_21_3) (pu_K (isK_eq g14) (fun q hq => by cases (Option.some.inj hq); exact Or.inl rfl)) (fi_K (isK_eq g14) rfl) e13 ?_
      refine z_hp eh16 ?_
      refine z_iinc (ls2 := [(2, vi (y2 + (1 : Int32))), (0, vr (some y0)), (1, vi y1)]) 2 d_O_markLive_31 rfl rfl (by decide) rfl ?_
      refine z_goto (tgt := 7) d_O_markLive_34 (by decide) ?_
      refine z_ls [1, 2, 0] rfl ?_
      exact kc ((y2 + (1 : Int32)), h15) (Option.some.inj hf).symm
set_option maxRecDepth 100000 in
set_option maxHeartbeats 4000000 in
theorem kb_O_markLive_7 {C : Ct} {mi : Nat} {y0 : Nat} {y1 : Int32} {y2 : Int32} {h : Hp} {q : ((Int32 × Hp) ⊕ (Hp))} (hf : b_O_markLive_7 y0 y1 y2 h = some q) : Keep W_O_markLive h (Sum.elim (fun s : Int32 × Hp => s.2) (fun x : Hp => x) q) := by
  unfold b_O_markLive_7 at hf
  rcases Classical.em ((nI 4) ≤ y2) with c5 | c5
  · rw [if_pos c5] at hf
    cases (Option.some.inj hf)
    exact (Keep.refl W_O_markLive _)
  · rw [if_neg c5] at hf
    obtain ⟨g6, hf⟩ := gd_some hf
    obtain ⟨a7, e8, hf⟩ := dr_some hf
    obtain ⟨g9, hf⟩ := gd_some hf
    obtain ⟨g10, hf⟩ := gd_some hf
    rcases Classical.em ((hpR h a7 y2.toNatClampNeg) = none) with c11 | c11
    · rw [if_pos c11] at hf
      cases (Option.some.inj hf)
      exact (Keep.refl W_O_markLive _)
    · rw [if_neg c11] at hf
      obtain ⟨a12, e13, hf⟩ := dr_some hf
      obtain ⟨g14, hf⟩ := gd_some hf
      obtain ⟨h15, eh16, hf⟩ := nm_some hf
      have K17 := (Keep.refl W_O_markLive _).trans (kw_I eh16 (isK_eq g14) (Or.inl (by decide)))
      cases (Option.some.inj hf)
      exact K17
def l_O_markLive_7 (y0 : Nat) (y1 : Int32) (s : Int32 × Hp) : Option (Hp) := lp (fun s => b_O_markLive_7 y0 y1 s.1 s.2) FU s
theorem zzl_O_markLive_7 {l : Launch} {C : Ct} {mi : Nat} {y0 : Nat} {y1 : Int32} {h' : Hp} : ∀ (n : Nat) (s : Int32 × Hp) (x : (Hp)), lp (fun s : Int32 × Hp => b_O_markLive_7 y0 y1 s.1 s.2) n s = some x → Z l C mi m_O_markLive 0 37 [] [] x none h' → Z l C mi m_O_markLive 0 7 [(0, vr (some y0)), (1, vi y1), (2, vi s.1)] [] s.2 none h' := by
  intro n
  induction n with
  | zero => intro s x hl; cases hl
  | succ n ih =>
    intro s x hl ke
    rcases lp_some hl with ⟨s2, hb, hl2⟩ | hb
    · exact zb_O_markLive_7 hb (fun s3 e3 => by cases e3; refine z_ls [0, 1, 2] rfl ?_; exact ih s2 x hl2 ke) (fun x e3 => by cases e3)
    · exact zb_O_markLive_7 hb (fun s3 e3 => by cases e3) (fun x e3 => by cases e3; exact ke)
theorem zl_O_markLive_7 {l : Launch} {C : Ct} {mi : Nat} {y0 : Nat} {y1 : Int32} {h' : Hp} {s : Int32 × Hp} {x : (Hp)} (hl : l_O_markLive_7 y0 y1 s = some x) (ke : Z l C mi m_O_markLive 0 37 [] [] x none h') : Z l C mi m_O_markLive 0 7 [(0, vr (some y0)), (1, vi y1), (2, vi s.1)] [] s.2 none h' := zzl_O_markLive_7 FU s x hl ke
theorem kl_O_markLive_7 {C : Ct} {mi : Nat} {y0 : Nat} {y1 : Int32} {s : Int32 × Hp} {q : (Hp)} (hl : l_O_markLive_7 y0 y1 s = some q) : Keep W_O_markLive s.2 ((fun x : Hp => x) q) := lpk (sh := (fun s : Int32 × Hp => s.2)) (rh := (fun x : Hp => x)) (fun s q hb => kb_O_markLive_7 (C := C) (mi := mi) hb) FU s q hl
def f_O_markLive (a0 : Nat) (p1 : Int32) (h : Hp) : Option Hp :=
  gd (isK h a0 6) (nm (wI h a0 2 p1) fun h2 => bd (l_O_markLive_7 a0 p1 ((0 : Int32), h2)) fun x18 => some x18)
set_option maxRecDepth 100000 in
set_option maxHeartbeats 4000000 in
theorem zf_O_markLive {l : Launch} {C : Ct} {mi : Nat} {a0 : Nat} {p1 : Int32} {h h' : Hp} (hf : f_O_markLive a0 p1 h = some h') : Z l C mi m_O_markLive 0 0 [(0, vr (some a0)), (1, vi p1)] [] h none h' := by
  unfold f_O_markLive at hf
  refine z_aload_n 0 d_O_markLive_0 rfl rfl ?_
  refine z_iload_n 1 d_O_markLive_1 rfl rfl ?_
  obtain ⟨g1, hf⟩ := gd_some hf
  obtain ⟨h2, eh3, hf⟩ := nm_some hf
  refine z_putI d_O_markLive_2 (fl_K (isK_eq g1) fl_O_17_6) (pu_K (isK_eq g1) (fun q hq => by cases (Option.some.inj hq); exact Or.inl rfl)) (fi_K (isK_eq g1) rfl) rfl ?_
  refine z_hp eh3 ?_
  refine z_iconst (v := (0 : Int32)) d_O_markLive_5 (by decide) ?_
  refine z_istore_n (ls2 := [(2, vi (0 : Int32)), (0, vr (some a0)), (1, vi p1)]) d_O_markLive_6 rfl (by decide) rfl ?_
  obtain ⟨x18, el19, hf⟩ := bd_some hf
  refine z_ls [1, 2, 0] rfl ?_
  refine zl_O_markLive_7 el19 ?_
  cases (Option.some.inj hf)
  exact z_ret d_O_markLive_37 rfl
set_option maxRecDepth 100000 in
set_option maxHeartbeats 4000000 in
theorem fr_O_markLive {C : Ct} {mi : Nat} {a0 : Nat} {p1 : Int32} {h h' : Hp} (hf : f_O_markLive a0 p1 h = some h') : Keep W_O_markLive h h' := by
  unfold f_O_markLive at hf
  obtain ⟨g1, hf⟩ := gd_some hf
  obtain ⟨h2, eh3, hf⟩ := nm_some hf
  have K4 := (Keep.refl W_O_markLive _).trans (kw_I eh3 (isK_eq g1) (Or.inl (by decide)))
  obtain ⟨x18, el19, hf⟩ := bd_some hf
  have K20 := K4.trans (kl_O_markLive_7 (C := C) (mi := mi) el19)
  cases (Option.some.inj hf)
  exact K20
theorem c_O_markLive {l : Launch} {C : Ct} {mi : Nat} {a0 : Nat} {p1 : Int32} {h h' : Hp} (hf : f_O_markLive a0 p1 h = some h') : Mt l C mi m_O_markLive 0 [vr (some a0), vi p1] h none h' := mt_V rfl rfl (by decide) (Nat.le_of_ble_eq_true rfl) (zf_O_markLive hf)
-- VersionMaps$Meta.markLive(I)V
def m_E_markLive : Mi := (⟨"VersionMaps$Meta", "markLive", "(I)V"⟩, prog_5_method_4_code, 3, (Option.none : Option Jvm.ClassFile.FieldType), .return_)
theorem cw_E_markLive : cw_ok m_E_markLive 1 := ⟨by decide +kernel, by decide +kernel, by decide +kernel, by decide +kernel⟩
theorem im_E_markLive : Cond.instanceMethod m_E_markLive.1 ∈ lw_w := by decide +kernel
theorem se_E_markLive : Cond.selects "VersionMaps$Meta" m_E_markLive.1 m_E_markLive.1 ∈ lw_w := by decide +kernel
theorem d_E_markLive_0 : decode prog_5_method_4_code 0 = .ok (.aload_n 0, 1) := by decide +kernel
theorem d_E_markLive_1 : decode prog_5_method_4_code 1 = .ok (.iload_n 1, 1) := by decide +kernel
theorem d_E_markLive_2 : decode prog_5_method_4_code 2 = .ok (.putfield 40, 3) := by decide +kernel
theorem d_E_markLive_5 : decode prog_5_method_4_code 5 = .ok (.iconst 0, 1) := by decide +kernel
theorem d_E_markLive_6 : decode prog_5_method_4_code 6 = .ok (.istore_n 2, 1) := by decide +kernel
theorem d_E_markLive_7 : decode prog_5_method_4_code 7 = .ok (.iload_n 2, 1) := by decide +kernel
theorem d_E_markLive_8 : decode prog_5_method_4_code 8 = .ok (.iconst 4, 1) := by decide +kernel
theorem d_E_markLive_9 : decode prog_5_method_4_code 9 = .ok (.if_icmp .ge 28, 3) := by decide +kernel
theorem d_E_markLive_12 : decode prog_5_method_4_code 12 = .ok (.aload_n 0, 1) := by decide +kernel
theorem d_E_markLive_13 : decode prog_5_method_4_code 13 = .ok (.getfield 11, 3) := by decide +kernel
theorem d_E_markLive_16 : decode prog_5_method_4_code 16 = .ok (.iload_n 2, 1) := by decide +kernel
theorem d_E_markLive_17 : decode prog_5_method_4_code 17 = .ok (.aaload, 1) := by decide +kernel
theorem d_E_markLive_18 : decode prog_5_method_4_code 18 = .ok (.ifnull 13, 3) := by decide +kernel
theorem d_E_markLive_21 : decode prog_5_method_4_code 21 = .ok (.aload_n 0, 1) := by decide +kernel
theorem d_E_markLive_22 : decode prog_5_method_4_code 22 = .ok (.getfield 11, 3) := by decide +kernel
theorem d_E_markLive_25 : decode prog_5_method_4_code 25 = .ok (.iload_n 2, 1) := by decide +kernel
theorem d_E_markLive_26 : decode prog_5_method_4_code 26 = .ok (.aaload, 1) := by decide +kernel
theorem d_E_markLive_27 : decode prog_5_method_4_code 27 = .ok (.iload_n 1, 1) := by decide +kernel
theorem d_E_markLive_28 : decode prog_5_method_4_code 28 = .ok (.invokevirtual 43, 3) := by decide +kernel
theorem d_E_markLive_31 : decode prog_5_method_4_code 31 = .ok (.iinc 2 1, 3) := by decide +kernel
theorem d_E_markLive_34 : decode prog_5_method_4_code 34 = .ok (.goto (-27), 3) := by decide +kernel
theorem d_E_markLive_37 : decode prog_5_method_4_code 37 = .ok (.return_, 1) := by decide +kernel
def W_E_markLive : Wl := ([(3, 2), (4, 2), (6, 2)], [])
def b_E_markLive_7 (y0 : Nat) (y1 : Int32) (y2 : Int32) (h : Hp) : Option ((Int32 × Hp) ⊕ (Hp)) :=
  if (nI 4) ≤ y2 then (some (.inr h)) else (gd (isK h y0 4) (dr (hpR h y0 4) fun a7 => gd (isK h a7 104) (gd (inb y2 (hpL h a7)) (if (hpR h a7 y2.toNatClampNeg) = none then (some (.inl ((y2 + (1 : Int32)), h))) else (dr (hpR h a7 y2.toNatClampNeg) fun a12 => gd (isK h a12 6) (cv (f_O_markLive a12 y1 h) fun h15 => some (.inl ((y2 + (1 : Int32)), h15))))))))
set_option maxRecDepth 100000 in
set_option maxHeartbeats 4000000 in
theorem zb_E_markLive_7 {l : Launch} {C : Ct} {mi : Nat} {y0 : Nat} {y1 : Int32} {y2 : Int32} {h h' : Hp} {q : ((Int32 × Hp) ⊕ (Hp))} (hf : b_E_markLive_7 y0 y1 y2 h = some q) (kc : ∀ s, q = .inl s → Z l C mi m_E_markLive 1 7 [(0, vr (some y0)), (1, vi y1), (2, vi s.1)] [] s.2 none h') (ke : ∀ x, q = .inr x → Z l C mi m_E_markLive 1 37 [] [] x none h') : Z l C mi m_E_markLive 1 7 [(0, vr (some y0)), (1, vi y1), (2, vi y2)] [] h none h' := by
  unfold b_E_markLive_7 at hf
  refine z_iload_n 2 d_E_markLive_7 rfl rfl ?_
  refine z_iconst (v := (nI 4)) d_E_markLive_8 (by decide) ?_
  refine z_icmp_ge (tgt := 37) d_E_markLive_9 (by decide) (fun c5 => ?_) (fun c5 => ?_)
  · rw [if_pos c5] at hf
    refine z_ls [] rfl ?_
    exact ke h (Option.some.inj hf).symm
  · rw [if_neg c5] at hf
    refine z_aload_n 0 d_E_markLive_12 rfl rfl ?_
    obtain ⟨g6, hf⟩ := gd_some hf
    refine z_getR d_E_markLive_13 (fl_K (isK_eq g6) fl_E_11_4) (fi_K (isK_eq g6) rfl) rfl ?_
    refine z_iload_n 2 d_E_markLive_16 rfl rfl ?_
    obtain ⟨a7, e8, hf⟩ := dr_some hf
    obtain ⟨g9, hf⟩ := gd_some hf
    obtain ⟨g10, hf⟩ := gd_some hf
    refine z_aald d_E_markLive_17 e8 (by rw [isK_eq g9]; decide) (by rw [isK_eq g9]; decide) (inb_vp g10) ?_
    refine z_ifnull (tgt := 31) d_E_markLive_18 (by decide) (fun c11 => ?_) (fun c11 => ?_)
    · rw [if_pos c11] at hf
      refine z_iinc (ls2 := [(2, vi (y2 + (1 : Int32))), (0, vr (some y0)), (1, vi y1)]) 2 d_E_markLive_31 rfl rfl (by decide) rfl ?_
      refine z_goto (tgt := 7) d_E_markLive_34 (by decide) ?_
      refine z_ls [1, 2, 0] rfl ?_
      exact kc ((y2 + (1 : Int32)), h) (Option.some.inj hf).symm
    · rw [if_neg c11] at hf
      refine z_aload_n 0 d_E_markLive_21 rfl rfl ?_
      refine z_getR d_E_markLive_22 (fl_K (isK_eq g6) fl_E_11_4) (fi_K (isK_eq g6) rfl) rfl ?_
      refine z_iload_n 2 d_E_markLive_25 rfl rfl ?_
      refine z_aald d_E_markLive_26 e8 (by rw [isK_eq g9]; decide) (by rw [isK_eq g9]; decide) (inb_vp g10) ?_
      refine z_iload_n 1 d_E_markLive_27 rfl rfl ?_
      obtain ⟨a12, e13, hf⟩ := dr_some hf
      obtain ⟨g14, hf⟩ := gd_some hf
      obtain ⟨h15, ec16, hf⟩ := cv_some hf
      refine z_callVx e13 (c_O_markLive ec16) d_E_markLive_28 cw_O_markLive lk_E_43 im_O_markLive se_O_markLive (kc_K (isK_eq g14) kc_6) ⟨by decide, by decide⟩ (Nat.le_of_ble_eq_true rfl) rfl ?_
      refine z_iinc (ls2 := [(2, vi (y2 + (1 : Int32))), (0, vr (some y0)), (1, vi y1)]) 2 d_E_markLive_31 rfl rfl (by decide) rfl ?_
      refine z_goto (tgt := 7) d_E_markLive_34 (by decide) ?_
      refine z_ls [1, 2, 0] rfl ?_
      exact kc ((y2 + (1 : Int32)), h15) (Option.some.inj hf).symm
set_option maxRecDepth 100000 in
set_option maxHeartbeats 4000000 in
theorem kb_E_markLive_7 {C : Ct} {mi : Nat} {y0 : Nat} {y1 : Int32} {y2 : Int32} {h : Hp} {q : ((Int32 × Hp) ⊕ (Hp))} (hf : b_E_markLive_7 y0 y1 y2 h = some q) : Keep W_E_markLive h (Sum.elim (fun s : Int32 × Hp => s.2) (fun x : Hp => x) q) := by
  unfold b_E_markLive_7 at hf
  rcases Classical.em ((nI 4) ≤ y2) with c5 | c5
  · rw [if_pos c5] at hf
    cases (Option.some.inj hf)
    exact (Keep.refl W_E_markLive _)
  · rw [if_neg c5] at hf
    obtain ⟨g6, hf⟩ := gd_some hf
    obtain ⟨a7, e8, hf⟩ := dr_some hf
    obtain ⟨g9, hf⟩ := gd_some hf
    obtain ⟨g10, hf⟩ := gd_some hf
    rcases Classical.em ((hpR h a7 y2.toNatClampNeg) = none) with c11 | c11
    · rw [if_pos c11] at hf
      cases (Option.some.inj hf)
      exact (Keep.refl W_E_markLive _)
    · rw [if_neg c11] at hf
      obtain ⟨a12, e13, hf⟩ := dr_some hf
      obtain ⟨g14, hf⟩ := gd_some hf
      obtain ⟨h15, ec16, hf⟩ := cv_some hf
      have K17 := (Keep.refl W_E_markLive _).trans ((fr_O_markLive (C := C) (mi := mi) ec16).mono (by decide) (by decide))
      cases (Option.some.inj hf)
      exact K17
def l_E_markLive_7 (y0 : Nat) (y1 : Int32) (s : Int32 × Hp) : Option (Hp) := lp (fun s => b_E_markLive_7 y0 y1 s.1 s.2) FU s
theorem zzl_E_markLive_7 {l : Launch} {C : Ct} {mi : Nat} {y0 : Nat} {y1 : Int32} {h' : Hp} : ∀ (n : Nat) (s : Int32 × Hp) (x : (Hp)), lp (fun s : Int32 × Hp => b_E_markLive_7 y0 y1 s.1 s.2) n s = some x → Z l C mi m_E_markLive 1 37 [] [] x none h' → Z l C mi m_E_markLive 1 7 [(0, vr (some y0)), (1, vi y1), (2, vi s.1)] [] s.2 none h' := by
  intro n
  induction n with
  | zero => intro s x hl; cases hl
  | succ n ih =>
    intro s x hl ke
    rcases lp_some hl with ⟨s2, hb, hl2⟩ | hb
    · exact zb_E_markLive_7 hb (fun s3 e3 => by cases e3; refine z_ls [0, 1, 2] rfl ?_; exact ih s2 x hl2 ke) (fun x e3 => by cases e3)
    · exact zb_E_markLive_7 hb (fun s3 e3 => by cases e3) (fun x e3 => by cases e3; exact ke)
theorem zl_E_markLive_7 {l : Launch} {C : Ct} {mi : Nat} {y0 : Nat} {y1 : Int32} {h' : Hp} {s : Int32 × Hp} {x : (Hp)} (hl : l_E_markLive_7 y0 y1 s = some x) (ke : Z l C mi m_E_markLive 1 37 [] [] x none h') : Z l C mi m_E_markLive 1 7 [(0, vr (some y0)), (1, vi y1), (2, vi s.1)] [] s.2 none h' := zzl_E_markLive_7 FU s x hl ke
theorem kl_E_markLive_7 {C : Ct} {mi : Nat} {y0 : Nat} {y1 : Int32} {s : Int32 × Hp} {q : (Hp)} (hl : l_E_markLive_7 y0 y1 s = some q) : Keep W_E_markLive s.2 ((fun x : Hp => x) q) := lpk (sh := (fun s : Int32 × Hp => s.2)) (rh := (fun x : Hp => x)) (fun s q hb => kb_E_markLive_7 (C := C) (mi := mi) hb) FU s q hl
def f_E_markLive (a0 : Nat) (p1 : Int32) (h : Hp) : Option Hp :=
  gd (isK h a0 4) (nm (wI h a0 2 p1) fun h2 => bd (l_E_markLive_7 a0 p1 ((0 : Int32), h2)) fun x18 => some x18)
set_option maxRecDepth 100000 in
set_option maxHeartbeats 4000000 in
theorem zf_E_markLive {l : Launch} {C : Ct} {mi : Nat} {a0 : Nat} {p1 : Int32} {h h' : Hp} (hf : f_E_markLive a0 p1 h = some h') : Z l C mi m_E_markLive 1 0 [(0, vr (some a0)), (1, vi p1)] [] h none h' := by
  unfold f_E_markLive at hf
  refine z_aload_n 0 d_E_markLive_0 rfl rfl ?_
  refine z_iload_n 1 d_E_markLive_1 rfl rfl ?_
  obtain ⟨g1, hf⟩ := gd_some hf
  obtain ⟨h2, eh3, hf⟩ := nm_some hf
  refine z_putI d_E_markLive_2 (fl_K (isK_eq g1) fl_E_40_4) (pu_K (isK_eq g1) (fun q hq => by cases (Option.some.inj hq); exact Or.inl rfl)) (fi_K (isK_eq g1) rfl) rfl ?_
  refine z_hp eh3 ?_
  refine z_iconst (v := (0 : Int32)) d_E_markLive_5 (by decide) ?_
  refine z_istore_n (ls2 := [(2, vi (0 : Int32)), (0, vr (some a0)), (1, vi p1)]) d_E_markLive_6 rfl (by decide) rfl ?_
  obtain ⟨x18, el19, hf⟩ := bd_some hf
  refine z_ls [1, 2, 0] rfl ?_
  refine zl_E_markLive_7 el19 ?_
  cases (Option.some.inj hf)
  exact z_ret d_E_markLive_37 rfl
set_option maxRecDepth 100000 in
set_option maxHeartbeats 4000000 in
theorem fr_E_markLive {C : Ct} {mi : Nat} {a0 : Nat} {p1 : Int32} {h h' : Hp} (hf : f_E_markLive a0 p1 h = some h') : Keep W_E_markLive h h' := by
  unfold f_E_markLive at hf
  obtain ⟨g1, hf⟩ := gd_some hf
  obtain ⟨h2, eh3, hf⟩ := nm_some hf
  have K4 := (Keep.refl W_E_markLive _).trans (kw_I eh3 (isK_eq g1) (Or.inl (by decide)))
  obtain ⟨x18, el19, hf⟩ := bd_some hf
  have K20 := K4.trans (kl_E_markLive_7 (C := C) (mi := mi) el19)
  cases (Option.some.inj hf)
  exact K20
theorem c_E_markLive {l : Launch} {C : Ct} {mi : Nat} {a0 : Nat} {p1 : Int32} {h h' : Hp} (hf : f_E_markLive a0 p1 h = some h') : Mt l C mi m_E_markLive 1 [vr (some a0), vi p1] h none h' := mt_V rfl rfl (by decide) (Nat.le_of_ble_eq_true rfl) (zf_E_markLive hf)
-- VersionMaps$Present.load(LVersionMaps$Meta;)V
def m_P_load : Mi := (⟨"VersionMaps$Present", "load", "(LVersionMaps$Meta;)V"⟩, prog_7_method_10_code, 5, (Option.none : Option Jvm.ClassFile.FieldType), .return_)
theorem cw_P_load : cw_ok m_P_load 1 := ⟨by decide +kernel, by decide +kernel, by decide +kernel, by decide +kernel⟩
theorem im_P_load : Cond.instanceMethod m_P_load.1 ∈ lw_w := by decide +kernel
theorem se_P_load : Cond.selects "VersionMaps$Present" m_P_load.1 m_P_load.1 ∈ lw_w := by decide +kernel
theorem d_P_load_0 : decode prog_7_method_10_code 0 = .ok (.aload_n 0, 1) := by decide +kernel
theorem d_P_load_1 : decode prog_7_method_10_code 1 = .ok (.invokevirtual 54, 3) := by decide +kernel
theorem d_P_load_4 : decode prog_7_method_10_code 4 = .ok (.iconst 0, 1) := by decide +kernel
theorem d_P_load_5 : decode prog_7_method_10_code 5 = .ok (.istore_n 2, 1) := by decide +kernel
theorem d_P_load_6 : decode prog_7_method_10_code 6 = .ok (.iload_n 2, 1) := by decide +kernel
theorem d_P_load_7 : decode prog_7_method_10_code 7 = .ok (.iconst 4, 1) := by decide +kernel
theorem d_P_load_8 : decode prog_7_method_10_code 8 = .ok (.if_icmp .ge 93, 3) := by decide +kernel
theorem d_P_load_11 : decode prog_7_method_10_code 11 = .ok (.aload_n 0, 1) := by decide +kernel
theorem d_P_load_12 : decode prog_7_method_10_code 12 = .ok (.getfield 15, 3) := by decide +kernel
theorem d_P_load_15 : decode prog_7_method_10_code 15 = .ok (.iload_n 2, 1) := by decide +kernel
theorem d_P_load_16 : decode prog_7_method_10_code 16 = .ok (.iconst 0, 1) := by decide +kernel
theorem d_P_load_17 : decode prog_7_method_10_code 17 = .ok (.iastore, 1) := by decide +kernel
theorem d_P_load_18 : decode prog_7_method_10_code 18 = .ok (.iconst 0, 1) := by decide +kernel
theorem d_P_load_19 : decode prog_7_method_10_code 19 = .ok (.istore_n 3, 1) := by decide +kernel
theorem d_P_load_20 : decode prog_7_method_10_code 20 = .ok (.iload_n 3, 1) := by decide +kernel
theorem d_P_load_21 : decode prog_7_method_10_code 21 = .ok (.iconst 4, 1) := by decide +kernel
theorem d_P_load_22 : decode prog_7_method_10_code 22 = .ok (.if_icmp .ge 73, 3) := by decide +kernel
theorem d_P_load_25 : decode prog_7_method_10_code 25 = .ok (.aload_n 1, 1) := by decide +kernel
theorem d_P_load_26 : decode prog_7_method_10_code 26 = .ok (.ifnonnull 7, 3) := by decide +kernel
theorem d_P_load_29 : decode prog_7_method_10_code 29 = .ok (.aconst_null, 1) := by decide +kernel
theorem d_P_load_30 : decode prog_7_method_10_code 30 = .ok (.goto 9, 3) := by decide +kernel
theorem d_P_load_33 : decode prog_7_method_10_code 33 = .ok (.aload_n 1, 1) := by decide +kernel
theorem d_P_load_34 : decode prog_7_method_10_code 34 = .ok (.iload_n 2, 1) := by decide +kernel
theorem d_P_load_35 : decode prog_7_method_10_code 35 = .ok (.iload_n 3, 1) := by decide +kernel
theorem d_P_load_36 : decode prog_7_method_10_code 36 = .ok (.invokevirtual 47, 3) := by decide +kernel
theorem d_P_load_39 : decode prog_7_method_10_code 39 = .ok (.astore 4, 2) := by decide +kernel
theorem d_P_load_41 : decode prog_7_method_10_code 41 = .ok (.aload 4, 2) := by decide +kernel
theorem d_P_load_43 : decode prog_7_method_10_code 43 = .ok (.ifnull 46, 3) := by decide +kernel
theorem d_P_load_46 : decode prog_7_method_10_code 46 = .ok (.aload_n 0, 1) := by decide +kernel
theorem d_P_load_47 : decode prog_7_method_10_code 47 = .ok (.getfield 15, 3) := by decide +kernel
theorem d_P_load_50 : decode prog_7_method_10_code 50 = .ok (.iload_n 2, 1) := by decide +kernel
theorem d_P_load_51 : decode prog_7_method_10_code 51 = .ok (.dup2, 1) := by decide +kernel
theorem d_P_load_52 : decode prog_7_method_10_code 52 = .ok (.iaload, 1) := by decide +kernel
theorem d_P_load_53 : decode prog_7_method_10_code 53 = .ok (.aload 4, 2) := by decide +kernel
theorem d_P_load_55 : decode prog_7_method_10_code 55 = .ok (.getfield 57, 3) := by decide +kernel
theorem d_P_load_58 : decode prog_7_method_10_code 58 = .ok (.bipush 8, 2) := by decide +kernel
theorem d_P_load_60 : decode prog_7_method_10_code 60 = .ok (.iload_n 3, 1) := by decide +kernel
theorem d_P_load_61 : decode prog_7_method_10_code 61 = .ok (.imul, 1) := by decide +kernel
theorem d_P_load_62 : decode prog_7_method_10_code 62 = .ok (.ishl, 1) := by decide +kernel
theorem d_P_load_63 : decode prog_7_method_10_code 63 = .ok (.ior, 1) := by decide +kernel
theorem d_P_load_64 : decode prog_7_method_10_code 64 = .ok (.iastore, 1) := by decide +kernel
theorem d_P_load_65 : decode prog_7_method_10_code 65 = .ok (.aload 4, 2) := by decide +kernel
theorem d_P_load_67 : decode prog_7_method_10_code 67 = .ok (.getfield 59, 3) := by decide +kernel
theorem d_P_load_70 : decode prog_7_method_10_code 70 = .ok (.iconst 0, 1) := by decide +kernel
theorem d_P_load_71 : decode prog_7_method_10_code 71 = .ok (.aload_n 0, 1) := by decide +kernel
theorem d_P_load_72 : decode prog_7_method_10_code 72 = .ok (.getfield 9, 3) := by decide +kernel
theorem d_P_load_75 : decode prog_7_method_10_code 75 = .ok (.bipush 32, 2) := by decide +kernel
theorem d_P_load_77 : decode prog_7_method_10_code 77 = .ok (.iload_n 2, 1) := by decide +kernel
theorem d_P_load_78 : decode prog_7_method_10_code 78 = .ok (.imul, 1) := by decide +kernel
theorem d_P_load_79 : decode prog_7_method_10_code 79 = .ok (.bipush 8, 2) := by decide +kernel
theorem d_P_load_81 : decode prog_7_method_10_code 81 = .ok (.iload_n 3, 1) := by decide +kernel
theorem d_P_load_82 : decode prog_7_method_10_code 82 = .ok (.imul, 1) := by decide +kernel
theorem d_P_load_83 : decode prog_7_method_10_code 83 = .ok (.iadd, 1) := by decide +kernel
theorem d_P_load_84 : decode prog_7_method_10_code 84 = .ok (.bipush 8, 2) := by decide +kernel
theorem d_P_load_86 : decode prog_7_method_10_code 86 = .ok (.invokestatic 60, 3) := by decide +kernel
theorem d_P_load_89 : decode prog_7_method_10_code 89 = .ok (.iinc 3 1, 3) := by decide +kernel
theorem d_P_load_92 : decode prog_7_method_10_code 92 = .ok (.goto (-72), 3) := by decide +kernel
theorem d_P_load_95 : decode prog_7_method_10_code 95 = .ok (.iinc 2 1, 3) := by decide +kernel
theorem d_P_load_98 : decode prog_7_method_10_code 98 = .ok (.goto (-92), 3) := by decide +kernel
theorem d_P_load_101 : decode prog_7_method_10_code 101 = .ok (.return_, 1) := by decide +kernel
def W_P_load : Wl := ([(5, 2), (5, 3)], [66, 67])
def j_P_load_39_L20 (y0 : Nat) (y1 : Option Nat) (y2 : Int32) (y3 : Int32) (w0 : Option Nat) (h : Hp) : Option ((Int32 × Hp) ⊕ (Hp)) :=
  if w0 = none then (some (.inl ((y3 + (1 : Int32)), h))) else (gd (isK h y0 5) (dr (hpR h y0 1) fun a25 => gd (isK h a25 67) (gd (inb y2 (hpL h a25)) (dr w0 fun a29 => gd (isK h a29 3) (nm (wI h a25 y2.toNatClampNeg ((hpI h a25 y2.toNatClampNeg) ||| ((hpI h a29 4) <<< (((nI 8) * y3) &&& 31)))) fun h32 => dr (hpR h32 a29 3) fun a35 => dr (hpR h32 y0 0) fun a37 => gd (isK h32 a35 106) (gd (isK h32 a37 66) (gd (cpB h32 a35 a37 (0 : Int32) (((nI 32) * y2) + ((nI 8) * y3)) (nI 8)) (nm (cpI h32 a35 (0 : Int32).toNatClampNeg a37 (((nI 32) * y2) + ((nI 8) * y3)).toNatClampNeg (nI 8).toNatClampNeg) fun h42 => some (.inl ((y3 + (1 : Int32)), h42))))))))))
set_option maxRecDepth 100000 in
set_option maxHeartbeats 4000000 in
theorem zj_P_load_39_L20 {l : Launch} {C : Ct} {mi : Nat} {y0 : Nat} {y1 : Option Nat} {y2 : Int32} {y3 : Int32} {w0 : Option Nat} {h h' : Hp} {q : ((Int32 × Hp) ⊕ (Hp))} (hf : j_P_load_39_L20 y0 y1 y2 y3 w0 h = some q) (kc : ∀ s, q = .inl s → Z l C mi m_P_load 1 20 [(0, vr (some y0)), (1, vr y1), (2, vi y2), (3, vi s.1)] [] s.2 none h') (ke : ∀ x, q = .inr x → Z l C mi m_P_load 1 95 [(0, vr (some y0)), (1, vr y1), (2, vi y2)] [] x none h') : Z l C mi m_P_load 1 39 [(0, vr (some y0)), (1, vr y1), (2, vi y2), (3, vi y3)] [vr w0] h none h' := by
  unfold j_P_load_39_L20 at hf
  refine z_astore (ls2 := [(4, vr w0), (0, vr (some y0)), (1, vr y1), (2, vi y2), (3, vi y3)]) d_P_load_39 (by decide) rfl ?_
  refine z_aload 0 d_P_load_41 rfl ?_
  refine z_ifnull (tgt := 89) d_P_load_43 (by decide) (fun c23 => ?_) (fun c23 => ?_)
  · rw [if_pos c23] at hf
    refine z_iinc (ls2 := [(3, vi (y3 + (1 : Int32))), (4, vr w0), (0, vr (some y0)), (1, vr y1), (2, vi y2)]) 4 d_P_load_89 rfl rfl (by decide) rfl ?_
    refine z_goto (tgt := 20) d_P_load_92 (by decide) ?_
    refine z_ls [2, 3, 4, 0] rfl ?_
    exact kc ((y3 + (1 : Int32)), h) (Option.some.inj hf).symm
  · rw [if_neg c23] at hf
    refine z_aload_n 1 d_P_load_46 rfl rfl ?_
    obtain ⟨g24, hf⟩ := gd_some hf
    refine z_getR d_P_load_47 (fl_K (isK_eq g24) fl_P_15_5) (fi_K (isK_eq g24) rfl) rfl ?_
    refine z_iload_n 3 d_P_load_50 rfl rfl ?_
    refine z_dup2 d_P_load_51 rfl rfl ?_
    obtain ⟨a25, e26, hf⟩ := dr_some hf
    obtain ⟨g27, hf⟩ := gd_some hf
    obtain ⟨g28, hf⟩ := gd_some hf
    refine z_iald d_P_load_52 e26 (by rw [isK_eq g27]; decide) (by rw [isK_eq g27]; rfl) (inb_vp g28) ?_
    refine z_aload 0 d_P_load_53 rfl ?_
    obtain ⟨a29, e30, hf⟩ := dr_some hf
    obtain ⟨g31, hf⟩ := gd_some hf
    refine z_getI d_P_load_55 (fl_K (isK_eq g31) fl_P_57_3) (fi_K (isK_eq g31) rfl) e30 ?_
    refine z_bipush (v := (nI 8)) d_P_load_58 (by decide) ?_
    refine z_iload_n 4 d_P_load_60 rfl rfl ?_
    refine z_imul d_P_load_61 ?_
    refine z_ishl d_P_load_62 ?_
    refine z_ior d_P_load_63 ?_
    obtain ⟨h32, eh33, hf⟩ := nm_some hf
    refine z_iast d_P_load_64 e26 (by rw [isK_eq g27]; decide) (by rw [isK_eq g27]; rfl) (inb_vp g28) ?_
    refine z_hp eh33 ?_
    refine z_aload 0 d_P_load_65 rfl ?_
    refine z_getR d_P_load_67 (fl_K (isK_eq (isK_wI eh33 g31)) fl_P_59_3) (fi_K (isK_eq (isK_wI eh33 g31)) rfl) e30 ?_
    refine z_iconst (v := (0 : Int32)) d_P_load_70 (by decide) ?_
    refine z_aload_n 1 d_P_load_71 rfl rfl ?_
    refine z_getR d_P_load_72 (fl_K (isK_eq (isK_wI eh33 g24)) fl_P_9_5) (fi_K (isK_eq (isK_wI eh33 g24)) rfl) rfl ?_
    refine z_bipush (v := (nI 32)) d_P_load_75 (by decide) ?_
    refine z_iload_n 3 d_P_load_77 rfl rfl ?_
    refine z_imul d_P_load_78 ?_
    refine z_bipush (v := (nI 8)) d_P_load_79 (by decide) ?_
    refine z_iload_n 4 d_P_load_81 rfl rfl ?_
    refine z_imul d_P_load_82 ?_
    refine z_iadd d_P_load_83 ?_
    refine z_bipush (v := (nI 8)) d_P_load_84 (by decide) ?_
    obtain ⟨a35, e36, hf⟩ := dr_some hf
    obtain ⟨a37, e38, hf⟩ := dr_some hf
    obtain ⟨g39, hf⟩ := gd_some hf
    obtain ⟨g40, hf⟩ := gd_some hf
    obtain ⟨g41, hf⟩ := gd_some hf
    obtain ⟨h42, eh43, hf⟩ := nm_some hf
    refine z_copyI d_P_load_86 (show Cond.methodLink _ _ _ ∈ lw_w by decide +kernel) (by decide) (Nat.le_of_ble_eq_true rfl) e36 e38 (by rw [isK_eq g39]; decide) (by rw [isK_eq g39]; rfl) (by rw [isK_eq g40]; decide) (by rw [isK_eq g40]; rfl) (cpB_eq g41).1 (cpB_eq g41).2.1 (cpB_eq g41).2.2.1 (cpB_eq g41).2.2.2.1 (cpB_eq g41).2.2.2.2 ?_
    refine z_hp eh43 ?_
    refine z_iinc (ls2 := [(3, vi (y3 + (1 : Int32))), (4, vr w0), (0, vr (some y0)), (1, vr y1), (2, vi y2)]) 4 d_P_load_89 rfl rfl (by decide) rfl ?_
    refine z_goto (tgt := 20) d_P_load_92 (by decide) ?_
    refine z_ls [2, 3, 4, 0] rfl ?_
    exact kc ((y3 + (1 : Int32)), h42) (Option.some.inj hf).symm
set_option maxRecDepth 100000 in
set_option maxHeartbeats 4000000 in
theorem kj_P_load_39_L20 {C : Ct} {mi : Nat} {y0 : Nat} {y1 : Option Nat} {y2 : Int32} {y3 : Int32} {w0 : Option Nat} {h : Hp} {q : ((Int32 × Hp) ⊕ (Hp))} (hf : j_P_load_39_L20 y0 y1 y2 y3 w0 h = some q) : Keep W_P_load h (Sum.elim (fun s : Int32 × Hp => s.2) (fun x : Hp => x) q) := by
  unfold j_P_load_39_L20 at hf
  rcases Classical.em (w0 = none) with c23 | c23
  · rw [if_pos c23] at hf
    cases (Option.some.inj hf)
    exact (Keep.refl W_P_load _)
  · rw [if_neg c23] at hf
    obtain ⟨g24, hf⟩ := gd_some hf
    obtain ⟨a25, e26, hf⟩ := dr_some hf
    obtain ⟨g27, hf⟩ := gd_some hf
    obtain ⟨g28, hf⟩ := gd_some hf
    obtain ⟨a29, e30, hf⟩ := dr_some hf
    obtain ⟨g31, hf⟩ := gd_some hf
    obtain ⟨h32, eh33, hf⟩ := nm_some hf
    have K34 := (Keep.refl W_P_load _).trans (kw_I eh33 (isK_eq g27) (Or.inr (by decide)))
    obtain ⟨a35, e36, hf⟩ := dr_some hf
    obtain ⟨a37, e38, hf⟩ := dr_some hf
    obtain ⟨g39, hf⟩ := gd_some hf
    obtain ⟨g40, hf⟩ := gd_some hf
    obtain ⟨g41, hf⟩ := gd_some hf
    obtain ⟨h42, eh43, hf⟩ := nm_some hf
    have K44 := K34.trans (kw_cI eh43 (isK_eq g40) (by decide))
    cases (Option.some.inj hf)
    exact K44
def b_P_load_20 (y0 : Nat) (y1 : Option Nat) (y2 : Int32) (y3 : Int32) (h : Hp) : Option ((Int32 × Hp) ⊕ (Hp)) :=
  if (nI 4) ≤ y3 then (some (.inr h)) else (if y1 = none then (j_P_load_39_L20 y0 y1 y2 y3 none h) else (dr y1 fun a16 => gd (isK h a16 4) (cl (f_E_leafOf a16 y2 y3 h) fun v21 h19 => j_P_load_39_L20 y0 y1 y2 y3 v21 h19)))
set_option maxRecDepth 100000 in
set_option maxHeartbeats 4000000 in
theorem zb_P_load_20 {l : Launch} {C : Ct} {mi : Nat} {y0 : Nat} {y1 : Option Nat} {y2 : Int32} {y3 : Int32} {h h' : Hp} {q : ((Int32 × Hp) ⊕ (Hp))} (hf : b_P_load_20 y0 y1 y2 y3 h = some q) (kc : ∀ s, q = .inl s → Z l C mi m_P_load 1 20 [(0, vr (some y0)), (1, vr y1), (2, vi y2), (3, vi s.1)] [] s.2 none h') (ke : ∀ x, q = .inr x → Z l C mi m_P_load 1 95 [(0, vr (some y0)), (1, vr y1), (2, vi y2)] [] x none h') : Z l C mi m_P_load 1 20 [(0, vr (some y0)), (1, vr y1), (2, vi y2), (3, vi y3)] [] h none h' := by
  unfold b_P_load_20 at hf
  refine z_iload_n 3 d_P_load_20 rfl rfl ?_
  refine z_iconst (v := (nI 4)) d_P_load_21 (by decide) ?_
  refine z_icmp_ge (tgt := 95) d_P_load_22 (by decide) (fun c14 => ?_) (fun c14 => ?_)
  · rw [if_pos c14] at hf
    refine z_ls [0, 1, 2] rfl ?_
    exact ke h (Option.some.inj hf).symm
  · rw [if_neg c14] at hf
    refine z_aload_n 1 d_P_load_25 rfl rfl ?_
    refine z_ifnonnull (tgt := 33) d_P_load_26 (by decide) (fun c15 => ?_) (fun c15 => ?_)
    · rw [if_neg c15] at hf
      refine z_aload_n 1 d_P_load_33 rfl rfl ?_
      refine z_iload_n 2 d_P_load_34 rfl rfl ?_
      refine z_iload_n 3 d_P_load_35 rfl rfl ?_
      obtain ⟨a16, e17, hf⟩ := dr_some hf
      obtain ⟨g18, hf⟩ := gd_some hf
      obtain ⟨v21, h19, ec20, hf⟩ := cl_some hf
      refine z_callVx e17 (c_E_leafOf ec20) d_P_load_36 cw_E_leafOf lk_P_47 im_E_leafOf se_E_leafOf (kc_K (isK_eq g18) kc_4) ⟨by decide, by decide⟩ (Nat.le_of_ble_eq_true rfl) rfl ?_
      refine z_ls [0, 1, 2, 3] rfl ?_
      exact zj_P_load_39_L20 hf kc ke
    · rw [if_pos c15] at hf
      refine z_aconst_null d_P_load_29 ?_
      refine z_goto (tgt := 39) d_P_load_30 (by decide) ?_
      refine z_ls [0, 1, 2, 3] rfl ?_
      exact zj_P_load_39_L20 hf kc ke
set_option maxRecDepth 100000 in
set_option maxHeartbeats 4000000 in
theorem kb_P_load_20 {C : Ct} {mi : Nat} {y0 : Nat} {y1 : Option Nat} {y2 : Int32} {y3 : Int32} {h : Hp} {q : ((Int32 × Hp) ⊕ (Hp))} (hf : b_P_load_20 y0 y1 y2 y3 h = some q) : Keep W_P_load h (Sum.elim (fun s : Int32 × Hp => s.2) (fun x : Hp => x) q) := by
  unfold b_P_load_20 at hf
  rcases Classical.em ((nI 4) ≤ y3) with c14 | c14
  · rw [if_pos c14] at hf
    cases (Option.some.inj hf)
    exact (Keep.refl W_P_load _)
  · rw [if_neg c14] at hf
    rcases (Classical.em (y1 = none)).symm with c15 | c15
    · rw [if_neg c15] at hf
      obtain ⟨a16, e17, hf⟩ := dr_some hf
      obtain ⟨g18, hf⟩ := gd_some hf
      obtain ⟨v21, h19, ec20, hf⟩ := cl_some hf
      have K22 := (Keep.refl W_P_load _).trans ((fr_E_leafOf (C := C) (mi := mi) ec20).mono (by decide) (by decide))
      exact K22.trans (kj_P_load_39_L20 (C := C) (mi := mi) hf)
    · rw [if_pos c15] at hf
      exact (Keep.refl W_P_load _).trans (kj_P_load_39_L20 (C := C) (mi := mi) hf)
def l_P_load_20 (y0 : Nat) (y1 : Option Nat) (y2 : Int32) (s : Int32 × Hp) : Option (Hp) := lp (fun s => b_P_load_20 y0 y1 y2 s.1 s.2) FU s
theorem zzl_P_load_20 {l : Launch} {C : Ct} {mi : Nat} {y0 : Nat} {y1 : Option Nat} {y2 : Int32} {h' : Hp} : ∀ (n : Nat) (s : Int32 × Hp) (x : (Hp)), lp (fun s : Int32 × Hp => b_P_load_20 y0 y1 y2 s.1 s.2) n s = some x → Z l C mi m_P_load 1 95 [(0, vr (some y0)), (1, vr y1), (2, vi y2)] [] x none h' → Z l C mi m_P_load 1 20 [(0, vr (some y0)), (1, vr y1), (2, vi y2), (3, vi s.1)] [] s.2 none h' := by
  intro n
  induction n with
  | zero => intro s x hl; cases hl
  | succ n ih =>
    intro s x hl ke
    rcases lp_some hl with ⟨s2, hb, hl2⟩ | hb
    · exact zb_P_load_20 hb (fun s3 e3 => by cases e3; refine z_ls [0, 1, 2, 3] rfl ?_; exact ih s2 x hl2 ke) (fun x e3 => by cases e3)
    · exact zb_P_load_20 hb (fun s3 e3 => by cases e3) (fun x e3 => by cases e3; exact ke)
theorem zl_P_load_20 {l : Launch} {C : Ct} {mi : Nat} {y0 : Nat} {y1 : Option Nat} {y2 : Int32} {h' : Hp} {s : Int32 × Hp} {x : (Hp)} (hl : l_P_load_20 y0 y1 y2 s = some x) (ke : Z l C mi m_P_load 1 95 [(0, vr (some y0)), (1, vr y1), (2, vi y2)] [] x none h') : Z l C mi m_P_load 1 20 [(0, vr (some y0)), (1, vr y1), (2, vi y2), (3, vi s.1)] [] s.2 none h' := zzl_P_load_20 FU s x hl ke
theorem kl_P_load_20 {C : Ct} {mi : Nat} {y0 : Nat} {y1 : Option Nat} {y2 : Int32} {s : Int32 × Hp} {q : (Hp)} (hl : l_P_load_20 y0 y1 y2 s = some q) : Keep W_P_load s.2 ((fun x : Hp => x) q) := lpk (sh := (fun s : Int32 × Hp => s.2)) (rh := (fun x : Hp => x)) (fun s q hb => kb_P_load_20 (C := C) (mi := mi) hb) FU s q hl
def b_P_load_6 (y0 : Nat) (y1 : Option Nat) (y2 : Int32) (h : Hp) : Option ((Int32 × Hp) ⊕ (Hp)) :=
  if (nI 4) ≤ y2 then (some (.inr h)) else (gd (isK h y0 5) (dr (hpR h y0 1) fun a7 => gd (isK h a7 67) (gd (inb y2 (hpL h a7)) (nm (wI h a7 y2.toNatClampNeg (0 : Int32)) fun h11 => bd (l_P_load_20 y0 y1 y2 ((0 : Int32), h11)) fun x45 => some (.inl ((y2 + (1 : Int32)), x45))))))
set_option maxRecDepth 100000 in
set_option maxHeartbeats 4000000 in
theorem zb_P_load_6 {l : Launch} {C : Ct} {mi : Nat} {y0 : Nat} {y1 : Option Nat} {y2 : Int32} {h h' : Hp} {q : ((Int32 × Hp) ⊕ (Hp))} (hf : b_P_load_6 y0 y1 y2 h = some q) (kc : ∀ s, q = .inl s → Z l C mi m_P_load 1 6 [(0, vr (some y0)), (1, vr y1), (2, vi s.1)] [] s.2 none h') (ke : ∀ x, q = .inr x → Z l C mi m_P_load 1 101 [] [] x none h') : Z l C mi m_P_load 1 6 [(0, vr (some y0)), (1, vr y1), (2, vi y2)] [] h none h' := by
  unfold b_P_load_6 at hf
  refine z_iload_n 2 d_P_load_6 rfl rfl ?_
  refine z_iconst (v := (nI 4)) d_P_load_7 (by decide) ?_
  refine z_icmp_ge (tgt := 101) d_P_load_8 (by decide) (fun c5 => ?_) (fun c5 => ?_)
  · rw [if_pos c5] at hf
    refine z_ls [] rfl ?_
    exact ke h (Option.some.inj hf).symm
  · rw [if_neg c5] at hf
    refine z_aload_n 0 d_P_load_11 rfl rfl ?_
    obtain ⟨g6, hf⟩ := gd_some hf
    refine z_getR d_P_load_12 (fl_K (isK_eq g6) fl_P_15_5) (fi_K (isK_eq g6) rfl) rfl ?_
    refine z_iload_n 2 d_P_load_15 rfl rfl ?_
    refine z_iconst (v := (0 : Int32)) d_P_load_16 (by decide) ?_
    obtain ⟨a7, e8, hf⟩ := dr_some hf
    obtain ⟨g9, hf⟩ := gd_some hf
    obtain ⟨g10, hf⟩ := gd_some hf
    obtain ⟨h11, eh12, hf⟩ := nm_some hf
    refine z_iast d_P_load_17 e8 (by rw [isK_eq g9]; decide) (by rw [isK_eq g9]; rfl) (inb_vp g10) ?_
    refine z_hp eh12 ?_
    refine z_iconst (v := (0 : Int32)) d_P_load_18 (by decide) ?_
    refine z_istore_n (ls2 := [(3, vi (0 : Int32)), (0, vr (some y0)), (1, vr y1), (2, vi y2)]) d_P_load_19 rfl (by decide) rfl ?_
    obtain ⟨x45, el46, hf⟩ := bd_some hf
    refine z_ls [1, 2, 3, 0] rfl ?_
    refine zl_P_load_20 el46 ?_
    refine z_iinc (ls2 := [(2, vi (y2 + (1 : Int32))), (0, vr (some y0)), (1, vr y1)]) 2 d_P_load_95 rfl rfl (by decide) rfl ?_
    refine z_goto (tgt := 6) d_P_load_98 (by decide) ?_
    refine z_ls [1, 2, 0] rfl ?_
    exact kc ((y2 + (1 : Int32)), x45) (Option.some.inj hf).symm
set_option maxRecDepth 100000 in
set_option maxHeartbeats 4000000 in
theorem kb_P_load_6 {C : Ct} {mi : Nat} {y0 : Nat} {y1 : Option Nat} {y2 : Int32} {h : Hp} {q : ((Int32 × Hp) ⊕ (Hp))} (hf : b_P_load_6 y0 y1 y2 h = some q) : Keep W_P_load h (Sum.elim (fun s : Int32 × Hp => s.2) (fun x : Hp => x) q) := by
  unfold b_P_load_6 at hf
  rcases Classical.em ((nI 4) ≤ y2) with c5 | c5
  · rw [if_pos c5] at hf
    cases (Option.some.inj hf)
    exact (Keep.refl W_P_load _)
  · rw [if_neg c5] at hf
    obtain ⟨g6, hf⟩ := gd_some hf
    obtain ⟨a7, e8, hf⟩ := dr_some hf
    obtain ⟨g9, hf⟩ := gd_some hf
    obtain ⟨g10, hf⟩ := gd_some hf
    obtain ⟨h11, eh12, hf⟩ := nm_some hf
    have K13 := (Keep.refl W_P_load _).trans (kw_I eh12 (isK_eq g9) (Or.inr (by decide)))
    obtain ⟨x45, el46, hf⟩ := bd_some hf
    have K47 := K13.trans (kl_P_load_20 (C := C) (mi := mi) el46)
    cases (Option.some.inj hf)
    exact K47
def l_P_load_6 (y0 : Nat) (y1 : Option Nat) (s : Int32 × Hp) : Option (Hp) := lp (fun s => b_P_load_6 y0 y1 s.1 s.2) FU s
theorem zzl_P_load_6 {l : Launch} {C : Ct} {mi : Nat} {y0 : Nat} {y1 : Option Nat} {h' : Hp} : ∀ (n : Nat) (s : Int32 × Hp) (x : (Hp)), lp (fun s : Int32 × Hp => b_P_load_6 y0 y1 s.1 s.2) n s = some x → Z l C mi m_P_load 1 101 [] [] x none h' → Z l C mi m_P_load 1 6 [(0, vr (some y0)), (1, vr y1), (2, vi s.1)] [] s.2 none h' := by
  intro n
  induction n with
  | zero => intro s x hl; cases hl
  | succ n ih =>
    intro s x hl ke
    rcases lp_some hl with ⟨s2, hb, hl2⟩ | hb
    · exact zb_P_load_6 hb (fun s3 e3 => by cases e3; refine z_ls [0, 1, 2] rfl ?_; exact ih s2 x hl2 ke) (fun x e3 => by cases e3)
    · exact zb_P_load_6 hb (fun s3 e3 => by cases e3) (fun x e3 => by cases e3; exact ke)
theorem zl_P_load_6 {l : Launch} {C : Ct} {mi : Nat} {y0 : Nat} {y1 : Option Nat} {h' : Hp} {s : Int32 × Hp} {x : (Hp)} (hl : l_P_load_6 y0 y1 s = some x) (ke : Z l C mi m_P_load 1 101 [] [] x none h') : Z l C mi m_P_load 1 6 [(0, vr (some y0)), (1, vr y1), (2, vi s.1)] [] s.2 none h' := zzl_P_load_6 FU s x hl ke
theorem kl_P_load_6 {C : Ct} {mi : Nat} {y0 : Nat} {y1 : Option Nat} {s : Int32 × Hp} {q : (Hp)} (hl : l_P_load_6 y0 y1 s = some q) : Keep W_P_load s.2 ((fun x : Hp => x) q) := lpk (sh := (fun s : Int32 × Hp => s.2)) (rh := (fun x : Hp => x)) (fun s q hb => kb_P_load_6 (C := C) (mi := mi) hb) FU s q hl
def f_P_load (a0 : Nat) (p1 : Option Nat) (h : Hp) : Option Hp :=
  gd (isK h a0 5) (cv (f_P_forgetTouched a0 h) fun h2 => bd (l_P_load_6 a0 p1 ((0 : Int32), h2)) fun x48 => some x48)
set_option maxRecDepth 100000 in
set_option maxHeartbeats 4000000 in
theorem zf_P_load {l : Launch} {C : Ct} {mi : Nat} {a0 : Nat} {p1 : Option Nat} {h h' : Hp} (hf : f_P_load a0 p1 h = some h') : Z l C mi m_P_load 1 0 [(0, vr (some a0)), (1, vr p1)] [] h none h' := by
  unfold f_P_load at hf
  refine z_aload_n 0 d_P_load_0 rfl rfl ?_
  obtain ⟨g1, hf⟩ := gd_some hf
  obtain ⟨h2, ec3, hf⟩ := cv_some hf
  refine z_callVx rfl (c_P_forgetTouched ec3) d_P_load_1 cw_P_forgetTouched lk_P_54 im_P_forgetTouched se_P_forgetTouched (kc_K (isK_eq g1) kc_5) ⟨by decide, by decide⟩ (Nat.le_of_ble_eq_true rfl) rfl ?_
  refine z_iconst (v := (0 : Int32)) d_P_load_4 (by decide) ?_
  refine z_istore_n (ls2 := [(2, vi (0 : Int32)), (0, vr (some a0)), (1, vr p1)]) d_P_load_5 rfl (by decide) rfl ?_
  obtain ⟨x48, el49, hf⟩ := bd_some hf
  refine z_ls [1, 2, 0] rfl ?_
  refine zl_P_load_6 el49 ?_
  cases (Option.some.inj hf)
  exact z_ret d_P_load_101 rfl
set_option maxRecDepth 100000 in
set_option maxHeartbeats 4000000 in
theorem fr_P_load {C : Ct} {mi : Nat} {a0 : Nat} {p1 : Option Nat} {h h' : Hp} (hf : f_P_load a0 p1 h = some h') : Keep W_P_load h h' := by
  unfold f_P_load at hf
  obtain ⟨g1, hf⟩ := gd_some hf
  obtain ⟨h2, ec3, hf⟩ := cv_some hf
  have K4 := (Keep.refl W_P_load _).trans ((fr_P_forgetTouched (C := C) (mi := mi) ec3).mono (by decide) (by decide))
  obtain ⟨x48, el49, hf⟩ := bd_some hf
  have K50 := K4.trans (kl_P_load_6 (C := C) (mi := mi) el49)
  cases (Option.some.inj hf)
  exact K50
theorem c_P_load {l : Launch} {C : Ct} {mi : Nat} {a0 : Nat} {p1 : Option Nat} {h h' : Hp} (hf : f_P_load a0 p1 h = some h') : Mt l C mi m_P_load 1 [vr (some a0), vr p1] h none h' := mt_V rfl rfl (by decide) (Nat.le_of_ble_eq_true rfl) (zf_P_load hf)
-- VersionMaps$Chunk.livePages(I)I
def m_K_livePages : Mi := (⟨"VersionMaps$Chunk", "livePages", "(I)I"⟩, prog_3_method_5_code, 4, (Option.some Jvm.ClassFile.FieldType.int), .ireturn)
theorem cw_K_livePages : cw_ok m_K_livePages 1 := ⟨by decide +kernel, by decide +kernel, by decide +kernel, by decide +kernel⟩
theorem im_K_livePages : Cond.instanceMethod m_K_livePages.1 ∈ lw_w := by decide +kernel
theorem se_K_livePages : Cond.selects "VersionMaps$Chunk" m_K_livePages.1 m_K_livePages.1 ∈ lw_w := by decide +kernel
theorem d_K_livePages_0 : decode prog_3_method_5_code 0 = .ok (.iconst 0, 1) := by decide +kernel
theorem d_K_livePages_1 : decode prog_3_method_5_code 1 = .ok (.istore_n 2, 1) := by decide +kernel
theorem d_K_livePages_2 : decode prog_3_method_5_code 2 = .ok (.iconst 0, 1) := by decide +kernel
theorem d_K_livePages_3 : decode prog_3_method_5_code 3 = .ok (.istore_n 3, 1) := by decide +kernel
theorem d_K_livePages_4 : decode prog_3_method_5_code 4 = .ok (.iload_n 3, 1) := by decide +kernel
theorem d_K_livePages_5 : decode prog_3_method_5_code 5 = .ok (.aload_n 0, 1) := by decide +kernel
theorem d_K_livePages_6 : decode prog_3_method_5_code 6 = .ok (.getfield 25, 3) := by decide +kernel
theorem d_K_livePages_9 : decode prog_3_method_5_code 9 = .ok (.arraylength, 1) := by decide +kernel
theorem d_K_livePages_10 : decode prog_3_method_5_code 10 = .ok (.if_icmp .ge 25, 3) := by decide +kernel
theorem d_K_livePages_13 : decode prog_3_method_5_code 13 = .ok (.aload_n 0, 1) := by decide +kernel
theorem d_K_livePages_14 : decode prog_3_method_5_code 14 = .ok (.getfield 25, 3) := by decide +kernel
theorem d_K_livePages_17 : decode prog_3_method_5_code 17 = .ok (.iload_n 3, 1) := by decide +kernel
theorem d_K_livePages_18 : decode prog_3_method_5_code 18 = .ok (.aaload, 1) := by decide +kernel
theorem d_K_livePages_19 : decode prog_3_method_5_code 19 = .ok (.getfield 46, 3) := by decide +kernel
theorem d_K_livePages_22 : decode prog_3_method_5_code 22 = .ok (.iload_n 1, 1) := by decide +kernel
theorem d_K_livePages_23 : decode prog_3_method_5_code 23 = .ok (.if_icmp .ne 6, 3) := by decide +kernel
theorem d_K_livePages_26 : decode prog_3_method_5_code 26 = .ok (.iinc 2 1, 3) := by decide +kernel
theorem d_K_livePages_29 : decode prog_3_method_5_code 29 = .ok (.iinc 3 1, 3) := by decide +kernel
theorem d_K_livePages_32 : decode prog_3_method_5_code 32 = .ok (.goto (-28), 3) := by decide +kernel
theorem d_K_livePages_35 : decode prog_3_method_5_code 35 = .ok (.iload_n 2, 1) := by decide +kernel
theorem d_K_livePages_36 : decode prog_3_method_5_code 36 = .ok (.ireturn, 1) := by decide +kernel
def W_K_livePages : Wl := ([], [])
def b_K_livePages_4 (y0 : Nat) (y1 : Int32) (y2 : Int32) (y3 : Int32) (h : Hp) : Option ((Int32 × Int32 × Hp) ⊕ (Int32 × Hp)) :=
  gd (isK h y0 2) (dr (hpR h y0 2) fun a2 => gd (isK h a2 103) (if (Int32.ofNat (hpL h a2)) ≤ y3 then (some (.inr (y2, h))) else (gd (inb y3 (hpL h a2)) (dr (hpR h a2 y3.toNatClampNeg) fun a7 => gd (isPg h a7) (if (hpI h a7 2) = y1 then (some (.inl ((y2 + (1 : Int32)), (y3 + (1 : Int32)), h))) else (some (.inl (y2, (y3 + (1 : Int32)), h))))))))
set_option maxRecDepth 100000 in
set_option maxHeartbeats 4000000 in
theorem zb_K_livePages_4 {l : Launch} {C : Ct} {mi : Nat} {y0 : Nat} {y1 : Int32} {y2 : Int32} {y3 : Int32} {h h' : Hp} {v : Int32} {q : ((Int32 × Int32 × Hp) ⊕ (Int32 × Hp))} (hf : b_K_livePages_4 y0 y1 y2 y3 h = some q) (kc : ∀ s, q = .inl s → Z l C mi m_K_livePages 0 4 [(0, vr (some y0)), (1, vi y1), (2, vi s.1), (3, vi s.2.1)] [] s.2.2 (some (vi v)) h') (ke : ∀ x, q = .inr x → Z l C mi m_K_livePages 0 35 [(2, vi x.1)] [] x.2 (some (vi v)) h') : Z l C mi m_K_livePages 0 4 [(0, vr (some y0)), (1, vi y1), (2, vi y2), (3, vi y3)] [] h (some (vi v)) h' := by
  unfold b_K_livePages_4 at hf
  refine z_iload_n 3 d_K_livePages_4 rfl rfl ?_
  refine z_aload_n 0 d_K_livePages_5 rfl rfl ?_
  obtain ⟨g1, hf⟩ := gd_some hf
  refine z_getR d_K_livePages_6 (fl_K (isK_eq g1) fl_K_25_2) (fi_K (isK_eq g1) rfl) rfl ?_
  obtain ⟨a2, e3, hf⟩ := dr_some hf
  obtain ⟨g4, hf⟩ := gd_some hf
  refine z_alen d_K_livePages_9 e3 (by rw [isK_eq g4]; decide) ?_
  refine z_icmp_ge (tgt := 35) d_K_livePages_10 (by decide) (fun c5 => ?_) (fun c5 => ?_)
  · rw [if_pos c5] at hf
    refine z_ls [2] rfl ?_
    exact ke (y2, h) (Option.some.inj hf).symm
  · rw [if_neg c5] at hf
    refine z_aload_n 0 d_K_livePages_13 rfl rfl ?_
    refine z_getR d_K_livePages_14 (fl_K (isK_eq g1) fl_K_25_2) (fi_K (isK_eq g1) rfl) rfl ?_
    refine z_iload_n 3 d_K_livePages_17 rfl rfl ?_
    obtain ⟨g6, hf⟩ := gd_some hf
    refine z_aald d_K_livePages_18 e3 (by rw [isK_eq g4]; decide) (by rw [isK_eq g4]; decide) (inb_vp g6) ?_
    obtain ⟨a7, e8, hf⟩ := dr_some hf
    obtain ⟨g9, hf⟩ := gd_some hf
    refine z_getI d_K_livePages_19 (fl_P g9 fl_K_46_3 fl_K_46_4 fl_K_46_6) (fi_P g9 rfl rfl rfl) e8 ?_
    refine z_iload_n 1 d_K_livePages_22 rfl rfl ?_
    refine z_icmp_ne (tgt := 29) d_K_livePages_23 (by decide) (fun c10 => ?_) (fun c10 => ?_)
    · rw [if_neg c10] at hf
      refine z_iinc (ls2 := [(3, vi (y3 + (1 : Int32))), (0, vr (some y0)), (1, vi y1), (2, vi y2)]) 3 d_K_livePages_29 rfl rfl (by decide) rfl ?_
      refine z_goto (tgt := 4) d_K_livePages_32 (by decide) ?_
      refine z_ls [1, 2, 3, 0] rfl ?_
      exact kc (y2, (y3 + (1 : Int32)), h) (Option.some.inj hf).symm
    · rw [if_pos c10] at hf
      refine z_iinc (ls2 := [(2, vi (y2 + (1 : Int32))), (0, vr (some y0)), (1, vi y1), (3, vi y3)]) 2 d_K_livePages_26 rfl rfl (by decide) rfl ?_
      refine z_iinc (ls2 := [(3, vi (y3 + (1 : Int32))), (2, vi (y2 + (1 : Int32))), (0, vr (some y0)), (1, vi y1)]) 3 d_K_livePages_29 rfl rfl (by decide) rfl ?_
      refine z_goto (tgt := 4) d_K_livePages_32 (by decide) ?_
      refine z_ls [2, 3, 1, 0] rfl ?_
      exact kc ((y2 + (1 : Int32)), (y3 + (1 : Int32)), h) (Option.some.inj hf).symm
set_option maxRecDepth 100000 in
set_option maxHeartbeats 4000000 in
theorem kb_K_livePages_4 {C : Ct} {mi : Nat} {y0 : Nat} {y1 : Int32} {y2 : Int32} {y3 : Int32} {h : Hp} {q : ((Int32 × Int32 × Hp) ⊕ (Int32 × Hp))} (hf : b_K_livePages_4 y0 y1 y2 y3 h = some q) : Keep W_K_livePages h (Sum.elim (fun s : Int32 × Int32 × Hp => s.2.2) (fun x : Int32 × Hp => x.2) q) := by
  unfold b_K_livePages_4 at hf
  obtain ⟨g1, hf⟩ := gd_some hf
  obtain ⟨a2, e3, hf⟩ := dr_some hf
  obtain ⟨g4, hf⟩ := gd_some hf
  rcases Classical.em ((Int32.ofNat (hpL h a2)) ≤ y3) with c5 | c5
  · rw [if_pos c5] at hf
    cases (Option.some.inj hf)
    exact (Keep.refl W_K_livePages _)
  · rw [if_neg c5] at hf
    obtain ⟨g6, hf⟩ := gd_some hf
    obtain ⟨a7, e8, hf⟩ := dr_some hf
    obtain ⟨g9, hf⟩ := gd_some hf
    rcases (Classical.em ((hpI h a7 2) = y1)).symm with c10 | c10
    · rw [if_neg c10] at hf
      cases (Option.some.inj hf)
      exact (Keep.refl W_K_livePages _)
    · rw [if_pos c10] at hf
      cases (Option.some.inj hf)
      exact (Keep.refl W_K_livePages _)
def l_K_livePages_4 (y0 : Nat) (y1 : Int32) (s : Int32 × Int32 × Hp) : Option (Int32 × Hp) := lp (fun s => b_K_livePages_4 y0 y1 s.1 s.2.1 s.2.2) FU s
theorem zzl_K_livePages_4 {l : Launch} {C : Ct} {mi : Nat} {y0 : Nat} {y1 : Int32} {h' : Hp} {v : Int32} : ∀ (n : Nat) (s : Int32 × Int32 × Hp) (x : (Int32 × Hp)), lp (fun s : Int32 × Int32 × Hp => b_K_livePages_4 y0 y1 s.1 s.2.1 s.2.2) n s = some x → Z l C mi m_K_livePages 0 35 [(2, vi x.1)] [] x.2 (some (vi v)) h' → Z l C mi m_K_livePages 0 4 [(0, vr (some y0)), (1, vi y1), (2, vi s.1), (3, vi s.2.1)] [] s.2.2 (some (vi v)) h' := by
  intro n
  induction n with
  | zero => intro s x hl; cases hl
  | succ n ih =>
    intro s x hl ke
    rcases lp_some hl with ⟨s2, hb, hl2⟩ | hb
    · exact zb_K_livePages_4 hb (fun s3 e3 => by cases e3; refine z_ls [0, 1, 2, 3] rfl ?_; exact ih s2 x hl2 ke) (fun x e3 => by cases e3)
    · exact zb_K_livePages_4 hb (fun s3 e3 => by cases e3) (fun x e3 => by cases e3; exact ke)
theorem zl_K_livePages_4 {l : Launch} {C : Ct} {mi : Nat} {y0 : Nat} {y1 : Int32} {h' : Hp} {v : Int32} {s : Int32 × Int32 × Hp} {x : (Int32 × Hp)} (hl : l_K_livePages_4 y0 y1 s = some x) (ke : Z l C mi m_K_livePages 0 35 [(2, vi x.1)] [] x.2 (some (vi v)) h') : Z l C mi m_K_livePages 0 4 [(0, vr (some y0)), (1, vi y1), (2, vi s.1), (3, vi s.2.1)] [] s.2.2 (some (vi v)) h' := zzl_K_livePages_4 FU s x hl ke
theorem kl_K_livePages_4 {C : Ct} {mi : Nat} {y0 : Nat} {y1 : Int32} {s : Int32 × Int32 × Hp} {q : (Int32 × Hp)} (hl : l_K_livePages_4 y0 y1 s = some q) : Keep W_K_livePages s.2.2 ((fun x : Int32 × Hp => x.2) q) := lpk (sh := (fun s : Int32 × Int32 × Hp => s.2.2)) (rh := (fun x : Int32 × Hp => x.2)) (fun s q hb => kb_K_livePages_4 (C := C) (mi := mi) hb) FU s q hl
def f_K_livePages (a0 : Nat) (p1 : Int32) (h : Hp) : Option (Int32 × Hp) :=
  bd (l_K_livePages_4 a0 p1 ((0 : Int32), (0 : Int32), h)) fun x11 => some (x11.1, x11.2)
set_option maxRecDepth 100000 in
set_option maxHeartbeats 4000000 in
theorem zf_K_livePages {l : Launch} {C : Ct} {mi : Nat} {a0 : Nat} {p1 : Int32} {h h' : Hp} {v : Int32} (hf : f_K_livePages a0 p1 h = some (v, h')) : Z l C mi m_K_livePages 0 0 [(0, vr (some a0)), (1, vi p1)] [] h (some (vi v)) h' := by
  unfold f_K_livePages at hf
  refine z_iconst (v := (0 : Int32)) d_K_livePages_0 (by decide) ?_
  refine z_istore_n (ls2 := [(2, vi (0 : Int32)), (0, vr (some a0)), (1, vi p1)]) d_K_livePages_1 rfl (by decide) rfl ?_
  refine z_iconst (v := (0 : Int32)) d_K_livePages_2 (by decide) ?_
  refine z_istore_n (ls2 := [(3, vi (0 : Int32)), (2, vi (0 : Int32)), (0, vr (some a0)), (1, vi p1)]) d_K_livePages_3 rfl (by decide) rfl ?_
  obtain ⟨x11, el12, hf⟩ := bd_some hf
  refine z_ls [2, 3, 1, 0] rfl ?_
  refine zl_K_livePages_4 el12 ?_
  refine z_iload_n 0 d_K_livePages_35 rfl rfl ?_
  obtain ⟨rfl, rfl⟩ := Prod.mk.inj (Option.some.inj hf)
  exact z_ret d_K_livePages_36 rfl
set_option maxRecDepth 100000 in
set_option maxHeartbeats 4000000 in
theorem fr_K_livePages {C : Ct} {mi : Nat} {a0 : Nat} {p1 : Int32} {h h' : Hp} {v : Int32} (hf : f_K_livePages a0 p1 h = some (v, h')) : Keep W_K_livePages h h' := by
  unfold f_K_livePages at hf
  obtain ⟨x11, el12, hf⟩ := bd_some hf
  have K13 := (Keep.refl W_K_livePages _).trans (kl_K_livePages_4 (C := C) (mi := mi) el12)
  obtain ⟨rfl, rfl⟩ := Prod.mk.inj (Option.some.inj hf)
  exact K13
theorem c_K_livePages {l : Launch} {C : Ct} {mi : Nat} {a0 : Nat} {p1 : Int32} {h h' : Hp} {v : Int32} (hf : f_K_livePages a0 p1 h = some (v, h')) : Mt l C mi m_K_livePages 0 [vr (some a0), vi p1] h (some (vi v)) h' := mt_I (ty := .int) rfl rfl rfl (by decide) (Nat.le_of_ble_eq_true rfl) (zf_K_livePages hf)
-- VersionMaps$Present.touchPagesIn(LVersionMaps$Chunk;LVersionMaps$Meta;)I
def m_P_touchPagesIn : Mi := (⟨"VersionMaps$Present", "touchPagesIn", "(LVersionMaps$Chunk;LVersionMaps$Meta;)I"⟩, prog_7_method_9_code, 7, (Option.some Jvm.ClassFile.FieldType.int), .ireturn)
theorem cw_P_touchPagesIn : cw_ok m_P_touchPagesIn 2 := ⟨by decide +kernel, by decide +kernel, by decide +kernel, by decide +kernel⟩
theorem im_P_touchPagesIn : Cond.instanceMethod m_P_touchPagesIn.1 ∈ lw_w := by decide +kernel
theorem se_P_touchPagesIn : Cond.selects "VersionMaps$Present" m_P_touchPagesIn.1 m_P_touchPagesIn.1 ∈ lw_w := by decide +kernel
theorem d_P_touchPagesIn_0 : decode prog_7_method_9_code 0 = .ok (.iconst 0, 1) := by decide +kernel
theorem d_P_touchPagesIn_1 : decode prog_7_method_9_code 1 = .ok (.istore_n 3, 1) := by decide +kernel
theorem d_P_touchPagesIn_2 : decode prog_7_method_9_code 2 = .ok (.iconst 0, 1) := by decide +kernel
theorem d_P_touchPagesIn_3 : decode prog_7_method_9_code 3 = .ok (.istore 4, 2) := by decide +kernel
theorem d_P_touchPagesIn_5 : decode prog_7_method_9_code 5 = .ok (.iload 4, 2) := by decide +kernel
theorem d_P_touchPagesIn_7 : decode prog_7_method_9_code 7 = .ok (.iconst 4, 1) := by decide +kernel
theorem d_P_touchPagesIn_8 : decode prog_7_method_9_code 8 = .ok (.if_icmp .ge 99, 3) := by decide +kernel
theorem d_P_touchPagesIn_11 : decode prog_7_method_9_code 11 = .ok (.aload_n 2, 1) := by decide +kernel
theorem d_P_touchPagesIn_12 : decode prog_7_method_9_code 12 = .ok (.getfield 35, 3) := by decide +kernel
theorem d_P_touchPagesIn_15 : decode prog_7_method_9_code 15 = .ok (.iload 4, 2) := by decide +kernel
theorem d_P_touchPagesIn_17 : decode prog_7_method_9_code 17 = .ok (.aaload, 1) := by decide +kernel
theorem d_P_touchPagesIn_18 : decode prog_7_method_9_code 18 = .ok (.ifnull 33, 3) := by decide +kernel
theorem d_P_touchPagesIn_21 : decode prog_7_method_9_code 21 = .ok (.aload_n 2, 1) := by decide +kernel
theorem d_P_touchPagesIn_22 : decode prog_7_method_9_code 22 = .ok (.getfield 35, 3) := by decide +kernel
theorem d_P_touchPagesIn_25 : decode prog_7_method_9_code 25 = .ok (.iload 4, 2) := by decide +kernel
theorem d_P_touchPagesIn_27 : decode prog_7_method_9_code 27 = .ok (.aaload, 1) := by decide +kernel
theorem d_P_touchPagesIn_28 : decode prog_7_method_9_code 28 = .ok (.getfield 41, 3) := by decide +kernel
theorem d_P_touchPagesIn_31 : decode prog_7_method_9_code 31 = .ok (.aload_n 1, 1) := by decide +kernel
theorem d_P_touchPagesIn_32 : decode prog_7_method_9_code 32 = .ok (.if_acmp .ne 19, 3) := by decide +kernel
theorem d_P_touchPagesIn_35 : decode prog_7_method_9_code 35 = .ok (.aload_n 0, 1) := by decide +kernel
theorem d_P_touchPagesIn_36 : decode prog_7_method_9_code 36 = .ok (.dup, 1) := by decide +kernel
theorem d_P_touchPagesIn_37 : decode prog_7_method_9_code 37 = .ok (.getfield 22, 3) := by decide +kernel
theorem d_P_touchPagesIn_40 : decode prog_7_method_9_code 40 = .ok (.iconst 1, 1) := by decide +kernel
theorem d_P_touchPagesIn_41 : decode prog_7_method_9_code 41 = .ok (.iload 4, 2) := by decide +kernel
theorem d_P_touchPagesIn_43 : decode prog_7_method_9_code 43 = .ok (.ishl, 1) := by decide +kernel
theorem d_P_touchPagesIn_44 : decode prog_7_method_9_code 44 = .ok (.ior, 1) := by decide +kernel
theorem d_P_touchPagesIn_45 : decode prog_7_method_9_code 45 = .ok (.putfield 22, 3) := by decide +kernel
theorem d_P_touchPagesIn_48 : decode prog_7_method_9_code 48 = .ok (.iinc 3 1, 3) := by decide +kernel
theorem d_P_touchPagesIn_51 : decode prog_7_method_9_code 51 = .ok (.iconst 0, 1) := by decide +kernel
theorem d_P_touchPagesIn_52 : decode prog_7_method_9_code 52 = .ok (.istore 5, 2) := by decide +kernel
theorem d_P_touchPagesIn_54 : decode prog_7_method_9_code 54 = .ok (.iload 5, 2) := by decide +kernel
theorem d_P_touchPagesIn_56 : decode prog_7_method_9_code 56 = .ok (.iconst 4, 1) := by decide +kernel
theorem d_P_touchPagesIn_57 : decode prog_7_method_9_code 57 = .ok (.if_icmp .ge 44, 3) := by decide +kernel
theorem d_P_touchPagesIn_60 : decode prog_7_method_9_code 60 = .ok (.aload_n 2, 1) := by decide +kernel
theorem d_P_touchPagesIn_61 : decode prog_7_method_9_code 61 = .ok (.iload 4, 2) := by decide +kernel
theorem d_P_touchPagesIn_63 : decode prog_7_method_9_code 63 = .ok (.iload 5, 2) := by decide +kernel
theorem d_P_touchPagesIn_65 : decode prog_7_method_9_code 65 = .ok (.invokevirtual 47, 3) := by decide +kernel
theorem d_P_touchPagesIn_68 : decode prog_7_method_9_code 68 = .ok (.astore 6, 2) := by decide +kernel
theorem d_P_touchPagesIn_70 : decode prog_7_method_9_code 70 = .ok (.aload 6, 2) := by decide +kernel
theorem d_P_touchPagesIn_72 : decode prog_7_method_9_code 72 = .ok (.ifnull 23, 3) := by decide +kernel
theorem d_P_touchPagesIn_75 : decode prog_7_method_9_code 75 = .ok (.aload 6, 2) := by decide +kernel
theorem d_P_touchPagesIn_77 : decode prog_7_method_9_code 77 = .ok (.getfield 51, 3) := by decide +kernel
theorem d_P_touchPagesIn_80 : decode prog_7_method_9_code 80 = .ok (.aload_n 1, 1) := by decide +kernel
theorem d_P_touchPagesIn_81 : decode prog_7_method_9_code 81 = .ok (.if_acmp .ne 14, 3) := by decide +kernel
theorem d_P_touchPagesIn_84 : decode prog_7_method_9_code 84 = .ok (.aload_n 0, 1) := by decide +kernel
theorem d_P_touchPagesIn_85 : decode prog_7_method_9_code 85 = .ok (.iload 4, 2) := by decide +kernel
theorem d_P_touchPagesIn_87 : decode prog_7_method_9_code 87 = .ok (.iload 5, 2) := by decide +kernel
theorem d_P_touchPagesIn_89 : decode prog_7_method_9_code 89 = .ok (.invokevirtual 25, 3) := by decide +kernel
theorem d_P_touchPagesIn_92 : decode prog_7_method_9_code 92 = .ok (.iinc 3 1, 3) := by decide +kernel
theorem d_P_touchPagesIn_95 : decode prog_7_method_9_code 95 = .ok (.iinc 5 1, 3) := by decide +kernel
theorem d_P_touchPagesIn_98 : decode prog_7_method_9_code 98 = .ok (.goto (-44), 3) := by decide +kernel
theorem d_P_touchPagesIn_101 : decode prog_7_method_9_code 101 = .ok (.iinc 4 1, 3) := by decide +kernel
theorem d_P_touchPagesIn_104 : decode prog_7_method_9_code 104 = .ok (.goto (-99), 3) := by decide +kernel
theorem d_P_touchPagesIn_107 : decode prog_7_method_9_code 107 = .ok (.iload_n 3, 1) := by decide +kernel
theorem d_P_touchPagesIn_108 : decode prog_7_method_9_code 108 = .ok (.ireturn, 1) := by decide +kernel
def W_P_touchPagesIn : Wl := ([(5, 2), (5, 3)], [])
def b_P_touchPagesIn_54 (y0 : Nat) (y1 : Option Nat) (y2 : Option Nat) (y3 : Int32) (y4 : Int32) (y5 : Int32) (h : Hp) : Option ((Int32 × Int32 × Hp) ⊕ (Int32 × Hp)) :=
  if (nI 4) ≤ y5 then (some (.inr (y3, h))) else (dr y2 fun a11 => gd (isK h a11 4) (cl (f_E_leafOf a11 y4 y5 h) fun v16 h14 => if v16 = none then (some (.inl (y3, (y5 + (1 : Int32)), h14))) else (dr v16 fun a19 => gd (isK h14 a19 3) (if (hpR h14 a19 0) = y1 then (gd (isK h14 y0 5) (cv (f_P_touchLeaf y0 y4 y5 h14) fun h24 => some (.inl ((y3 + (1 : Int32)), (y5 + (1 : Int32)), h24)))) else (some (.inl (y3, (y5 + (1 : Int32)), h14)))))))
set_option maxRecDepth 100000 in
set_option maxHeartbeats 4000000 in
theorem zb_P_touchPagesIn_54 {l : Launch} {C : Ct} {mi : Nat} {y0 : Nat} {y1 : Option Nat} {y2 : Option Nat} {y3 : Int32} {y4 : Int32} {y5 : Int32} {h h' : Hp} {v : Int32} {q : ((Int32 × Int32 × Hp) ⊕ (Int32 × Hp))} (hf : b_P_touchPagesIn_54 y0 y1 y2 y3 y4 y5 h = some q) (kc : ∀ s, q = .inl s → Z l C mi m_P_touchPagesIn 1 54 [(0, vr (some y0)), (1, vr y1), (2, vr y2), (3, vi s.1), (4, vi y4), (5, vi s.2.1)] [] s.2.2 (some (vi v)) h') (ke : ∀ x, q = .inr x → Z l C mi m_P_touchPagesIn 1 101 [(0, vr (some y0)), (1, vr y1), (2, vr y2), (3, vi x.1), (4, vi y4)] [] x.2 (some (vi v)) h') : Z l C mi m_P_touchPagesIn 1 54 [(0, vr (some y0)), (1, vr y1), (2, vr y2), (3, vi y3), (4, vi y4), (5, vi y5)] [] h (some (vi v)) h' := by
  unfold b_P_touchPagesIn_54 at hf
  refine z_iload 5 d_P_touchPagesIn_54 rfl ?_
  refine z_iconst (v := (nI 4)) d_P_touchPagesIn_56 (by decide) ?_
  refine z_icmp_ge (tgt := 101) d_P_touchPagesIn_57 (by decide) (fun c10 => ?_) (fun c10 => ?_)
  · rw [if_pos c10] at hf
    refine z_ls [0, 1, 2, 3, 4] rfl ?_
    exact ke (y3, h) (Option.some.inj hf).symm
  · rw [if_neg c10] at hf
    refine z_aload_n 2 d_P_touchPagesIn_60 rfl rfl ?_
    refine z_iload 4 d_P_touchPagesIn_61 rfl ?_
    refine z_iload 5 d_P_touchPagesIn_63 rfl ?_
    obtain ⟨a11, e12, hf⟩ := dr_some hf
    obtain ⟨g13, hf⟩ := gd_some hf
    obtain ⟨v16, h14, ec15, hf⟩ := cl_some hf
    refine z_callVx e12 (c_E_leafOf ec15) d_P_touchPagesIn_65 cw_E_leafOf lk_P_47 im_E_leafOf se_E_leafOf (kc_K (isK_eq g13) kc_4) ⟨by decide, by decide⟩ (Nat.le_of_ble_eq_true rfl) rfl ?_
    refine z_astore (ls2 := [(6, vr v16), (0, vr (some y0)), (1, vr y1), (2, vr y2), (3, vi y3), (4, vi y4), (5, vi y5)]) d_P_touchPagesIn_68 (by decide) rfl ?_
    refine z_aload 0 d_P_touchPagesIn_70 rfl ?_
    refine z_ifnull (tgt := 95) d_P_touchPagesIn_72 (by decide) (fun c18 => ?_) (fun c18 => ?_)
    · rw [if_pos c18] at hf
      refine z_iinc (ls2 := [(5, vi (y5 + (1 : Int32))), (6, vr v16), (0, vr (some y0)), (1, vr y1), (2, vr y2), (3, vi y3), (4, vi y4)]) 6 d_P_touchPagesIn_95 rfl rfl (by decide) rfl ?_
      refine z_goto (tgt := 54) d_P_touchPagesIn_98 (by decide) ?_
      refine z_ls [2, 3, 4, 5, 6, 0] rfl ?_
      exact kc (y3, (y5 + (1 : Int32)), h14) (Option.some.inj hf).symm
    · rw [if_neg c18] at hf
      refine z_aload 0 d_P_touchPagesIn_75 rfl ?_
      obtain ⟨a19, e20, hf⟩ := dr_some hf
      obtain ⟨g21, hf⟩ := gd_some hf
      refine z_getR d_P_touchPagesIn_77 (fl_K (isK_eq g21) fl_P_51_3) (fi_K (isK_eq g21) rfl) e20 ?_
      refine z_aload_n 2 d_P_touchPagesIn_80 rfl rfl ?_
      refine z_acmp_ne (tgt := 95) d_P_touchPagesIn_81 (by decide) (fun c22 => ?_) (fun c22 => ?_)
      · rw [if_neg c22] at hf
        refine z_iinc (ls2 := [(5, vi (y5 + (1 : Int32))), (6, vr v16), (0, vr (some y0)), (1, vr y1), (2, vr y2), (3, vi y3), (4, vi y4)]) 6 d_P_touchPagesIn_95 rfl rfl (by decide) rfl ?_
        refine z_goto (tgt := 54) d_P_touchPagesIn_98 (by decide) ?_
        refine z_ls [2, 3, 4, 5, 6, 0] rfl ?_
        exact kc (y3, (y5 + (1 : Int32)), h14) (Option.some.inj hf).symm
      · rw [if_pos c22] at hf
        refine z_aload_n 1 d_P_touchPagesIn_84 rfl rfl ?_
        refine z_iload 5 d_P_touchPagesIn_85 rfl ?_
        refine z_iload 6 d_P_touchPagesIn_87 rfl ?_
        obtain ⟨g23, hf⟩ := gd_some hf
        obtain ⟨h24, ec25, hf⟩ := cv_some hf
        refine z_callVx rfl (c_P_touchLeaf ec25) d_P_touchPagesIn_89 cw_P_touchLeaf lk_P_25 im_P_touchLeaf se_P_touchLeaf (kc_K (isK_eq g23) kc_5) ⟨by decide, by decide⟩ (Nat.le_of_ble_eq_true rfl) rfl ?_
        refine z_iinc (ls2 := [(3, vi (y3 + (1 : Int32))), (6, vr v16), (0, vr (some y0)), (1, vr y1), (2, vr y2), (4, vi y4), (5, vi y5)]) 4 d_P_touchPagesIn_92 rfl rfl (by decide) rfl ?_
        refine z_iinc (ls2 := [(5, vi (y5 + (1 : Int32))), (3, vi (y3 + (1 : Int32))), (6, vr v16), (0, vr (some y0)), (1, vr y1), (2, vr y2), (4, vi y4)]) 6 d_P_touchPagesIn_95 rfl rfl (by decide) rfl ?_
        refine z_goto (tgt := 54) d_P_touchPagesIn_98 (by decide) ?_
        refine z_ls [3, 4, 5, 1, 6, 0] rfl ?_
        exact kc ((y3 + (1 : Int32)), (y5 + (1 : Int32)), h24) (Option.some.inj hf).symm
set_option maxRecDepth 100000 in
set_option maxHeartbeats 4000000 in
theorem kb_P_touchPagesIn_54 {C : Ct} {mi : Nat} {y0 : Nat} {y1 : Option Nat} {y2 : Option Nat} {y3 : Int32} {y4 : Int32} {y5 : Int32} {h : Hp} {q : ((Int32 × Int32 × Hp) ⊕ (Int32 × Hp))} (hf : b_P_touchPagesIn_54 y0 y1 y2 y3 y4 y5 h = some q) : Keep W_P_touchPagesIn h (Sum.elim (fun s : Int32 × Int32 × Hp => s.2.2) (fun x : Int32 × Hp => x.2) q) := by
  unfold b_P_touchPagesIn_54 at hf
  rcases Classical.em ((nI 4) ≤ y5) with c10 | c10
  · rw [if_pos c10] at hf
    cases (Option.some.inj hf)
    exact (Keep.refl W_P_touchPagesIn _)
  · rw [if_neg c10] at hf
    obtain ⟨a11, e12, hf⟩ := dr_some hf
    obtain ⟨g13, hf⟩ := gd_some hf
    obtain ⟨v16, h14, ec15, hf⟩ := cl_some hf
    have K17 := (Keep.refl W_P_touchPagesIn _).trans ((fr_E_leafOf (C := C) (mi := mi) ec15).mono (by decide) (by decide))
    rcases Classical.em (v16 = none) with c18 | c18
    · rw [if_pos c18] at hf
      cases (Option.some.inj hf)
      exact K17
    · rw [if_neg c18] at hf
      obtain ⟨a19, e20, hf⟩ := dr_some hf
      obtain ⟨g21, hf⟩ := gd_some hf
      rcases (Classical.em ((hpR h14 a19 0) = y1)).symm with c22 | c22
      · rw [if_neg c22] at hf
        cases (Option.some.inj hf)
        exact K17
      · rw [if_pos c22] at hf
        obtain ⟨g23, hf⟩ := gd_some hf
        obtain ⟨h24, ec25, hf⟩ := cv_some hf
        have K26 := K17.trans ((fr_P_touchLeaf (C := C) (mi := mi) ec25).mono (by decide) (by decide))
        cases (Option.some.inj hf)
        exact K26
def l_P_touchPagesIn_54 (y0 : Nat) (y1 : Option Nat) (y2 : Option Nat) (y4 : Int32) (s : Int32 × Int32 × Hp) : Option (Int32 × Hp) := lp (fun s => b_P_touchPagesIn_54 y0 y1 y2 s.1 y4 s.2.1 s.2.2) FU s
theorem zzl_P_touchPagesIn_54 {l : Launch} {C : Ct} {mi : Nat} {y0 : Nat} {y1 : Option Nat} {y2 : Option Nat} {y4 : Int32} {h' : Hp} {v : Int32} : ∀ (n : Nat) (s : Int32 × Int32 × Hp) (x : (Int32 × Hp)), lp (fun s : Int32 × Int32 × Hp => b_P_touchPagesIn_54 y0 y1 y2 s.1 y4 s.2.1 s.2.2) n s = some x → Z l C mi m_P_touchPagesIn 1 101 [(0, vr (some y0)), (1, vr y1), (2, vr y2), (3, vi x.1), (4, vi y4)] [] x.2 (some (vi v)) h' → Z l C mi m_P_touchPagesIn 1 54 [(0, vr (some y0)), (1, vr y1), (2, vr y2), (3, vi s.1), (4, vi y4), (5, vi s.2.1)] [] s.2.2 (some (vi v)) h' := by
  intro n
  induction n with
  | zero => intro s x hl; cases hl
  | succ n ih =>
    intro s x hl ke
    rcases lp_some hl with ⟨s2, hb, hl2⟩ | hb
    · exact zb_P_touchPagesIn_54 hb (fun s3 e3 => by cases e3; refine z_ls [0, 1, 2, 3, 4, 5] rfl ?_; exact ih s2 x hl2 ke) (fun x e3 => by cases e3)
    · exact zb_P_touchPagesIn_54 hb (fun s3 e3 => by cases e3) (fun x e3 => by cases e3; exact ke)
theorem zl_P_touchPagesIn_54 {l : Launch} {C : Ct} {mi : Nat} {y0 : Nat} {y1 : Option Nat} {y2 : Option Nat} {y4 : Int32} {h' : Hp} {v : Int32} {s : Int32 × Int32 × Hp} {x : (Int32 × Hp)} (hl : l_P_touchPagesIn_54 y0 y1 y2 y4 s = some x) (ke : Z l C mi m_P_touchPagesIn 1 101 [(0, vr (some y0)), (1, vr y1), (2, vr y2), (3, vi x.1), (4, vi y4)] [] x.2 (some (vi v)) h') : Z l C mi m_P_touchPagesIn 1 54 [(0, vr (some y0)), (1, vr y1), (2, vr y2), (3, vi s.1), (4, vi y4), (5, vi s.2.1)] [] s.2.2 (some (vi v)) h' := zzl_P_touchPagesIn_54 FU s x hl ke
theorem kl_P_touchPagesIn_54 {C : Ct} {mi : Nat} {y0 : Nat} {y1 : Option Nat} {y2 : Option Nat} {y4 : Int32} {s : Int32 × Int32 × Hp} {q : (Int32 × Hp)} (hl : l_P_touchPagesIn_54 y0 y1 y2 y4 s = some q) : Keep W_P_touchPagesIn s.2.2 ((fun x : Int32 × Hp => x.2) q) := lpk (sh := (fun s : Int32 × Int32 × Hp => s.2.2)) (rh := (fun x : Int32 × Hp => x.2)) (fun s q hb => kb_P_touchPagesIn_54 (C := C) (mi := mi) hb) FU s q hl
def j_P_touchPagesIn_51_L5 (y0 : Nat) (y1 : Option Nat) (y2 : Option Nat) (y3 : Int32) (y4 : Int32) (h : Hp) : Option ((Int32 × Int32 × Hp) ⊕ (Int32 × Hp)) :=
  bd (l_P_touchPagesIn_54 y0 y1 y2 y4 (y3, (0 : Int32), h)) fun x27 => some (.inl (x27.1, (y4 + (1 : Int32)), x27.2))
set_option maxRecDepth 100000 in
set_option maxHeartbeats 4000000 in
theorem zj_P_touchPagesIn_51_L5 {l : Launch} {C : Ct} {mi : Nat} {y0 : Nat} {y1 : Option Nat} {y2 : Option Nat} {y3 : Int32} {y4 : Int32} {h h' : Hp} {v : Int32} {q : ((Int32 × Int32 × Hp) ⊕ (Int32 × Hp))} (hf : j_P_touchPagesIn_51_L5 y0 y1 y2 y3 y4 h = some q) (kc : ∀ s, q = .inl s → Z l C mi m_P_touchPagesIn 1 5 [(0, vr (some y0)), (1, vr y1), (2, vr y2), (3, vi s.1), (4, vi s.2.1)] [] s.2.2 (some (vi v)) h') (ke : ∀ x, q = .inr x → Z l C mi m_P_touchPagesIn 1 107 [(3, vi x.1)] [] x.2 (some (vi v)) h') : Z l C mi m_P_touchPagesIn 1 51 [(0, vr (some y0)), (1, vr y1), (2, vr y2), (3, vi y3), (4, vi y4)] [] h (some (vi v)) h' := by
  unfold j_P_touchPagesIn_51_L5 at hf
  refine z_iconst (v := (0 : Int32)) d_P_touchPagesIn_51 (by decide) ?_
  refine z_istore (ls2 := [(5, vi (0 : Int32)), (0, vr (some y0)), (1, vr y1), (2, vr y2), (3, vi y3), (4, vi y4)]) d_P_touchPagesIn_52 (by decide) rfl ?_
  obtain ⟨x27, el28, hf⟩ := bd_some hf
  refine z_ls [1, 2, 3, 4, 5, 0] rfl ?_
  refine zl_P_touchPagesIn_54 el28 ?_
  refine z_iinc (ls2 := [(4, vi (y4 + (1 : Int32))), (0, vr (some y0)), (1, vr y1), (2, vr y2), (3, vi x27.1)]) 4 d_P_touchPagesIn_101 rfl rfl (by decide) rfl ?_
  refine z_goto (tgt := 5) d_P_touchPagesIn_104 (by decide) ?_
  refine z_ls [1, 2, 3, 4, 0] rfl ?_
  exact kc (x27.1, (y4 + (1 : Int32)), x27.2) (Option.some.inj hf).symm
set_option maxRecDepth 100000 in
set_option maxHeartbeats 4000000 in
theorem kj_P_touchPagesIn_51_L5 {C : Ct} {mi : Nat} {y0 : Nat} {y1 : Option Nat} {y2 : Option Nat} {y3 : Int32} {y4 : Int32} {h : Hp} {q : ((Int32 × Int32 × Hp) ⊕ (Int32 × Hp))} (hf : j_P_touchPagesIn_51_L5 y0 y1 y2 y3 y4 h = some q) : Keep W_P_touchPagesIn h (Sum.elim (fun s : Int32 × Int32 × Hp => s.2.2) (fun x : Int32 × Hp => x.2) q) := by
  unfold j_P_touchPagesIn_51_L5 at hf
  obtain ⟨x27, el28, hf⟩ := bd_some hf
  have K29 := (Keep.refl W_P_touchPagesIn _).trans (kl_P_touchPagesIn_54 (C := C) (mi := mi) el28)
  cases (Option.some.inj hf)
  exact K29
def b_P_touchPagesIn_5 (y0 : Nat) (y1 : Option Nat) (y2 : Option Nat) (y3 : Int32) (y4 : Int32) (h : Hp) : Option ((Int32 × Int32 × Hp) ⊕ (Int32 × Hp)) :=
  if (nI 4) ≤ y4 then (some (.inr (y3, h))) else (dr y2 fun a2 => gd (isK h a2 4) (dr (hpR h a2 4) fun a5 => gd (isK h a5 104) (gd (inb y4 (hpL h a5)) (if (hpR h a5 y4.toNatClampNeg) = none then (j_P_touchPagesIn_51_L5 y0 y1 y2 y3 y4 h) else (dr (hpR h a5 y4.toNatClampNeg) fun a30 => gd (isK h a30 6) (if (hpR h a30 0) = y1 then (gd (isK h y0 5) (nm (wI h y0 3 ((hpI h y0 3) ||| ((1 : Int32) <<< (y4 &&& 31)))) fun h35 => j_P_touchPagesIn_51_L5 y0 y1 y2 (y3 + (1 : Int32)) y4 h35)) else (j_P_touchPagesIn_51_L5 y0 y1 y2 y3 y4 h)))))))
set_option maxRecDepth 100000 in
set_option maxHeartbeats 4000000 in
theorem zb_P_touchPagesIn_5 {l : Launch} {C : Ct} {mi : Nat} {y0 : Nat} {y1 : Option Nat} {y2 : Option Nat} {y3 : Int32} {y4 : Int32} {h h' : Hp} {v : Int32} {q : ((Int32 × Int32 × Hp) ⊕ (Int32 × Hp))} (hf : b_P_touchPagesIn_5 y0 y1 y2 y3 y4 h = some q) (kc : ∀ s, q = .inl s → Z l C mi m_P_touchPagesIn 1 5 [(0, vr (some y0)), (1, vr y1), (2, vr y2), (3, vi s.1), (4, vi s.2.1)] [] s.2.2 (some (vi v)) h') (ke : ∀ x, q = .inr x → Z l C mi m_P_touchPagesIn 1 107 [(3, vi x.1)] [] x.2 (some (vi v)) h') : Z l C mi m_P_touchPagesIn 1 5 [(0, vr (some y0)), (1, vr y1), (2, vr y2), (3, vi y3), (4, vi y4)] [] h (some (vi v)) h' := by
  unfold b_P_touchPagesIn_5 at hf
  refine z_iload 4 d_P_touchPagesIn_5 rfl ?_
  refine z_iconst (v := (nI 4)) d_P_touchPagesIn_7 (by decide) ?_
  refine z_icmp_ge (tgt := 107) d_P_touchPagesIn_8 (by decide) (fun c1 => ?_) (fun c1 => ?_)
  · rw [if_pos c1] at hf
    refine z_ls [3] rfl ?_
    exact ke (y3, h) (Option.some.inj hf).symm
  · rw [if_neg c1] at hf
    refine z_aload_n 2 d_P_touchPagesIn_11 rfl rfl ?_
    obtain ⟨a2, e3, hf⟩ := dr_some hf
    obtain ⟨g4, hf⟩ := gd_some hf
    refine z_getR d_P_touchPagesIn_12 (fl_K (isK_eq g4) fl_P_35_4) (fi_K (isK_eq g4) rfl) e3 ?_
    refine z_iload 4 d_P_touchPagesIn_15 rfl ?_
    obtain ⟨a5, e6, hf⟩ := dr_some hf
    obtain ⟨g7, hf⟩ := gd_some hf
    obtain ⟨g8, hf⟩ := gd_some hf
    refine z_aald d_P_touchPagesIn_17 e6 (by rw [isK_eq g7]; decide) (by rw [isK_eq g7]; decide) (inb_vp g8) ?_
    refine z_ifnull (tgt := 51) d_P_touchPagesIn_18 (by decide) (fun c9 => ?_) (fun c9 => ?_)
    · rw [if_pos c9] at hf
      refine z_ls [0, 1, 2, 3, 4] rfl ?_
      exact zj_P_touchPagesIn_51_L5 hf kc ke
    · rw [if_neg c9] at hf
      refine z_aload_n 2 d_P_touchPagesIn_21 rfl rfl ?_
      refine z_getR d_P_touchPagesIn_22 (fl_K (isK_eq g4) fl_P_35_4) (fi_K (isK_eq g4) rfl) e3 ?_
      refine z_iload 4 d_P_touchPagesIn_25 rfl ?_
      refine z_aald d_P_touchPagesIn_27 e6 (by rw [isK_eq g7]; decide) (by rw [isK_eq g7]; decide) (inb_vp g8) ?_
      obtain ⟨a30, e31, hf⟩ := dr_some hf
      obtain ⟨g32, hf⟩ := gd_some hf
      refine z_getR d_P_touchPagesIn_28 (fl_K (isK_eq g32) fl_P_41_6) (fi_K (isK_eq g32) rfl) e31 ?_
      refine z_aload_n 1 d_P_touchPagesIn_31 rfl rfl ?_
      refine z_acmp_ne (tgt := 51) d_P_touchPagesIn_32 (by decide) (fun c33 => ?_) (fun c33 => ?_)
      · rw [if_neg c33] at hf
        refine z_ls [0, 1, 2, 3, 4] rfl ?_
        exact zj_P_touchPagesIn_51_L5 hf kc ke
      · rw [if_pos c33] at hf
        refine z_aload_n 0 d_P_touchPagesIn_35 rfl rfl ?_
        refine z_dup d_P_touchPagesIn_36 rfl ?_
        obtain ⟨g34, hf⟩ := gd_some hf
        refine z_getI d_P_touchPagesIn_37 (fl_K (isK_eq g34) fl_P_22_5) (fi_K (isK_eq g34) rfl) rfl ?_
        refine z_iconst (v := (1 : Int32)) d_P_touchPagesIn_40 (by decide) ?_
        refine z_iload 4 d_P_touchPagesIn_41 rfl ?_
        refine z_ishl d_P_touchPagesIn_43 ?_
        refine z_ior d_P_touchPagesIn_44 ?_
        obtain ⟨h35, eh36, hf⟩ := nm_some hf
        refine z_putI d_P_touchPagesIn_45 (fl_K (isK_eq g34) fl_P_22_5) (pu_K (isK_eq g34) (fun q hq => by cases (Option.some.inj hq); exact Or.inl rfl)) (fi_K (isK_eq g34) rfl) rfl ?_
        refine z_hp eh36 ?_
        refine z_iinc (ls2 := [(3, vi (y3 + (1 : Int32))), (0, vr (some y0)), (1, vr y1), (2, vr y2), (4, vi y4)]) 3 d_P_touchPagesIn_48 rfl rfl (by decide) rfl ?_
        refine z_ls [1, 2, 3, 0, 4] rfl ?_
        exact zj_P_touchPagesIn_51_L5 hf kc ke
set_option maxRecDepth 100000 in
set_option maxHeartbeats 4000000 in
theorem kb_P_touchPagesIn_5 {C : Ct} {mi : Nat} {y0 : Nat} {y1 : Option Nat} {y2 : Option Nat} {y3 : Int32} {y4 : Int32} {h : Hp} {q : ((Int32 × Int32 × Hp) ⊕ (Int32 × Hp))} (hf : b_P_touchPagesIn_5 y0 y1 y2 y3 y4 h = some q) : Keep W_P_touchPagesIn h (Sum.elim (fun s : Int32 × Int32 × Hp => s.2.2) (fun x : Int32 × Hp => x.2) q) := by
  unfold b_P_touchPagesIn_5 at hf
  rcases Classical.em ((nI 4) ≤ y4) with c1 | c1
  · rw [if_pos c1] at hf
    cases (Option.some.inj hf)
    exact (Keep.refl W_P_touchPagesIn _)
  · rw [if_neg c1] at hf
    obtain ⟨a2, e3, hf⟩ := dr_some hf
    obtain ⟨g4, hf⟩ := gd_some hf
    obtain ⟨a5, e6, hf⟩ := dr_some hf
    obtain ⟨g7, hf⟩ := gd_some hf
    obtain ⟨g8, hf⟩ := gd_some hf
    rcases Classical.em ((hpR h a5 y4.toNatClampNeg) = none) with c9 | c9
    · rw [if_pos c9] at hf
      exact (Keep.refl W_P_touchPagesIn _).trans (kj_P_touchPagesIn_51_L5 (C := C) (mi := mi) hf)
    · rw [if_neg c9] at hf
      obtain ⟨a30, e31, hf⟩ := dr_some hf
      obtain ⟨g32, hf⟩ := gd_some hf
      rcases (Classical.em ((hpR h a30 0) = y1)).symm with c33 | c33
      · rw [if_neg c33] at hf
        exact (Keep.refl W_P_touchPagesIn _).trans (kj_P_touchPagesIn_51_L5 (C := C) (mi := mi) hf)
      · rw [if_pos c33] at hf
        obtain ⟨g34, hf⟩ := gd_some hf
        obtain ⟨h35, eh36, hf⟩ := nm_some hf
        have K37 := (Keep.refl W_P_touchPagesIn _).trans (kw_I eh36 (isK_eq g34) (Or.inl (by decide)))
        exact K37.trans (kj_P_touchPagesIn_51_L5 (C := C) (mi := mi) hf)
def l_P_touchPagesIn_5 (y0 : Nat) (y1 : Option Nat) (y2 : Option Nat) (s : Int32 × Int32 × Hp) : Option (Int32 × Hp) := lp (fun s => b_P_touchPagesIn_5 y0 y1 y2 s.1 s.2.1 s.2.2) FU s
theorem zzl_P_touchPagesIn_5 {l : Launch} {C : Ct} {mi : Nat} {y0 : Nat} {y1 : Option Nat} {y2 : Option Nat} {h' : Hp} {v : Int32} : ∀ (n : Nat) (s : Int32 × Int32 × Hp) (x : (Int32 × Hp)), lp (fun s : Int32 × Int32 × Hp => b_P_touchPagesIn_5 y0 y1 y2 s.1 s.2.1 s.2.2) n s = some x → Z l C mi m_P_touchPagesIn 1 107 [(3, vi x.1)] [] x.2 (some (vi v)) h' → Z l C mi m_P_touchPagesIn 1 5 [(0, vr (some y0)), (1, vr y1), (2, vr y2), (3, vi s.1), (4, vi s.2.1)] [] s.2.2 (some (vi v)) h' := by
  intro n
  induction n with
  | zero => intro s x hl; cases hl
  | succ n ih =>
    intro s x hl ke
    rcases lp_some hl with ⟨s2, hb, hl2⟩ | hb
    · exact zb_P_touchPagesIn_5 hb (fun s3 e3 => by cases e3; refine z_ls [0, 1, 2, 3, 4] rfl ?_; exact ih s2 x hl2 ke) (fun x e3 => by cases e3)
    · exact zb_P_touchPagesIn_5 hb (fun s3 e3 => by cases e3) (fun x e3 => by cases e3; exact ke)
theorem zl_P_touchPagesIn_5 {l : Launch} {C : Ct} {mi : Nat} {y0 : Nat} {y1 : Option Nat} {y2 : Option Nat} {h' : Hp} {v : Int32} {s : Int32 × Int32 × Hp} {x : (Int32 × Hp)} (hl : l_P_touchPagesIn_5 y0 y1 y2 s = some x) (ke : Z l C mi m_P_touchPagesIn 1 107 [(3, vi x.1)] [] x.2 (some (vi v)) h') : Z l C mi m_P_touchPagesIn 1 5 [(0, vr (some y0)), (1, vr y1), (2, vr y2), (3, vi s.1), (4, vi s.2.1)] [] s.2.2 (some (vi v)) h' := zzl_P_touchPagesIn_5 FU s x hl ke
theorem kl_P_touchPagesIn_5 {C : Ct} {mi : Nat} {y0 : Nat} {y1 : Option Nat} {y2 : Option Nat} {s : Int32 × Int32 × Hp} {q : (Int32 × Hp)} (hl : l_P_touchPagesIn_5 y0 y1 y2 s = some q) : Keep W_P_touchPagesIn s.2.2 ((fun x : Int32 × Hp => x.2) q) := lpk (sh := (fun s : Int32 × Int32 × Hp => s.2.2)) (rh := (fun x : Int32 × Hp => x.2)) (fun s q hb => kb_P_touchPagesIn_5 (C := C) (mi := mi) hb) FU s q hl
def f_P_touchPagesIn (a0 : Nat) (p1 : Option Nat) (p2 : Option Nat) (h : Hp) : Option (Int32 × Hp) :=
  bd (l_P_touchPagesIn_5 a0 p1 p2 ((0 : Int32), (0 : Int32), h)) fun x38 => some (x38.1, x38.2)
set_option maxRecDepth 100000 in
set_option maxHeartbeats 4000000 in
theorem zf_P_touchPagesIn {l : Launch} {C : Ct} {mi : Nat} {a0 : Nat} {p1 : Option Nat} {p2 : Option Nat} {h h' : Hp} {v : Int32} (hf : f_P_touchPagesIn a0 p1 p2 h = some (v, h')) : Z l C mi m_P_touchPagesIn 1 0 [(0, vr (some a0)), (1, vr p1), (2, vr p2)] [] h (some (vi v)) h' := by
  unfold f_P_touchPagesIn at hf
  refine z_iconst (v := (0 : Int32)) d_P_touchPagesIn_0 (by decide) ?_
  refine z_istore_n (ls2 := [(3, vi (0 : Int32)), (0, vr (some a0)), (1, vr p1), (2, vr p2)]) d_P_touchPagesIn_1 rfl (by decide) rfl ?_
  refine z_iconst (v := (0 : Int32)) d_P_touchPagesIn_2 (by decide) ?_
  refine z_istore (ls2 := [(4, vi (0 : Int32)), (3, vi (0 : Int32)), (0, vr (some a0)), (1, vr p1), (2, vr p2)]) d_P_touchPagesIn_3 (by decide) rfl ?_
  obtain ⟨x38, el39, hf⟩ := bd_some hf
  refine z_ls [2, 3, 4, 1, 0] rfl ?_
  refine zl_P_touchPagesIn_5 el39 ?_
  refine z_iload_n 0 d_P_touchPagesIn_107 rfl rfl ?_
  obtain ⟨rfl, rfl⟩ := Prod.mk.inj (Option.some.inj hf)
  exact z_ret d_P_touchPagesIn_108 rfl
set_option maxRecDepth 100000 in
set_option maxHeartbeats 4000000 in
theorem fr_P_touchPagesIn {C : Ct} {mi : Nat} {a0 : Nat} {p1 : Option Nat} {p2 : Option Nat} {h h' : Hp} {v : Int32} (hf : f_P_touchPagesIn a0 p1 p2 h = some (v, h')) : Keep W_P_touchPagesIn h h' := by
  unfold f_P_touchPagesIn at hf
  obtain ⟨x38, el39, hf⟩ := bd_some hf
  have K40 := (Keep.refl W_P_touchPagesIn _).trans (kl_P_touchPagesIn_5 (C := C) (mi := mi) el39)
  obtain ⟨rfl, rfl⟩ := Prod.mk.inj (Option.some.inj hf)
  exact K40
theorem c_P_touchPagesIn {l : Launch} {C : Ct} {mi : Nat} {a0 : Nat} {p1 : Option Nat} {p2 : Option Nat} {h h' : Hp} {v : Int32} (hf : f_P_touchPagesIn a0 p1 p2 h = some (v, h')) : Mt l C mi m_P_touchPagesIn 1 [vr (some a0), vr p1, vr p2] h (some (vi v)) h' := mt_I (ty := .int) rfl rfl rfl (by decide) (Nat.le_of_ble_eq_true rfl) (zf_P_touchPagesIn hf)
-- VersionMaps$Present.size()I
def m_P_size : Mi := (⟨"VersionMaps$Present", "size", "()I"⟩, prog_7_method_6_code, 3, (Option.some Jvm.ClassFile.FieldType.int), .ireturn)
theorem cw_P_size : cw_ok m_P_size 0 := ⟨by decide +kernel, by decide +kernel, by decide +kernel, by decide +kernel⟩
theorem im_P_size : Cond.instanceMethod m_P_size.1 ∈ lw_w := by decide +kernel
theorem se_P_size : Cond.selects "VersionMaps$Present" m_P_size.1 m_P_size.1 ∈ lw_w := by decide +kernel
theorem d_P_size_0 : decode prog_7_method_6_code 0 = .ok (.iconst 0, 1) := by decide +kernel
theorem d_P_size_1 : decode prog_7_method_6_code 1 = .ok (.istore_n 1, 1) := by decide +kernel
theorem d_P_size_2 : decode prog_7_method_6_code 2 = .ok (.iconst 0, 1) := by decide +kernel
theorem d_P_size_3 : decode prog_7_method_6_code 3 = .ok (.istore_n 2, 1) := by decide +kernel
theorem d_P_size_4 : decode prog_7_method_6_code 4 = .ok (.iload_n 2, 1) := by decide +kernel
theorem d_P_size_5 : decode prog_7_method_6_code 5 = .ok (.iconst 4, 1) := by decide +kernel
theorem d_P_size_6 : decode prog_7_method_6_code 6 = .ok (.if_icmp .ge 21, 3) := by decide +kernel
theorem d_P_size_9 : decode prog_7_method_6_code 9 = .ok (.iload_n 1, 1) := by decide +kernel
theorem d_P_size_10 : decode prog_7_method_6_code 10 = .ok (.aload_n 0, 1) := by decide +kernel
theorem d_P_size_11 : decode prog_7_method_6_code 11 = .ok (.getfield 15, 3) := by decide +kernel
theorem d_P_size_14 : decode prog_7_method_6_code 14 = .ok (.iload_n 2, 1) := by decide +kernel
theorem d_P_size_15 : decode prog_7_method_6_code 15 = .ok (.iaload, 1) := by decide +kernel
theorem d_P_size_16 : decode prog_7_method_6_code 16 = .ok (.invokestatic 29, 3) := by decide +kernel
theorem d_P_size_19 : decode prog_7_method_6_code 19 = .ok (.iadd, 1) := by decide +kernel
theorem d_P_size_20 : decode prog_7_method_6_code 20 = .ok (.istore_n 1, 1) := by decide +kernel
theorem d_P_size_21 : decode prog_7_method_6_code 21 = .ok (.iinc 2 1, 3) := by decide +kernel
theorem d_P_size_24 : decode prog_7_method_6_code 24 = .ok (.goto (-20), 3) := by decide +kernel
theorem d_P_size_27 : decode prog_7_method_6_code 27 = .ok (.iload_n 1, 1) := by decide +kernel
theorem d_P_size_28 : decode prog_7_method_6_code 28 = .ok (.ireturn, 1) := by decide +kernel
def W_P_size : Wl := ([], [])
def b_P_size_4 (y0 : Nat) (y1 : Int32) (y2 : Int32) (h : Hp) : Option ((Int32 × Int32 × Hp) ⊕ (Int32 × Hp)) :=
  if (nI 4) ≤ y2 then (some (.inr (y1, h))) else (gd (isK h y0 5) (dr (hpR h y0 1) fun a3 => gd (isK h a3 67) (gd (inb y2 (hpL h a3)) (cl (f_In_bitCount (hpI h a3 y2.toNatClampNeg) h) fun v9 h7 => some (.inl ((y1 + v9), (y2 + (1 : Int32)), h7))))))
set_option maxRecDepth 100000 in
set_option maxHeartbeats 4000000 in
theorem zb_P_size_4 {l : Launch} {C : Ct} {mi : Nat} {y0 : Nat} {y1 : Int32} {y2 : Int32} {h h' : Hp} {v : Int32} {q : ((Int32 × Int32 × Hp) ⊕ (Int32 × Hp))} (hf : b_P_size_4 y0 y1 y2 h = some q) (kc : ∀ s, q = .inl s → Z l C mi m_P_size 1 4 [(0, vr (some y0)), (1, vi s.1), (2, vi s.2.1)] [] s.2.2 (some (vi v)) h') (ke : ∀ x, q = .inr x → Z l C mi m_P_size 1 27 [(1, vi x.1)] [] x.2 (some (vi v)) h') : Z l C mi m_P_size 1 4 [(0, vr (some y0)), (1, vi y1), (2, vi y2)] [] h (some (vi v)) h' := by
  unfold b_P_size_4 at hf
  refine z_iload_n 2 d_P_size_4 rfl rfl ?_
  refine z_iconst (v := (nI 4)) d_P_size_5 (by decide) ?_
  refine z_icmp_ge (tgt := 27) d_P_size_6 (by decide) (fun c1 => ?_) (fun c1 => ?_)
  · rw [if_pos c1] at hf
    refine z_ls [1] rfl ?_
    exact ke (y1, h) (Option.some.inj hf).symm
  · rw [if_neg c1] at hf
    refine z_iload_n 1 d_P_size_9 rfl rfl ?_
    refine z_aload_n 0 d_P_size_10 rfl rfl ?_
    obtain ⟨g2, hf⟩ := gd_some hf
    refine z_getR d_P_size_11 (fl_K (isK_eq g2) fl_P_15_5) (fi_K (isK_eq g2) rfl) rfl ?_
    refine z_iload_n 2 d_P_size_14 rfl rfl ?_
    obtain ⟨a3, e4, hf⟩ := dr_some hf
    obtain ⟨g5, hf⟩ := gd_some hf
    obtain ⟨g6, hf⟩ := gd_some hf
    refine z_iald d_P_size_15 e4 (by rw [isK_eq g5]; decide) (by rw [isK_eq g5]; rfl) (inb_vp g6) ?_
    obtain ⟨v9, h7, ec8, hf⟩ := cl_some hf
    refine z_callS (c_In_bitCount ec8) d_P_size_16 cw_In_bitCount lk_P_29 (by decide +kernel) ⟨by decide, by decide⟩ (Nat.le_of_ble_eq_true rfl) rfl ?_
    refine z_iadd d_P_size_19 ?_
    refine z_istore_n (ls2 := [(1, vi (y1 + v9)), (0, vr (some y0)), (2, vi y2)]) d_P_size_20 rfl (by decide) rfl ?_
    refine z_iinc (ls2 := [(2, vi (y2 + (1 : Int32))), (1, vi (y1 + v9)), (0, vr (some y0))]) 2 d_P_size_21 rfl rfl (by decide) rfl ?_
    refine z_goto (tgt := 4) d_P_size_24 (by decide) ?_
    refine z_ls [2, 1, 0] rfl ?_
    exact kc ((y1 + v9), (y2 + (1 : Int32)), h7) (Option.some.inj hf).symm
set_option maxRecDepth 100000 in
set_option maxHeartbeats 4000000 in
theorem kb_P_size_4 {C : Ct} {mi : Nat} {y0 : Nat} {y1 : Int32} {y2 : Int32} {h : Hp} {q : ((Int32 × Int32 × Hp) ⊕ (Int32 × Hp))} (hf : b_P_size_4 y0 y1 y2 h = some q) : Keep W_P_size h (Sum.elim (fun s : Int32 × Int32 × Hp => s.2.2) (fun x : Int32 × Hp => x.2) q) := by
  unfold b_P_size_4 at hf
  rcases Classical.em ((nI 4) ≤ y2) with c1 | c1
  · rw [if_pos c1] at hf
    cases (Option.some.inj hf)
    exact (Keep.refl W_P_size _)
  · rw [if_neg c1] at hf
    obtain ⟨g2, hf⟩ := gd_some hf
    obtain ⟨a3, e4, hf⟩ := dr_some hf
    obtain ⟨g5, hf⟩ := gd_some hf
    obtain ⟨g6, hf⟩ := gd_some hf
    obtain ⟨v9, h7, ec8, hf⟩ := cl_some hf
    have K10 := (Keep.refl W_P_size _).trans ((fr_In_bitCount (C := C) (mi := mi) ec8).mono (by decide) (by decide))
    cases (Option.some.inj hf)
    exact K10
def l_P_size_4 (y0 : Nat) (s : Int32 × Int32 × Hp) : Option (Int32 × Hp) := lp (fun s => b_P_size_4 y0 s.1 s.2.1 s.2.2) FU s
theorem zzl_P_size_4 {l : Launch} {C : Ct} {mi : Nat} {y0 : Nat} {h' : Hp} {v : Int32} : ∀ (n : Nat) (s : Int32 × Int32 × Hp) (x : (Int32 × Hp)), lp (fun s : Int32 × Int32 × Hp => b_P_size_4 y0 s.1 s.2.1 s.2.2) n s = some x → Z l C mi m_P_size 1 27 [(1, vi x.1)] [] x.2 (some (vi v)) h' → Z l C mi m_P_size 1 4 [(0, vr (some y0)), (1, vi s.1), (2, vi s.2.1)] [] s.2.2 (some (vi v)) h' := by
  intro n
  induction n with
  | zero => intro s x hl; cases hl
  | succ n ih =>
    intro s x hl ke
    rcases lp_some hl with ⟨s2, hb, hl2⟩ | hb
    · exact zb_P_size_4 hb (fun s3 e3 => by cases e3; refine z_ls [0, 1, 2] rfl ?_; exact ih s2 x hl2 ke) (fun x e3 => by cases e3)
    · exact zb_P_size_4 hb (fun s3 e3 => by cases e3) (fun x e3 => by cases e3; exact ke)
theorem zl_P_size_4 {l : Launch} {C : Ct} {mi : Nat} {y0 : Nat} {h' : Hp} {v : Int32} {s : Int32 × Int32 × Hp} {x : (Int32 × Hp)} (hl : l_P_size_4 y0 s = some x) (ke : Z l C mi m_P_size 1 27 [(1, vi x.1)] [] x.2 (some (vi v)) h') : Z l C mi m_P_size 1 4 [(0, vr (some y0)), (1, vi s.1), (2, vi s.2.1)] [] s.2.2 (some (vi v)) h' := zzl_P_size_4 FU s x hl ke
theorem kl_P_size_4 {C : Ct} {mi : Nat} {y0 : Nat} {s : Int32 × Int32 × Hp} {q : (Int32 × Hp)} (hl : l_P_size_4 y0 s = some q) : Keep W_P_size s.2.2 ((fun x : Int32 × Hp => x.2) q) := lpk (sh := (fun s : Int32 × Int32 × Hp => s.2.2)) (rh := (fun x : Int32 × Hp => x.2)) (fun s q hb => kb_P_size_4 (C := C) (mi := mi) hb) FU s q hl
def f_P_size (a0 : Nat) (h : Hp) : Option (Int32 × Hp) :=
  bd (l_P_size_4 a0 ((0 : Int32), (0 : Int32), h)) fun x11 => some (x11.1, x11.2)
set_option maxRecDepth 100000 in
set_option maxHeartbeats 4000000 in
theorem zf_P_size {l : Launch} {C : Ct} {mi : Nat} {a0 : Nat} {h h' : Hp} {v : Int32} (hf : f_P_size a0 h = some (v, h')) : Z l C mi m_P_size 1 0 [(0, vr (some a0))] [] h (some (vi v)) h' := by
  unfold f_P_size at hf
  refine z_iconst (v := (0 : Int32)) d_P_size_0 (by decide) ?_
  refine z_istore_n (ls2 := [(1, vi (0 : Int32)), (0, vr (some a0))]) d_P_size_1 rfl (by decide) rfl ?_
  refine z_iconst (v := (0 : Int32)) d_P_size_2 (by decide) ?_
  refine z_istore_n (ls2 := [(2, vi (0 : Int32)), (1, vi (0 : Int32)), (0, vr (some a0))]) d_P_size_3 rfl (by decide) rfl ?_
  obtain ⟨x11, el12, hf⟩ := bd_some hf
  refine z_ls [2, 1, 0] rfl ?_
  refine zl_P_size_4 el12 ?_
  refine z_iload_n 0 d_P_size_27 rfl rfl ?_
  obtain ⟨rfl, rfl⟩ := Prod.mk.inj (Option.some.inj hf)
  exact z_ret d_P_size_28 rfl
set_option maxRecDepth 100000 in
set_option maxHeartbeats 4000000 in
theorem fr_P_size {C : Ct} {mi : Nat} {a0 : Nat} {h h' : Hp} {v : Int32} (hf : f_P_size a0 h = some (v, h')) : Keep W_P_size h h' := by
  unfold f_P_size at hf
  obtain ⟨x11, el12, hf⟩ := bd_some hf
  have K13 := (Keep.refl W_P_size _).trans (kl_P_size_4 (C := C) (mi := mi) el12)
  obtain ⟨rfl, rfl⟩ := Prod.mk.inj (Option.some.inj hf)
  exact K13
theorem c_P_size {l : Launch} {C : Ct} {mi : Nat} {a0 : Nat} {h h' : Hp} {v : Int32} (hf : f_P_size a0 h = some (v, h')) : Mt l C mi m_P_size 1 [vr (some a0)] h (some (vi v)) h' := mt_I (ty := .int) rfl rfl rfl (by decide) (Nat.le_of_ble_eq_true rfl) (zf_P_size hf)

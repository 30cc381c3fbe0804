-- VersionMaps.<init>()V
def m_X_init : Mi := (⟨"VersionMaps", "<init>", "()V"⟩, prog_1_method_1_code, 1, (Option.none : Option Jvm.ClassFile.FieldType), .return_)
theorem cw_X_init : cw_ok m_X_init 0 := ⟨by decide +kernel, by decide +kernel, by decide +kernel, by decide +kernel⟩
theorem im_X_init : Cond.instanceMethod m_X_init.1 ∈ lw_w := by decide +kernel
theorem d_X_init_0 : decode prog_1_method_1_code 0 = .ok (.aload_n 0, 1) := by decide +kernel
theorem d_X_init_1 : decode prog_1_method_1_code 1 = .ok (.invokespecial 1, 3) := by decide +kernel
theorem d_X_init_4 : decode prog_1_method_1_code 4 = .ok (.aload_n 0, 1) := by decide +kernel
theorem d_X_init_5 : decode prog_1_method_1_code 5 = .ok (.new 7, 3) := by decide +kernel
theorem d_X_init_8 : decode prog_1_method_1_code 8 = .ok (.dup, 1) := by decide +kernel
theorem d_X_init_9 : decode prog_1_method_1_code 9 = .ok (.invokespecial 9, 3) := by decide +kernel
theorem d_X_init_12 : decode prog_1_method_1_code 12 = .ok (.putfield 10, 3) := by decide +kernel
theorem d_X_init_15 : decode prog_1_method_1_code 15 = .ok (.aload_n 0, 1) := by decide +kernel
theorem d_X_init_16 : decode prog_1_method_1_code 16 = .ok (.new 16, 3) := by decide +kernel
theorem d_X_init_19 : decode prog_1_method_1_code 19 = .ok (.dup, 1) := by decide +kernel
theorem d_X_init_20 : decode prog_1_method_1_code 20 = .ok (.invokespecial 18, 3) := by decide +kernel
theorem d_X_init_23 : decode prog_1_method_1_code 23 = .ok (.putfield 19, 3) := by decide +kernel
theorem d_X_init_26 : decode prog_1_method_1_code 26 = .ok (.aload_n 0, 1) := by decide +kernel
theorem d_X_init_27 : decode prog_1_method_1_code 27 = .ok (.new 23, 3) := by decide +kernel
theorem d_X_init_30 : decode prog_1_method_1_code 30 = .ok (.dup, 1) := by decide +kernel
theorem d_X_init_31 : decode prog_1_method_1_code 31 = .ok (.invokespecial 25, 3) := by decide +kernel
theorem d_X_init_34 : decode prog_1_method_1_code 34 = .ok (.putfield 26, 3) := by decide +kernel
theorem d_X_init_37 : decode prog_1_method_1_code 37 = .ok (.aload_n 0, 1) := by decide +kernel
theorem d_X_init_38 : decode prog_1_method_1_code 38 = .ok (.new 23, 3) := by decide +kernel
theorem d_X_init_41 : decode prog_1_method_1_code 41 = .ok (.dup, 1) := by decide +kernel
theorem d_X_init_42 : decode prog_1_method_1_code 42 = .ok (.invokespecial 25, 3) := by decide +kernel
theorem d_X_init_45 : decode prog_1_method_1_code 45 = .ok (.putfield 30, 3) := by decide +kernel
theorem d_X_init_48 : decode prog_1_method_1_code 48 = .ok (.aload_n 0, 1) := by decide +kernel
theorem d_X_init_49 : decode prog_1_method_1_code 49 = .ok (.new 33, 3) := by decide +kernel
theorem d_X_init_52 : decode prog_1_method_1_code 52 = .ok (.dup, 1) := by decide +kernel
theorem d_X_init_53 : decode prog_1_method_1_code 53 = .ok (.iconst 0, 1) := by decide +kernel
theorem d_X_init_54 : decode prog_1_method_1_code 54 = .ok (.aconst_null, 1) := by decide +kernel
theorem d_X_init_55 : decode prog_1_method_1_code 55 = .ok (.invokespecial 35, 3) := by decide +kernel
theorem d_X_init_58 : decode prog_1_method_1_code 58 = .ok (.putfield 38, 3) := by decide +kernel
theorem d_X_init_61 : decode prog_1_method_1_code 61 = .ok (.aload_n 0, 1) := by decide +kernel
theorem d_X_init_62 : decode prog_1_method_1_code 62 = .ok (.iconst 1, 1) := by decide +kernel
theorem d_X_init_63 : decode prog_1_method_1_code 63 = .ok (.putfield 42, 3) := by decide +kernel
theorem d_X_init_66 : decode prog_1_method_1_code 66 = .ok (.aload_n 0, 1) := by decide +kernel
theorem d_X_init_67 : decode prog_1_method_1_code 67 = .ok (.iconst 1, 1) := by decide +kernel
theorem d_X_init_68 : decode prog_1_method_1_code 68 = .ok (.putfield 46, 3) := by decide +kernel
theorem d_X_init_71 : decode prog_1_method_1_code 71 = .ok (.aload_n 0, 1) := by decide +kernel
theorem d_X_init_72 : decode prog_1_method_1_code 72 = .ok (.iconst 0, 1) := by decide +kernel
theorem d_X_init_73 : decode prog_1_method_1_code 73 = .ok (.putfield 49, 3) := by decide +kernel
theorem d_X_init_76 : decode prog_1_method_1_code 76 = .ok (.aload_n 0, 1) := by decide +kernel
theorem d_X_init_77 : decode prog_1_method_1_code 77 = .ok (.getfield 30, 3) := by decide +kernel
theorem d_X_init_80 : decode prog_1_method_1_code 80 = .ok (.aload_n 0, 1) := by decide +kernel
theorem d_X_init_81 : decode prog_1_method_1_code 81 = .ok (.getfield 38, 3) := by decide +kernel
theorem d_X_init_84 : decode prog_1_method_1_code 84 = .ok (.invokevirtual 52, 3) := by decide +kernel
theorem d_X_init_87 : decode prog_1_method_1_code 87 = .ok (.pop, 1) := by decide +kernel
theorem d_X_init_88 : decode prog_1_method_1_code 88 = .ok (.return_, 1) := by decide +kernel
def W_X_init : Wl := ([(0, 0), (0, 1), (0, 2), (0, 3), (0, 4), (0, 5), (0, 6), (0, 7), (1, 0), (1, 1), (1, 2), (1, 3), (1, 4), (1, 5), (5, 0), (5, 1), (5, 2), (5, 3), (7, 0), (7, 1), (7, 2), (9, 0), (9, 1), (9, 2)], [70, 73, 74])
def f_X_init (E : Nat × Nat) (a0 : Nat) (h : Hp) : Option Hp :=
  nm (nw h 5 0 4) fun h1 => cv (f_P_init (hpN h) h1) fun h4 => gd (isK h4 a0 0) (nm (wR h4 a0 0 (some (hpN h))) fun h8 => nm (nw h8 1 0 6) fun h11 => cv (f_F_init (hpN h8) h11) fun h14 => gd (isK h14 a0 0) (nm (wR h14 a0 1 (some (hpN h8))) fun h18 => nm (nw h18 9 0 3) fun h21 => cv (f_A_init E (hpN h18) h21) fun h24 => gd (isK h24 a0 0) (nm (wR h24 a0 2 (some (hpN h18))) fun h28 => nm (nw h28 9 0 3) fun h31 => cv (f_A_init E (hpN h28) h31) fun h34 => gd (isK h34 a0 0) (nm (wR h34 a0 3 (some (hpN h28))) fun h38 => nm (nw h38 7 0 3) fun h41 => cv (f_V_init (hpN h38) (0 : Int32) none h41) fun h44 => gd (isK h44 a0 0) (nm (wR h44 a0 4 (some (hpN h38))) fun h48 => nm (wI h48 a0 5 (1 : Int32)) fun h51 => nm (wI h51 a0 6 (1 : Int32)) fun h54 => nm (wI h54 a0 7 (0 : Int32)) fun h57 => dr (hpR h57 a0 3) fun a60 => gd (isK h57 a60 9) (cl (f_A_add1 E a60 (hpR h57 a0 4) h57) fun v65 h63 => some h63))))))
set_option maxRecDepth 100000 in
set_option maxHeartbeats 4000000 in
theorem zf_X_init {l : Launch} {C : Ct} {mi : Nat} {a0 : Nat} {h h' : Hp} (hf : f_X_init (cE C, mi) a0 h = some h') : Z l C mi m_X_init 7 0 [(0, vr (some a0))] [] h none h' := by
  unfold f_X_init at hf
  refine z_aload_n 0 d_X_init_0 rfl rfl ?_
  refine z_oinit d_X_init_1 (by decide +kernel) rfl (by decide) (Nat.le_of_ble_eq_true rfl) ?_
  refine z_aload_n 0 d_X_init_4 rfl rfl ?_
  obtain ⟨h1, eh2, hf⟩ := nm_some hf
  refine z_new (κ := 5) d_X_init_5 rfl (by decide +kernel) ?_
  refine z_hp eh2 ?_
  refine z_dup d_X_init_8 rfl ?_
  obtain ⟨h4, ec5, hf⟩ := cv_some hf
  refine z_callIN (host := "VersionMaps") (c_P_init ec5) d_X_init_9 rfl cw_P_init lk_X_9 im_P_init rfl ⟨by decide, by decide⟩ (Nat.le_of_ble_eq_true rfl) rfl ?_
  obtain ⟨g7, hf⟩ := gd_some hf
  obtain ⟨h8, eh9, hf⟩ := nm_some hf
  refine z_putR d_X_init_12 (fl_K (isK_eq g7) fl_X_10_0) (pu_K (isK_eq g7) (fun q hq => by cases (Option.some.inj hq); exact Or.inr ⟨rfl, rfl⟩)) (fi_K (isK_eq g7) rfl) rfl ?_
  refine z_hp eh9 ?_
  refine z_aload_n 0 d_X_init_15 rfl rfl ?_
  obtain ⟨h11, eh12, hf⟩ := nm_some hf
  refine z_new (κ := 1) d_X_init_16 rfl (by decide +kernel) ?_
  refine z_hp eh12 ?_
  refine z_dup d_X_init_19 rfl ?_
  obtain ⟨h14, ec15, hf⟩ := cv_some hf
  refine z_callI (c_F_init ec15) d_X_init_20 rfl cw_F_init lk_X_18 im_F_init rfl ⟨by decide, by decide⟩ (Nat.le_of_ble_eq_true rfl) rfl ?_
  obtain ⟨g17, hf⟩ := gd_some hf
  obtain ⟨h18, eh19, hf⟩ := nm_some hf
  refine z_putR d_X_init_23 (fl_K (isK_eq g17) fl_X_19_0) (pu_K (isK_eq g17) (fun q hq => by cases (Option.some.inj hq); exact Or.inr ⟨rfl, rfl⟩)) (fi_K (isK_eq g17) rfl) rfl ?_
  refine z_hp eh19 ?_
  refine z_aload_n 0 d_X_init_26 rfl rfl ?_
  obtain ⟨h21, eh22, hf⟩ := nm_some hf
  refine z_new (κ := 9) d_X_init_27 rfl (by decide +kernel) ?_
  refine z_hp eh22 ?_
  refine z_dup d_X_init_30 rfl ?_
  obtain ⟨h24, ec25, hf⟩ := cv_some hf
  refine z_callI (c_A_init ec25) d_X_init_31 rfl cw_A_init lk_X_25 im_A_init rfl ⟨by decide, by decide⟩ (Nat.le_of_ble_eq_true rfl) rfl ?_
  obtain ⟨g27, hf⟩ := gd_some hf
  obtain ⟨h28, eh29, hf⟩ := nm_some hf
  refine z_putR d_X_init_34 (fl_K (isK_eq g27) fl_X_26_0) (pu_K (isK_eq g27) (fun q hq => by cases (Option.some.inj hq); exact Or.inr ⟨rfl, rfl⟩)) (fi_K (isK_eq g27) rfl) rfl ?_
  refine z_hp eh29 ?_
  refine z_aload_n 0 d_X_init_37 rfl rfl ?_
  obtain ⟨h31, eh32, hf⟩ := nm_some hf
  refine z_new (κ := 9) d_X_init_38 rfl (by decide +kernel) ?_
  refine z_hp eh32 ?_
  refine z_dup d_X_init_41 rfl ?_
  obtain ⟨h34, ec35, hf⟩ := cv_some hf
  refine z_callI (c_A_init ec35) d_X_init_42 rfl cw_A_init lk_X_25 im_A_init rfl ⟨by decide, by decide⟩ (Nat.le_of_ble_eq_true rfl) rfl ?_
  obtain ⟨g37, hf⟩ := gd_some hf
  obtain ⟨h38, eh39, hf⟩ := nm_some hf
  refine z_putR d_X_init_45 (fl_K (isK_eq g37) fl_X_30_0) (pu_K (isK_eq g37) (fun q hq => by cases (Option.some.inj hq); exact Or.inr ⟨rfl, rfl⟩)) (fi_K (isK_eq g37) rfl) rfl ?_
  refine z_hp eh39 ?_
  refine z_aload_n 0 d_X_init_48 rfl rfl ?_
  obtain ⟨h41, eh42, hf⟩ := nm_some hf
  refine z_new (κ := 7) d_X_init_49 rfl (by decide +kernel) ?_
  refine z_hp eh42 ?_
  refine z_dup d_X_init_52 rfl ?_
  refine z_iconst (v := (0 : Int32)) d_X_init_53 (by decide) ?_
  refine z_aconst_null d_X_init_54 ?_
  obtain ⟨h44, ec45, hf⟩ := cv_some hf
  refine z_callI (c_V_init ec45) d_X_init_55 rfl cw_V_init lk_X_35 im_V_init rfl ⟨by decide, by decide⟩ (Nat.le_of_ble_eq_true rfl) rfl ?_
  obtain ⟨g47, hf⟩ := gd_some hf
  obtain ⟨h48, eh49, hf⟩ := nm_some hf
  refine z_putR d_X_init_58 (fl_K (isK_eq g47) fl_X_38_0) (pu_K (isK_eq g47) (fun q hq => by cases (Option.some.inj hq); exact Or.inl rfl)) (fi_K (isK_eq g47) rfl) rfl ?_
  refine z_hp eh49 ?_
  refine z_aload_n 0 d_X_init_61 rfl rfl ?_
  refine z_iconst (v := (1 : Int32)) d_X_init_62 (by decide) ?_
  obtain ⟨h51, eh52, hf⟩ := nm_some hf
  refine z_putI d_X_init_63 (fl_K (isK_eq (isK_wR eh49 g47)) fl_X_42_0) (pu_K (isK_eq (isK_wR eh49 g47)) (fun q hq => by cases (Option.some.inj hq); exact Or.inl rfl)) (fi_K (isK_eq (isK_wR eh49 g47)) rfl) rfl ?_
  refine z_hp eh52 ?_
  refine z_aload_n 0 d_X_init_66 rfl rfl ?_
  refine z_iconst (v := (1 : Int32)) d_X_init_67 (by decide) ?_
  obtain ⟨h54, eh55, hf⟩ := nm_some hf
  refine z_putI d_X_init_68 (fl_K (isK_eq (isK_wI eh52 (isK_wR eh49 g47))) fl_X_46_0) (pu_K (isK_eq (isK_wI eh52 (isK_wR eh49 g47))) (fun q hq => by cases (Option.some.inj hq); exact Or.inl rfl)) (fi_K (isK_eq (isK_wI eh52 (isK_wR eh49 g47))) rfl) rfl ?_
  refine z_hp eh55 ?_
  refine z_aload_n 0 d_X_init_71 rfl rfl ?_
  refine z_iconst (v := (0 : Int32)) d_X_init_72 (by decide) ?_
  obtain ⟨h57, eh58, hf⟩ := nm_some hf
  refine z_putI d_X_init_73 (fl_K (isK_eq (isK_wI eh55 (isK_wI eh52 (isK_wR eh49 g47)))) fl_X_49_0) (pu_K (isK_eq (isK_wI eh55 (isK_wI eh52 (isK_wR eh49 g47)))) (fun q hq => by cases (Option.some.inj hq); exact Or.inl rfl)) (fi_K (isK_eq (isK_wI eh55 (isK_wI eh52 (isK_wR eh49 g47)))) rfl) rfl ?_
  refine z_hp eh58 ?_
  refine z_aload_n 0 d_X_init_76 rfl rfl ?_
  refine z_getR d_X_init_77 (fl_K (isK_eq (isK_wI eh58 (isK_wI eh55 (isK_wI eh52 (isK_wR eh49 g47))))) fl_X_30_0) (fi_K (isK_eq (isK_wI eh58 (isK_wI eh55 (isK_wI eh52 (isK_wR eh49 g47))))) rfl) rfl ?_
  refine z_aload_n 0 d_X_init_80 rfl rfl ?_
  refine z_getR d_X_init_81 (fl_K (isK_eq (isK_wI eh58 (isK_wI eh55 (isK_wI eh52 (isK_wR eh49 g47))))) fl_X_38_0) (fi_K (isK_eq (isK_wI eh58 (isK_wI eh55 (isK_wI eh52 (isK_wR eh49 g47))))) rfl) rfl ?_
  obtain ⟨a60, e61, hf⟩ := dr_some hf
  obtain ⟨g62, hf⟩ := gd_some hf
  obtain ⟨v65, h63, ec64, hf⟩ := cl_some hf
  refine z_callVx e61 (c_A_add1 ec64) d_X_init_84 cw_A_add1 lk_X_52 im_A_add1 se_A_add1 (kc_K (isK_eq g62) kc_9) ⟨by decide, by decide⟩ (Nat.le_of_ble_eq_true rfl) rfl ?_
  refine z_pop d_X_init_87 rfl ?_
  cases (Option.some.inj hf)
  exact z_ret d_X_init_88 rfl
set_option maxRecDepth 100000 in
set_option maxHeartbeats 4000000 in
theorem fr_X_init {C : Ct} {mi : Nat} {a0 : Nat} {h h' : Hp} (hf : f_X_init (cE C, mi) a0 h = some h') : Keep W_X_init h h' := by
  unfold f_X_init at hf
  obtain ⟨h1, eh2, hf⟩ := nm_some hf
  have K3 := (Keep.refl W_X_init _).trans (kw_N eh2)
  obtain ⟨h4, ec5, hf⟩ := cv_some hf
  have K6 := K3.trans ((fr_P_init (C := C) (mi := mi) ec5).mono (by decide) (by decide))
  obtain ⟨g7, hf⟩ := gd_some hf
  obtain ⟨h8, eh9, hf⟩ := nm_some hf
  have K10 := K6.trans (kw_R eh9 (isK_eq g7) (Or.inl (by decide)))
  obtain ⟨h11, eh12, hf⟩ := nm_some hf
  have K13 := K10.trans (kw_N eh12)
  obtain ⟨h14, ec15, hf⟩ := cv_some hf
  have K16 := K13.trans ((fr_F_init (C := C) (mi := mi) ec15).mono (by decide) (by decide))
  obtain ⟨g17, hf⟩ := gd_some hf
  obtain ⟨h18, eh19, hf⟩ := nm_some hf
  have K20 := K16.trans (kw_R eh19 (isK_eq g17) (Or.inl (by decide)))
  obtain ⟨h21, eh22, hf⟩ := nm_some hf
  have K23 := K20.trans (kw_N eh22)
  obtain ⟨h24, ec25, hf⟩ := cv_some hf
  have K26 := K23.trans ((fr_A_init (C := C) (mi := mi) ec25).mono (by decide) (by decide))
  obtain ⟨g27, hf⟩ := gd_some hf
  obtain ⟨h28, eh29, hf⟩ := nm_some hf
  have K30 := K26.trans (kw_R eh29 (isK_eq g27) (Or.inl (by decide)))
  obtain ⟨h31, eh32, hf⟩ := nm_some hf
  have K33 := K30.trans (kw_N eh32)
  obtain ⟨h34, ec35, hf⟩ := cv_some hf
  have K36 := K33.trans ((fr_A_init (C := C) (mi := mi) ec35).mono (by decide) (by decide))
  obtain ⟨g37, hf⟩ := gd_some hf
  obtain ⟨h38, eh39, hf⟩ := nm_some hf
  have K40 := K36.trans (kw_R eh39 (isK_eq g37) (Or.inl (by decide)))
  obtain ⟨h41, eh42, hf⟩ := nm_some hf
  have K43 := K40.trans (kw_N eh42)
  obtain ⟨h44, ec45, hf⟩ := cv_some hf
  have K46 := K43.trans ((fr_V_init (C := C) (mi := mi) ec45).mono (by decide) (by decide))
  obtain ⟨g47, hf⟩ := gd_some hf
  obtain ⟨h48, eh49, hf⟩ := nm_some hf
  have K50 := K46.trans (kw_R eh49 (isK_eq g47) (Or.inl (by decide)))
  obtain ⟨h51, eh52, hf⟩ := nm_some hf
  have K53 := K50.trans (kw_I eh52 (isK_eq (isK_wR eh49 g47)) (Or.inl (by decide)))
  obtain ⟨h54, eh55, hf⟩ := nm_some hf
  have K56 := K53.trans (kw_I eh55 (isK_eq (isK_wI eh52 (isK_wR eh49 g47))) (Or.inl (by decide)))
  obtain ⟨h57, eh58, hf⟩ := nm_some hf
  have K59 := K56.trans (kw_I eh58 (isK_eq (isK_wI eh55 (isK_wI eh52 (isK_wR eh49 g47)))) (Or.inl (by decide)))
  obtain ⟨a60, e61, hf⟩ := dr_some hf
  obtain ⟨g62, hf⟩ := gd_some hf
  obtain ⟨v65, h63, ec64, hf⟩ := cl_some hf
  have K66 := K59.trans ((fr_A_add1 (C := C) (mi := mi) ec64).mono (by decide) (by decide))
  cases (Option.some.inj hf)
  exact K66
theorem c_X_init {l : Launch} {C : Ct} {mi : Nat} {a0 : Nat} {h h' : Hp} (hf : f_X_init (cE C, mi) a0 h = some h') : Mt l C mi m_X_init 7 [vr (some a0)] h none h' := mt_V rfl rfl (by decide) (Nat.le_of_ble_eq_true rfl) (zf_X_init hf)
-- VersionMaps.isMap(I)Z
def m_X_isMap : Mi := (⟨"VersionMaps", "isMap", "(I)Z"⟩, prog_1_method_19_code, 1, (Option.some Jvm.ClassFile.FieldType.boolean), .ireturn)
theorem cw_X_isMap : cw_ok m_X_isMap 1 := ⟨by decide +kernel, by decide +kernel, by decide +kernel, by decide +kernel⟩
theorem d_X_isMap_0 : decode prog_1_method_19_code 0 = .ok (.iload_n 0, 1) := by decide +kernel
theorem d_X_isMap_1 : decode prog_1_method_19_code 1 = .ok (.ifCond .lt 12, 3) := by decide +kernel
theorem d_X_isMap_4 : decode prog_1_method_19_code 4 = .ok (.iload_n 0, 1) := by decide +kernel
theorem d_X_isMap_5 : decode prog_1_method_19_code 5 = .ok (.iconst 4, 1) := by decide +kernel
theorem d_X_isMap_6 : decode prog_1_method_19_code 6 = .ok (.if_icmp .ge 7, 3) := by decide +kernel
theorem d_X_isMap_9 : decode prog_1_method_19_code 9 = .ok (.iconst 1, 1) := by decide +kernel
theorem d_X_isMap_10 : decode prog_1_method_19_code 10 = .ok (.goto 4, 3) := by decide +kernel
theorem d_X_isMap_13 : decode prog_1_method_19_code 13 = .ok (.iconst 0, 1) := by decide +kernel
theorem d_X_isMap_14 : decode prog_1_method_19_code 14 = .ok (.ireturn, 1) := by decide +kernel
def W_X_isMap : Wl := ([], [])
def f0_X_isMap (p1 : Int32) (h : Hp) : Option (Int32 × Hp) :=
  if p1 < 0 then (some ((0 : Int32), h)) else (if (nI 4) ≤ p1 then (some ((0 : Int32), h)) else (some ((1 : Int32), h)))
def f_X_isMap (p1 : Int32) (h : Hp) : Option (Int32 × Hp) := zbw (f0_X_isMap p1 h)
set_option maxRecDepth 100000 in
set_option maxHeartbeats 4000000 in
theorem zf_X_isMap {l : Launch} {C : Ct} {mi : Nat} {p1 : Int32} {h h' : Hp} {v : Int32} (hf : f0_X_isMap p1 h = some (v, h')) : Z l C mi m_X_isMap 0 0 [(0, vi p1)] [] h (some (vi v)) h' := by
  unfold f0_X_isMap at hf
  refine z_iload_n 0 d_X_isMap_0 rfl rfl ?_
  refine z_if_lt (tgt := 13) d_X_isMap_1 (by decide) (fun c1 => ?_) (fun c1 => ?_)
  · rw [if_pos c1] at hf
    refine z_iconst (v := (0 : Int32)) d_X_isMap_13 (by decide) ?_
    obtain ⟨rfl, rfl⟩ := Prod.mk.inj (Option.some.inj hf)
    exact z_ret d_X_isMap_14 rfl
  · rw [if_neg c1] at hf
    refine z_iload_n 0 d_X_isMap_4 rfl rfl ?_
    refine z_iconst (v := (nI 4)) d_X_isMap_5 (by decide) ?_
    refine z_icmp_ge (tgt := 13) d_X_isMap_6 (by decide) (fun c2 => ?_) (fun c2 => ?_)
    · rw [if_pos c2] at hf
      refine z_iconst (v := (0 : Int32)) d_X_isMap_13 (by decide) ?_
      obtain ⟨rfl, rfl⟩ := Prod.mk.inj (Option.some.inj hf)
      exact z_ret d_X_isMap_14 rfl
    · rw [if_neg c2] at hf
      refine z_iconst (v := (1 : Int32)) d_X_isMap_9 (by decide) ?_
      refine z_goto (tgt := 14) d_X_isMap_10 (by decide) ?_
      obtain ⟨rfl, rfl⟩ := Prod.mk.inj (Option.some.inj hf)
      exact z_ret d_X_isMap_14 rfl
set_option maxRecDepth 100000 in
set_option maxHeartbeats 4000000 in
theorem fr0_X_isMap {C : Ct} {mi : Nat} {p1 : Int32} {h h' : Hp} {v : Int32} (hf : f0_X_isMap p1 h = some (v, h')) : Keep W_X_isMap h h' := by
  unfold f0_X_isMap at hf
  rcases Classical.em (p1 < 0) with c1 | c1
  · rw [if_pos c1] at hf
    obtain ⟨rfl, rfl⟩ := Prod.mk.inj (Option.some.inj hf)
    exact (Keep.refl W_X_isMap _)
  · rw [if_neg c1] at hf
    rcases Classical.em ((nI 4) ≤ p1) with c2 | c2
    · rw [if_pos c2] at hf
      obtain ⟨rfl, rfl⟩ := Prod.mk.inj (Option.some.inj hf)
      exact (Keep.refl W_X_isMap _)
    · rw [if_neg c2] at hf
      obtain ⟨rfl, rfl⟩ := Prod.mk.inj (Option.some.inj hf)
      exact (Keep.refl W_X_isMap _)
theorem fr_X_isMap {C : Ct} {mi : Nat} {p1 : Int32} {h h' : Hp} {v : Int32} (hf : f_X_isMap p1 h = some (v, h')) : Keep W_X_isMap h h' := fr0_X_isMap (C := C) (mi := mi) (zbw_some hf).2
theorem c_X_isMap {l : Launch} {C : Ct} {mi : Nat} {p1 : Int32} {h h' : Hp} {v : Int32} (hf : f_X_isMap p1 h = some (v, h')) : Mt l C mi m_X_isMap 0 [vi p1] h (some (vi v)) h' := mt_I (ty := .boolean) rfl rfl (zb_eq (zbw_some hf).1) (by decide) (Nat.le_of_ble_eq_true rfl) (zf_X_isMap (zbw_some hf).2)
-- VersionMaps.isKey(II)Z
def m_X_isKey : Mi := (⟨"VersionMaps", "isKey", "(II)Z"⟩, prog_1_method_20_code, 2, (Option.some Jvm.ClassFile.FieldType.boolean), .ireturn)
theorem cw_X_isKey : cw_ok m_X_isKey 2 := ⟨by decide +kernel, by decide +kernel, by decide +kernel, by decide +kernel⟩
theorem d_X_isKey_0 : decode prog_1_method_20_code 0 = .ok (.iload_n 0, 1) := by decide +kernel
theorem d_X_isKey_1 : decode prog_1_method_20_code 1 = .ok (.invokestatic 92, 3) := by decide +kernel
theorem d_X_isKey_4 : decode prog_1_method_20_code 4 = .ok (.ifCond .eq 17, 3) := by decide +kernel
theorem d_X_isKey_7 : decode prog_1_method_20_code 7 = .ok (.iload_n 1, 1) := by decide +kernel
theorem d_X_isKey_8 : decode prog_1_method_20_code 8 = .ok (.ifCond .lt 13, 3) := by decide +kernel
theorem d_X_isKey_11 : decode prog_1_method_20_code 11 = .ok (.iload_n 1, 1) := by decide +kernel
theorem d_X_isKey_12 : decode prog_1_method_20_code 12 = .ok (.bipush 32, 2) := by decide +kernel
theorem d_X_isKey_14 : decode prog_1_method_20_code 14 = .ok (.if_icmp .ge 7, 3) := by decide +kernel
theorem d_X_isKey_17 : decode prog_1_method_20_code 17 = .ok (.iconst 1, 1) := by decide +kernel
theorem d_X_isKey_18 : decode prog_1_method_20_code 18 = .ok (.goto 4, 3) := by decide +kernel
theorem d_X_isKey_21 : decode prog_1_method_20_code 21 = .ok (.iconst 0, 1) := by decide +kernel
theorem d_X_isKey_22 : decode prog_1_method_20_code 22 = .ok (.ireturn, 1) := by decide +kernel
def W_X_isKey : Wl := ([], [])
def f0_X_isKey (p1 : Int32) (p2 : Int32) (h : Hp) : Option (Int32 × Hp) :=
  cl (f_X_isMap p1 h) fun v3 h1 => if v3 = 0 then (some ((0 : Int32), h1)) else (if p2 < 0 then (some ((0 : Int32), h1)) else (if (nI 32) ≤ p2 then (some ((0 : Int32), h1)) else (some ((1 : Int32), h1))))
def f_X_isKey (p1 : Int32) (p2 : Int32) (h : Hp) : Option (Int32 × Hp) := zbw (f0_X_isKey p1 p2 h)
set_option maxRecDepth 100000 in
set_option maxHeartbeats 4000000 in
theorem zf_X_isKey {l : Launch} {C : Ct} {mi : Nat} {p1 : Int32} {p2 : Int32} {h h' : Hp} {v : Int32} (hf : f0_X_isKey p1 p2 h = some (v, h')) : Z l C mi m_X_isKey 1 0 [(0, vi p1), (1, vi p2)] [] h (some (vi v)) h' := by
  unfold f0_X_isKey at hf
  refine z_iload_n 0 d_X_isKey_0 rfl rfl ?_
  obtain ⟨v3, h1, ec2, hf⟩ := cl_some hf
  refine z_callS (c_X_isMap ec2) d_X_isKey_1 cw_X_isMap lk_X_92 (by decide +kernel) ⟨by decide, by decide⟩ (Nat.le_of_ble_eq_true rfl) rfl ?_
  refine z_if_eq (tgt := 21) d_X_isKey_4 (by decide) (fun c5 => ?_) (fun c5 => ?_)
  · rw [if_pos c5] at hf
    refine z_iconst (v := (0 : Int32)) d_X_isKey_21 (by decide) ?_
    obtain ⟨rfl, rfl⟩ := Prod.mk.inj (Option.some.inj hf)
    exact z_ret d_X_isKey_22 rfl
  · rw [if_neg c5] at hf
    refine z_iload_n 1 d_X_isKey_7 rfl rfl ?_
    refine z_if_lt (tgt := 21) d_X_isKey_8 (by decide) (fun c6 => ?_) (fun c6 => ?_)
    · rw [if_pos c6] at hf
      refine z_iconst (v := (0 : Int32)) d_X_isKey_21 (by decide) ?_
      obtain ⟨rfl, rfl⟩ := Prod.mk.inj (Option.some.inj hf)
      exact z_ret d_X_isKey_22 rfl
    · rw [if_neg c6] at hf
      refine z_iload_n 1 d_X_isKey_11 rfl rfl ?_
      refine z_bipush (v := (nI 32)) d_X_isKey_12 (by decide) ?_
      refine z_icmp_ge (tgt := 21) d_X_isKey_14 (by decide) (fun c7 => ?_) (fun c7 => ?_)
      · rw [if_pos c7] at hf
        refine z_iconst (v := (0 : Int32)) d_X_isKey_21 (by decide) ?_
        obtain ⟨rfl, rfl⟩ := Prod.mk.inj (Option.some.inj hf)
        exact z_ret d_X_isKey_22 rfl
      · rw [if_neg c7] at hf
        refine z_iconst (v := (1 : Int32)) d_X_isKey_17 (by decide) ?_
        refine z_goto (tgt := 22) d_X_isKey_18 (by decide) ?_
        obtain ⟨rfl, rfl⟩ := Prod.mk.inj (Option.some.inj hf)
        exact z_ret d_X_isKey_22 rfl
set_option maxRecDepth 100000 in
set_option maxHeartbeats 4000000 in
theorem fr0_X_isKey {C : Ct} {mi : Nat} {p1 : Int32} {p2 : Int32} {h h' : Hp} {v : Int32} (hf : f0_X_isKey p1 p2 h = some (v, h')) : Keep W_X_isKey h h' := by
  unfold f0_X_isKey at hf
  obtain ⟨v3, h1, ec2, hf⟩ := cl_some hf
  have K4 := (Keep.refl W_X_isKey _).trans ((fr_X_isMap (C := C) (mi := mi) ec2).mono (by decide) (by decide))
  rcases Classical.em (v3 = 0) with c5 | c5
  · rw [if_pos c5] at hf
    obtain ⟨rfl, rfl⟩ := Prod.mk.inj (Option.some.inj hf)
    exact K4
  · rw [if_neg c5] at hf
    rcases Classical.em (p2 < 0) with c6 | c6
    · rw [if_pos c6] at hf
      obtain ⟨rfl, rfl⟩ := Prod.mk.inj (Option.some.inj hf)
      exact K4
    · rw [if_neg c6] at hf
      rcases Classical.em ((nI 32) ≤ p2) with c7 | c7
      · rw [if_pos c7] at hf
        obtain ⟨rfl, rfl⟩ := Prod.mk.inj (Option.some.inj hf)
        exact K4
      · rw [if_neg c7] at hf
        obtain ⟨rfl, rfl⟩ := Prod.mk.inj (Option.some.inj hf)
        exact K4
theorem fr_X_isKey {C : Ct} {mi : Nat} {p1 : Int32} {p2 : Int32} {h h' : Hp} {v : Int32} (hf : f_X_isKey p1 p2 h = some (v, h')) : Keep W_X_isKey h h' := fr0_X_isKey (C := C) (mi := mi) (zbw_some hf).2
theorem c_X_isKey {l : Launch} {C : Ct} {mi : Nat} {p1 : Int32} {p2 : Int32} {h h' : Hp} {v : Int32} (hf : f_X_isKey p1 p2 h = some (v, h')) : Mt l C mi m_X_isKey 1 [vi p1, vi p2] h (some (vi v)) h' := mt_I (ty := .boolean) rfl rfl (zb_eq (zbw_some hf).1) (by decide) (Nat.le_of_ble_eq_true rfl) (zf_X_isKey (zbw_some hf).2)
-- VersionMaps.put(III)I
def m_X_put : Mi := (⟨"VersionMaps", "put", "(III)I"⟩, prog_1_method_2_code, 5, (Option.some Jvm.ClassFile.FieldType.int), .ireturn)
theorem cw_X_put : cw_ok m_X_put 3 := ⟨by decide +kernel, by decide +kernel, by decide +kernel, by decide +kernel⟩
theorem im_X_put : Cond.instanceMethod m_X_put.1 ∈ lw_w := by decide +kernel
theorem se_X_put : Cond.selects "VersionMaps" m_X_put.1 m_X_put.1 ∈ lw_w := by decide +kernel
theorem d_X_put_0 : decode prog_1_method_2_code 0 = .ok (.iload_n 1, 1) := by decide +kernel
theorem d_X_put_1 : decode prog_1_method_2_code 1 = .ok (.iload_n 2, 1) := by decide +kernel
theorem d_X_put_2 : decode prog_1_method_2_code 2 = .ok (.invokestatic 56, 3) := by decide +kernel
theorem d_X_put_5 : decode prog_1_method_2_code 5 = .ok (.ifCond .ne 5, 3) := by decide +kernel
theorem d_X_put_8 : decode prog_1_method_2_code 8 = .ok (.iconst (-1), 1) := by decide +kernel
theorem d_X_put_9 : decode prog_1_method_2_code 9 = .ok (.ireturn, 1) := by decide +kernel
theorem d_X_put_10 : decode prog_1_method_2_code 10 = .ok (.aload_n 0, 1) := by decide +kernel
theorem d_X_put_11 : decode prog_1_method_2_code 11 = .ok (.getfield 10, 3) := by decide +kernel
theorem d_X_put_14 : decode prog_1_method_2_code 14 = .ok (.iload_n 1, 1) := by decide +kernel
theorem d_X_put_15 : decode prog_1_method_2_code 15 = .ok (.iload_n 2, 1) := by decide +kernel
theorem d_X_put_16 : decode prog_1_method_2_code 16 = .ok (.invokevirtual 60, 3) := by decide +kernel
theorem d_X_put_19 : decode prog_1_method_2_code 19 = .ok (.istore 4, 2) := by decide +kernel
theorem d_X_put_21 : decode prog_1_method_2_code 21 = .ok (.aload_n 0, 1) := by decide +kernel
theorem d_X_put_22 : decode prog_1_method_2_code 22 = .ok (.getfield 10, 3) := by decide +kernel
theorem d_X_put_25 : decode prog_1_method_2_code 25 = .ok (.iload_n 1, 1) := by decide +kernel
theorem d_X_put_26 : decode prog_1_method_2_code 26 = .ok (.iload_n 2, 1) := by decide +kernel
theorem d_X_put_27 : decode prog_1_method_2_code 27 = .ok (.iload_n 3, 1) := by decide +kernel
theorem d_X_put_28 : decode prog_1_method_2_code 28 = .ok (.invokevirtual 63, 3) := by decide +kernel
theorem d_X_put_31 : decode prog_1_method_2_code 31 = .ok (.iload 4, 2) := by decide +kernel
theorem d_X_put_33 : decode prog_1_method_2_code 33 = .ok (.ifCond .eq 7, 3) := by decide +kernel
theorem d_X_put_36 : decode prog_1_method_2_code 36 = .ok (.iconst 1, 1) := by decide +kernel
theorem d_X_put_37 : decode prog_1_method_2_code 37 = .ok (.goto 4, 3) := by decide +kernel
theorem d_X_put_40 : decode prog_1_method_2_code 40 = .ok (.iconst 0, 1) := by decide +kernel
theorem d_X_put_41 : decode prog_1_method_2_code 41 = .ok (.ireturn, 1) := by decide +kernel
def W_X_put : Wl := ([(5, 2)], [66, 67])
def f_X_put (a0 : Nat) (p1 : Int32) (p2 : Int32) (p3 : Int32) (h : Hp) : Option (Int32 × Hp) :=
  cl (f_X_isKey p1 p2 h) fun v3 h1 => if v3 = 0 then (some ((-1 : Int32), h1)) else (gd (isK h1 a0 0) (dr (hpR h1 a0 0) fun a7 => gd (isK h1 a7 5) (cl (f_P_has a7 p1 p2 h1) fun v12 h10 => gd (isK h10 a0 0) (dr (hpR h10 a0 0) fun a15 => gd (isK h10 a15 5) (cv (f_P_assign a15 p1 p2 p3 h10) fun h18 => if v12 = 0 then (some ((0 : Int32), h18)) else (some ((1 : Int32), h18)))))))
set_option maxRecDepth 100000 in
set_option maxHeartbeats 4000000 in
theorem zf_X_put {l : Launch} {C : Ct} {mi : Nat} {a0 : Nat} {p1 : Int32} {p2 : Int32} {p3 : Int32} {h h' : Hp} {v : Int32} (hf : f_X_put a0 p1 p2 p3 h = some (v, h')) : Z l C mi m_X_put 2 0 [(0, vr (some a0)), (1, vi p1), (2, vi p2), (3, vi p3)] [] h (some (vi v)) h' := by
  unfold f_X_put at hf
  refine z_iload_n 1 d_X_put_0 rfl rfl ?_
  refine z_iload_n 2 d_X_put_1 rfl rfl ?_
  obtain ⟨v3, h1, ec2, hf⟩ := cl_some hf
  refine z_callS (c_X_isKey ec2) d_X_put_2 cw_X_isKey lk_X_56 (by decide +kernel) ⟨by decide, by decide⟩ (Nat.le_of_ble_eq_true rfl) rfl ?_
  refine z_if_ne (tgt := 10) d_X_put_5 (by decide) (fun c5 => ?_) (fun c5 => ?_)
  · rw [if_neg c5] at hf
    refine z_aload_n 0 d_X_put_10 rfl rfl ?_
    obtain ⟨g6, hf⟩ := gd_some hf
    refine z_getR d_X_put_11 (fl_K (isK_eq g6) fl_X_10_0) (fi_K (isK_eq g6) rfl) rfl ?_
    refine z_iload_n 1 d_X_put_14 rfl rfl ?_
    refine z_iload_n 2 d_X_put_15 rfl rfl ?_
    obtain ⟨a7, e8, hf⟩ := dr_some hf
    obtain ⟨g9, hf⟩ := gd_some hf
    obtain ⟨v12, h10, ec11, hf⟩ := cl_some hf
    refine z_callVx e8 (c_P_has ec11) d_X_put_16 cw_P_has lk_X_60 im_P_has se_P_has (kc_K (isK_eq g9) kc_5) ⟨by decide, by decide⟩ (Nat.le_of_ble_eq_true rfl) rfl ?_
    refine z_istore (ls2 := [(4, vi v12), (0, vr (some a0)), (1, vi p1), (2, vi p2), (3, vi p3)]) d_X_put_19 (by decide) rfl ?_
    refine z_aload_n 1 d_X_put_21 rfl rfl ?_
    obtain ⟨g14, hf⟩ := gd_some hf
    refine z_getR d_X_put_22 (fl_K (isK_eq g14) fl_X_10_0) (fi_K (isK_eq g14) rfl) rfl ?_
    refine z_iload_n 2 d_X_put_25 rfl rfl ?_
    refine z_iload_n 3 d_X_put_26 rfl rfl ?_
    refine z_iload_n 4 d_X_put_27 rfl rfl ?_
    obtain ⟨a15, e16, hf⟩ := dr_some hf
    obtain ⟨g17, hf⟩ := gd_some hf
    obtain ⟨h18, ec19, hf⟩ := cv_some hf
    refine z_callVx e16 (c_P_assign ec19) d_X_put_28 cw_P_assign lk_X_63 im_P_assign se_P_assign (kc_K (isK_eq g17) kc_5) ⟨by decide, by decide⟩ (Nat.le_of_ble_eq_true rfl) rfl ?_
    refine z_iload 0 d_X_put_31 rfl ?_
    refine z_if_eq (tgt := 40) d_X_put_33 (by decide) (fun c21 => ?_) (fun c21 => ?_)
    · rw [if_pos c21] at hf
      refine z_iconst (v := (0 : Int32)) d_X_put_40 (by decide) ?_
      obtain ⟨rfl, rfl⟩ := Prod.mk.inj (Option.some.inj hf)
      exact z_ret d_X_put_41 rfl
    · rw [if_neg c21] at hf
      refine z_iconst (v := (1 : Int32)) d_X_put_36 (by decide) ?_
      refine z_goto (tgt := 41) d_X_put_37 (by decide) ?_
      obtain ⟨rfl, rfl⟩ := Prod.mk.inj (Option.some.inj hf)
      exact z_ret d_X_put_41 rfl
  · rw [if_pos c5] at hf
    refine z_iconst (v := (-1 : Int32)) d_X_put_8 (by decide) ?_
    obtain ⟨rfl, rfl⟩ := Prod.mk.inj (Option.some.inj hf)
    exact z_ret d_X_put_9 rfl
set_option maxRecDepth 100000 in
set_option maxHeartbeats 4000000 in
theorem fr_X_put {C : Ct} {mi : Nat} {a0 : Nat} {p1 : Int32} {p2 : Int32} {p3 : Int32} {h h' : Hp} {v : Int32} (hf : f_X_put a0 p1 p2 p3 h = some (v, h')) : Keep W_X_put h h' := by
  unfold f_X_put at hf
  obtain ⟨v3, h1, ec2, hf⟩ := cl_some hf
  have K4 := (Keep.refl W_X_put _).trans ((fr_X_isKey (C := C) (mi := mi) ec2).mono (by decide) (by decide))
  rcases (Classical.em (v3 = 0)).symm with c5 | c5
  · rw [if_neg c5] at hf
    obtain ⟨g6, hf⟩ := gd_some hf
    obtain ⟨a7, e8, hf⟩ := dr_some hf
    obtain ⟨g9, hf⟩ := gd_some hf
    obtain ⟨v12, h10, ec11, hf⟩ := cl_some hf
    have K13 := K4.trans ((fr_P_has (C := C) (mi := mi) ec11).mono (by decide) (by decide))
    obtain ⟨g14, hf⟩ := gd_some hf
    obtain ⟨a15, e16, hf⟩ := dr_some hf
    obtain ⟨g17, hf⟩ := gd_some hf
    obtain ⟨h18, ec19, hf⟩ := cv_some hf
    have K20 := K13.trans ((fr_P_assign (C := C) (mi := mi) ec19).mono (by decide) (by decide))
    rcases Classical.em (v12 = 0) with c21 | c21
    · rw [if_pos c21] at hf
      obtain ⟨rfl, rfl⟩ := Prod.mk.inj (Option.some.inj hf)
      exact K20
    · rw [if_neg c21] at hf
      obtain ⟨rfl, rfl⟩ := Prod.mk.inj (Option.some.inj hf)
      exact K20
  · rw [if_pos c5] at hf
    obtain ⟨rfl, rfl⟩ := Prod.mk.inj (Option.some.inj hf)
    exact K4
theorem c_X_put {l : Launch} {C : Ct} {mi : Nat} {a0 : Nat} {p1 : Int32} {p2 : Int32} {p3 : Int32} {h h' : Hp} {v : Int32} (hf : f_X_put a0 p1 p2 p3 h = some (v, h')) : Mt l C mi m_X_put 2 [vr (some a0), vi p1, vi p2, vi p3] h (some (vi v)) h' := mt_I (ty := .int) rfl rfl rfl (by decide) (Nat.le_of_ble_eq_true rfl) (zf_X_put hf)
-- VersionMaps.remove(II)I
def m_X_remove : Mi := (⟨"VersionMaps", "remove", "(II)I"⟩, prog_1_method_3_code, 3, (Option.some Jvm.ClassFile.FieldType.int), .ireturn)
theorem cw_X_remove : cw_ok m_X_remove 2 := ⟨by decide +kernel, by decide +kernel, by decide +kernel, by decide +kernel⟩
theorem im_X_remove : Cond.instanceMethod m_X_remove.1 ∈ lw_w := by decide +kernel
theorem se_X_remove : Cond.selects "VersionMaps" m_X_remove.1 m_X_remove.1 ∈ lw_w := by decide +kernel
theorem d_X_remove_0 : decode prog_1_method_3_code 0 = .ok (.iload_n 1, 1) := by decide +kernel
theorem d_X_remove_1 : decode prog_1_method_3_code 1 = .ok (.iload_n 2, 1) := by decide +kernel
theorem d_X_remove_2 : decode prog_1_method_3_code 2 = .ok (.invokestatic 56, 3) := by decide +kernel
theorem d_X_remove_5 : decode prog_1_method_3_code 5 = .ok (.ifCond .ne 5, 3) := by decide +kernel
theorem d_X_remove_8 : decode prog_1_method_3_code 8 = .ok (.iconst (-1), 1) := by decide +kernel
theorem d_X_remove_9 : decode prog_1_method_3_code 9 = .ok (.ireturn, 1) := by decide +kernel
theorem d_X_remove_10 : decode prog_1_method_3_code 10 = .ok (.aload_n 0, 1) := by decide +kernel
theorem d_X_remove_11 : decode prog_1_method_3_code 11 = .ok (.getfield 10, 3) := by decide +kernel
theorem d_X_remove_14 : decode prog_1_method_3_code 14 = .ok (.iload_n 1, 1) := by decide +kernel
theorem d_X_remove_15 : decode prog_1_method_3_code 15 = .ok (.iload_n 2, 1) := by decide +kernel
theorem d_X_remove_16 : decode prog_1_method_3_code 16 = .ok (.invokevirtual 60, 3) := by decide +kernel
theorem d_X_remove_19 : decode prog_1_method_3_code 19 = .ok (.ifCond .ne 5, 3) := by decide +kernel
theorem d_X_remove_22 : decode prog_1_method_3_code 22 = .ok (.iconst 0, 1) := by decide +kernel
theorem d_X_remove_23 : decode prog_1_method_3_code 23 = .ok (.ireturn, 1) := by decide +kernel
theorem d_X_remove_24 : decode prog_1_method_3_code 24 = .ok (.aload_n 0, 1) := by decide +kernel
theorem d_X_remove_25 : decode prog_1_method_3_code 25 = .ok (.getfield 10, 3) := by decide +kernel
theorem d_X_remove_28 : decode prog_1_method_3_code 28 = .ok (.iload_n 1, 1) := by decide +kernel
theorem d_X_remove_29 : decode prog_1_method_3_code 29 = .ok (.iload_n 2, 1) := by decide +kernel
theorem d_X_remove_30 : decode prog_1_method_3_code 30 = .ok (.invokevirtual 67, 3) := by decide +kernel
theorem d_X_remove_33 : decode prog_1_method_3_code 33 = .ok (.iconst 1, 1) := by decide +kernel
theorem d_X_remove_34 : decode prog_1_method_3_code 34 = .ok (.ireturn, 1) := by decide +kernel
def W_X_remove : Wl := ([(5, 2)], [67])
def f_X_remove (a0 : Nat) (p1 : Int32) (p2 : Int32) (h : Hp) : Option (Int32 × Hp) :=
  cl (f_X_isKey p1 p2 h) fun v3 h1 => if v3 = 0 then (some ((-1 : Int32), h1)) else (gd (isK h1 a0 0) (dr (hpR h1 a0 0) fun a7 => gd (isK h1 a7 5) (cl (f_P_has a7 p1 p2 h1) fun v12 h10 => if v12 = 0 then (some ((0 : Int32), h10)) else (gd (isK h10 a0 0) (dr (hpR h10 a0 0) fun a16 => gd (isK h10 a16 5) (cv (f_P_erase a16 p1 p2 h10) fun h19 => some ((1 : Int32), h19)))))))
set_option maxRecDepth 100000 in
set_option maxHeartbeats 4000000 in
theorem zf_X_remove {l : Launch} {C : Ct} {mi : Nat} {a0 : Nat} {p1 : Int32} {p2 : Int32} {h h' : Hp} {v : Int32} (hf : f_X_remove a0 p1 p2 h = some (v, h')) : Z l C mi m_X_remove 2 0 [(0, vr (some a0)), (1, vi p1), (2, vi p2)] [] h (some (vi v)) h' := by
  unfold f_X_remove at hf
  refine z_iload_n 1 d_X_remove_0 rfl rfl ?_
  refine z_iload_n 2 d_X_remove_1 rfl rfl ?_
  obtain ⟨v3, h1, ec2, hf⟩ := cl_some hf
  refine z_callS (c_X_isKey ec2) d_X_remove_2 cw_X_isKey lk_X_56 (by decide +kernel) ⟨by decide, by decide⟩ (Nat.le_of_ble_eq_true rfl) rfl ?_
  refine z_if_ne (tgt := 10) d_X_remove_5 (by decide) (fun c5 => ?_) (fun c5 => ?_)
  · rw [if_neg c5] at hf
    refine z_aload_n 0 d_X_remove_10 rfl rfl ?_
    obtain ⟨g6, hf⟩ := gd_some hf
    refine z_getR d_X_remove_11 (fl_K (isK_eq g6) fl_X_10_0) (fi_K (isK_eq g6) rfl) rfl ?_
    refine z_iload_n 1 d_X_remove_14 rfl rfl ?_
    refine z_iload_n 2 d_X_remove_15 rfl rfl ?_
    obtain ⟨a7, e8, hf⟩ := dr_some hf
    obtain ⟨g9, hf⟩ := gd_some hf
    obtain ⟨v12, h10, ec11, hf⟩ := cl_some hf
    refine z_callVx e8 (c_P_has ec11) d_X_remove_16 cw_P_has lk_X_60 im_P_has se_P_has (kc_K (isK_eq g9) kc_5) ⟨by decide, by decide⟩ (Nat.le_of_ble_eq_true rfl) rfl ?_
    refine z_if_ne (tgt := 24) d_X_remove_19 (by decide) (fun c14 => ?_) (fun c14 => ?_)
    · rw [if_neg c14] at hf
      refine z_aload_n 0 d_X_remove_24 rfl rfl ?_
      obtain ⟨g15, hf⟩ := gd_some hf
      refine z_getR d_X_remove_25 (fl_K (isK_eq g15) fl_X_10_0) (fi_K (isK_eq g15) rfl) rfl ?_
      refine z_iload_n 1 d_X_remove_28 rfl rfl ?_
      refine z_iload_n 2 d_X_remove_29 rfl rfl ?_
      obtain ⟨a16, e17, hf⟩ := dr_some hf
      obtain ⟨g18, hf⟩ := gd_some hf
      obtain ⟨h19, ec20, hf⟩ := cv_some hf
      refine z_callVx e17 (c_P_erase ec20) d_X_remove_30 cw_P_erase lk_X_67 im_P_erase se_P_erase (kc_K (isK_eq g18) kc_5) ⟨by decide, by decide⟩ (Nat.le_of_ble_eq_true rfl) rfl ?_
      refine z_iconst (v := (1 : Int32)) d_X_remove_33 (by decide) ?_
      obtain ⟨rfl, rfl⟩ := Prod.mk.inj (Option.some.inj hf)
      exact z_ret d_X_remove_34 rfl
    · rw [if_pos c14] at hf
      refine z_iconst (v := (0 : Int32)) d_X_remove_22 (by decide) ?_
      obtain ⟨rfl, rfl⟩ := Prod.mk.inj (Option.some.inj hf)
      exact z_ret d_X_remove_23 rfl
  · rw [if_pos c5] at hf
    refine z_iconst (v := (-1 : Int32)) d_X_remove_8 (by decide) ?_
    obtain ⟨rfl, rfl⟩ := Prod.mk.inj (Option.some.inj hf)
    exact z_ret d_X_remove_9 rfl
set_option maxRecDepth 100000 in
set_option maxHeartbeats 4000000 in
theorem fr_X_remove {C : Ct} {mi : Nat} {a0 : Nat} {p1 : Int32} {p2 : Int32} {h h' : Hp} {v : Int32} (hf : f_X_remove a0 p1 p2 h = some (v, h')) : Keep W_X_remove h h' := by
  unfold f_X_remove at hf
  obtain ⟨v3, h1, ec2, hf⟩ := cl_some hf
  have K4 := (Keep.refl W_X_remove _).trans ((fr_X_isKey (C := C) (mi := mi) ec2).mono (by decide) (by decide))
  rcases (Classical.em (v3 = 0)).symm with c5 | c5
  · rw [if_neg c5] at hf
    obtain ⟨g6, hf⟩ := gd_some hf
    obtain ⟨a7, e8, hf⟩ := dr_some hf
    obtain ⟨g9, hf⟩ := gd_some hf
    obtain ⟨v12, h10, ec11, hf⟩ := cl_some hf
    have K13 := K4.trans ((fr_P_has (C := C) (mi := mi) ec11).mono (by decide) (by decide))
    rcases (Classical.em (v12 = 0)).symm with c14 | c14
    · rw [if_neg c14] at hf
      obtain ⟨g15, hf⟩ := gd_some hf
      obtain ⟨a16, e17, hf⟩ := dr_some hf
      obtain ⟨g18, hf⟩ := gd_some hf
      obtain ⟨h19, ec20, hf⟩ := cv_some hf
      have K21 := K13.trans ((fr_P_erase (C := C) (mi := mi) ec20).mono (by decide) (by decide))
      obtain ⟨rfl, rfl⟩ := Prod.mk.inj (Option.some.inj hf)
      exact K21
    · rw [if_pos c14] at hf
      obtain ⟨rfl, rfl⟩ := Prod.mk.inj (Option.some.inj hf)
      exact K13
  · rw [if_pos c5] at hf
    obtain ⟨rfl, rfl⟩ := Prod.mk.inj (Option.some.inj hf)
    exact K4
theorem c_X_remove {l : Launch} {C : Ct} {mi : Nat} {a0 : Nat} {p1 : Int32} {p2 : Int32} {h h' : Hp} {v : Int32} (hf : f_X_remove a0 p1 p2 h = some (v, h')) : Mt l C mi m_X_remove 2 [vr (some a0), vi p1, vi p2] h (some (vi v)) h' := mt_I (ty := .int) rfl rfl rfl (by decide) (Nat.le_of_ble_eq_true rfl) (zf_X_remove hf)
-- VersionMaps.get(II)J
def m_X_get : Mi := (⟨"VersionMaps", "get", "(II)J"⟩, prog_1_method_4_code, 3, (Option.some Jvm.ClassFile.FieldType.long), .lreturn)
theorem cw_X_get : cw_ok m_X_get 2 := ⟨by decide +kernel, by decide +kernel, by decide +kernel, by decide +kernel⟩
theorem im_X_get : Cond.instanceMethod m_X_get.1 ∈ lw_w := by decide +kernel
theorem se_X_get : Cond.selects "VersionMaps" m_X_get.1 m_X_get.1 ∈ lw_w := by decide +kernel
theorem d_X_get_0 : decode prog_1_method_4_code 0 = .ok (.iload_n 1, 1) := by decide +kernel
theorem d_X_get_1 : decode prog_1_method_4_code 1 = .ok (.iload_n 2, 1) := by decide +kernel
theorem d_X_get_2 : decode prog_1_method_4_code 2 = .ok (.invokestatic 56, 3) := by decide +kernel
theorem d_X_get_5 : decode prog_1_method_4_code 5 = .ok (.ifCond .ne 7, 3) := by decide +kernel
theorem d_X_get_8 : decode prog_1_method_4_code 8 = .ok (.ldc2_w 71, 3) := by decide +kernel
theorem d_X_get_11 : decode prog_1_method_4_code 11 = .ok (.lreturn, 1) := by decide +kernel
theorem d_X_get_12 : decode prog_1_method_4_code 12 = .ok (.aload_n 0, 1) := by decide +kernel
theorem d_X_get_13 : decode prog_1_method_4_code 13 = .ok (.getfield 10, 3) := by decide +kernel
theorem d_X_get_16 : decode prog_1_method_4_code 16 = .ok (.iload_n 1, 1) := by decide +kernel
theorem d_X_get_17 : decode prog_1_method_4_code 17 = .ok (.iload_n 2, 1) := by decide +kernel
theorem d_X_get_18 : decode prog_1_method_4_code 18 = .ok (.invokevirtual 60, 3) := by decide +kernel
theorem d_X_get_21 : decode prog_1_method_4_code 21 = .ok (.ifCond .eq 16, 3) := by decide +kernel
theorem d_X_get_24 : decode prog_1_method_4_code 24 = .ok (.aload_n 0, 1) := by decide +kernel
theorem d_X_get_25 : decode prog_1_method_4_code 25 = .ok (.getfield 10, 3) := by decide +kernel
theorem d_X_get_28 : decode prog_1_method_4_code 28 = .ok (.iload_n 1, 1) := by decide +kernel
theorem d_X_get_29 : decode prog_1_method_4_code 29 = .ok (.iload_n 2, 1) := by decide +kernel
theorem d_X_get_30 : decode prog_1_method_4_code 30 = .ok (.invokevirtual 73, 3) := by decide +kernel
theorem d_X_get_33 : decode prog_1_method_4_code 33 = .ok (.i2l, 1) := by decide +kernel
theorem d_X_get_34 : decode prog_1_method_4_code 34 = .ok (.goto 6, 3) := by decide +kernel
theorem d_X_get_37 : decode prog_1_method_4_code 37 = .ok (.ldc2_w 77, 3) := by decide +kernel
theorem d_X_get_40 : decode prog_1_method_4_code 40 = .ok (.lreturn, 1) := by decide +kernel
def W_X_get : Wl := ([], [])
def f_X_get (a0 : Nat) (p1 : Int32) (p2 : Int32) (h : Hp) : Option (Int64 × Hp) :=
  cl (f_X_isKey p1 p2 h) fun v3 h1 => if v3 = 0 then (some ((2199023255552 : Int64), h1)) else (gd (isK h1 a0 0) (dr (hpR h1 a0 0) fun a7 => gd (isK h1 a7 5) (cl (f_P_has a7 p1 p2 h1) fun v12 h10 => if v12 = 0 then (some ((1099511627776 : Int64), h10)) else (gd (isK h10 a0 0) (dr (hpR h10 a0 0) fun a16 => gd (isK h10 a16 5) (cl (f_P_valueOf a16 p1 p2 h10) fun v21 h19 => some (v21.toInt64, h19)))))))
set_option maxRecDepth 100000 in
set_option maxHeartbeats 4000000 in
theorem zf_X_get {l : Launch} {C : Ct} {mi : Nat} {a0 : Nat} {p1 : Int32} {p2 : Int32} {h h' : Hp} {v : Int64} (hf : f_X_get a0 p1 p2 h = some (v, h')) : Z l C mi m_X_get 2 0 [(0, vr (some a0)), (1, vi p1), (2, vi p2)] [] h (some (vl v)) h' := by
  unfold f_X_get at hf
  refine z_iload_n 1 d_X_get_0 rfl rfl ?_
  refine z_iload_n 2 d_X_get_1 rfl rfl ?_
  obtain ⟨v3, h1, ec2, hf⟩ := cl_some hf
  refine z_callS (c_X_isKey ec2) d_X_get_2 cw_X_isKey lk_X_56 (by decide +kernel) ⟨by decide, by decide⟩ (Nat.le_of_ble_eq_true rfl) rfl ?_
  refine z_if_ne (tgt := 12) d_X_get_5 (by decide) (fun c5 => ?_) (fun c5 => ?_)
  · rw [if_neg c5] at hf
    refine z_aload_n 0 d_X_get_12 rfl rfl ?_
    obtain ⟨g6, hf⟩ := gd_some hf
    refine z_getR d_X_get_13 (fl_K (isK_eq g6) fl_X_10_0) (fi_K (isK_eq g6) rfl) rfl ?_
    refine z_iload_n 1 d_X_get_16 rfl rfl ?_
    refine z_iload_n 2 d_X_get_17 rfl rfl ?_
    obtain ⟨a7, e8, hf⟩ := dr_some hf
    obtain ⟨g9, hf⟩ := gd_some hf
    obtain ⟨v12, h10, ec11, hf⟩ := cl_some hf
    refine z_callVx e8 (c_P_has ec11) d_X_get_18 cw_P_has lk_X_60 im_P_has se_P_has (kc_K (isK_eq g9) kc_5) ⟨by decide, by decide⟩ (Nat.le_of_ble_eq_true rfl) rfl ?_
    refine z_if_eq (tgt := 37) d_X_get_21 (by decide) (fun c14 => ?_) (fun c14 => ?_)
    · rw [if_pos c14] at hf
      refine z_ldc2 (v := (1099511627776 : Int64)) d_X_get_37 (by decide +kernel) ?_
      obtain ⟨rfl, rfl⟩ := Prod.mk.inj (Option.some.inj hf)
      exact z_ret d_X_get_40 rfl
    · rw [if_neg c14] at hf
      refine z_aload_n 0 d_X_get_24 rfl rfl ?_
      obtain ⟨g15, hf⟩ := gd_some hf
      refine z_getR d_X_get_25 (fl_K (isK_eq g15) fl_X_10_0) (fi_K (isK_eq g15) rfl) rfl ?_
      refine z_iload_n 1 d_X_get_28 rfl rfl ?_
      refine z_iload_n 2 d_X_get_29 rfl rfl ?_
      obtain ⟨a16, e17, hf⟩ := dr_some hf
      obtain ⟨g18, hf⟩ := gd_some hf
      obtain ⟨v21, h19, ec20, hf⟩ := cl_some hf
      refine z_callVx e17 (c_P_valueOf ec20) d_X_get_30 cw_P_valueOf lk_X_73 im_P_valueOf se_P_valueOf (kc_K (isK_eq g18) kc_5) ⟨by decide, by decide⟩ (Nat.le_of_ble_eq_true rfl) rfl ?_
      refine z_i2l d_X_get_33 ?_
      refine z_goto (tgt := 40) d_X_get_34 (by decide) ?_
      obtain ⟨rfl, rfl⟩ := Prod.mk.inj (Option.some.inj hf)
      exact z_ret d_X_get_40 rfl
  · rw [if_pos c5] at hf
    refine z_ldc2 (v := (2199023255552 : Int64)) d_X_get_8 (by decide +kernel) ?_
    obtain ⟨rfl, rfl⟩ := Prod.mk.inj (Option.some.inj hf)
    exact z_ret d_X_get_11 rfl
set_option maxRecDepth 100000 in
set_option maxHeartbeats 4000000 in
theorem fr_X_get {C : Ct} {mi : Nat} {a0 : Nat} {p1 : Int32} {p2 : Int32} {h h' : Hp} {v : Int64} (hf : f_X_get a0 p1 p2 h = some (v, h')) : Keep W_X_get h h' := by
  unfold f_X_get at hf
  obtain ⟨v3, h1, ec2, hf⟩ := cl_some hf
  have K4 := (Keep.refl W_X_get _).trans ((fr_X_isKey (C := C) (mi := mi) ec2).mono (by decide) (by decide))
  rcases (Classical.em (v3 = 0)).symm with c5 | c5
  · rw [if_neg c5] at hf
    obtain ⟨g6, hf⟩ := gd_some hf
    obtain ⟨a7, e8, hf⟩ := dr_some hf
    obtain ⟨g9, hf⟩ := gd_some hf
    obtain ⟨v12, h10, ec11, hf⟩ := cl_some hf
    have K13 := K4.trans ((fr_P_has (C := C) (mi := mi) ec11).mono (by decide) (by decide))
    rcases Classical.em (v12 = 0) with c14 | c14
    · rw [if_pos c14] at hf
      obtain ⟨rfl, rfl⟩ := Prod.mk.inj (Option.some.inj hf)
      exact K13
    · rw [if_neg c14] at hf
      obtain ⟨g15, hf⟩ := gd_some hf
      obtain ⟨a16, e17, hf⟩ := dr_some hf
      obtain ⟨g18, hf⟩ := gd_some hf
      obtain ⟨v21, h19, ec20, hf⟩ := cl_some hf
      have K22 := K13.trans ((fr_P_valueOf (C := C) (mi := mi) ec20).mono (by decide) (by decide))
      obtain ⟨rfl, rfl⟩ := Prod.mk.inj (Option.some.inj hf)
      exact K22
  · rw [if_pos c5] at hf
    obtain ⟨rfl, rfl⟩ := Prod.mk.inj (Option.some.inj hf)
    exact K4
theorem c_X_get {l : Launch} {C : Ct} {mi : Nat} {a0 : Nat} {p1 : Int32} {p2 : Int32} {h h' : Hp} {v : Int64} (hf : f_X_get a0 p1 p2 h = some (v, h')) : Mt l C mi m_X_get 2 [vr (some a0), vi p1, vi p2] h (some (vl v)) h' := mt_L rfl rfl (by decide) (Nat.le_of_ble_eq_true rfl) (zf_X_get hf)
-- VersionMaps.findVersion(I)LVersionMaps$Version;
def m_X_findVersion : Mi := (⟨"VersionMaps", "findVersion", "(I)LVersionMaps$Version;"⟩, prog_1_method_22_code, 3, (Option.some (Jvm.ClassFile.FieldType.object "VersionMaps$Version")), .areturn)
theorem cw_X_findVersion : cw_ok m_X_findVersion 1 := ⟨by decide +kernel, by decide +kernel, by decide +kernel, by decide +kernel⟩
theorem im_X_findVersion : Cond.instanceMethod m_X_findVersion.1 ∈ lw_w := by decide +kernel
theorem se_X_findVersion : Cond.selects "VersionMaps" m_X_findVersion.1 m_X_findVersion.1 ∈ lw_w := by decide +kernel
theorem d_X_findVersion_0 : decode prog_1_method_22_code 0 = .ok (.iconst 0, 1) := by decide +kernel
theorem d_X_findVersion_1 : decode prog_1_method_22_code 1 = .ok (.istore_n 2, 1) := by decide +kernel
theorem d_X_findVersion_2 : decode prog_1_method_22_code 2 = .ok (.iload_n 2, 1) := by decide +kernel
theorem d_X_findVersion_3 : decode prog_1_method_22_code 3 = .ok (.aload_n 0, 1) := by decide +kernel
theorem d_X_findVersion_4 : decode prog_1_method_22_code 4 = .ok (.getfield 30, 3) := by decide +kernel
theorem d_X_findVersion_7 : decode prog_1_method_22_code 7 = .ok (.invokevirtual 183, 3) := by decide +kernel
theorem d_X_findVersion_10 : decode prog_1_method_22_code 10 = .ok (.if_icmp .ge 39, 3) := by decide +kernel
theorem d_X_findVersion_13 : decode prog_1_method_22_code 13 = .ok (.aload_n 0, 1) := by decide +kernel
theorem d_X_findVersion_14 : decode prog_1_method_22_code 14 = .ok (.getfield 30, 3) := by decide +kernel
theorem d_X_findVersion_17 : decode prog_1_method_22_code 17 = .ok (.iload_n 2, 1) := by decide +kernel
theorem d_X_findVersion_18 : decode prog_1_method_22_code 18 = .ok (.invokevirtual 186, 3) := by decide +kernel
theorem d_X_findVersion_21 : decode prog_1_method_22_code 21 = .ok (.checkcast 33, 3) := by decide +kernel
theorem d_X_findVersion_24 : decode prog_1_method_22_code 24 = .ok (.getfield 105, 3) := by decide +kernel
theorem d_X_findVersion_27 : decode prog_1_method_22_code 27 = .ok (.iload_n 1, 1) := by decide +kernel
theorem d_X_findVersion_28 : decode prog_1_method_22_code 28 = .ok (.if_icmp .ne 15, 3) := by decide +kernel
theorem d_X_findVersion_31 : decode prog_1_method_22_code 31 = .ok (.aload_n 0, 1) := by decide +kernel
theorem d_X_findVersion_32 : decode prog_1_method_22_code 32 = .ok (.getfield 30, 3) := by decide +kernel
theorem d_X_findVersion_35 : decode prog_1_method_22_code 35 = .ok (.iload_n 2, 1) := by decide +kernel
theorem d_X_findVersion_36 : decode prog_1_method_22_code 36 = .ok (.invokevirtual 186, 3) := by decide +kernel
theorem d_X_findVersion_39 : decode prog_1_method_22_code 39 = .ok (.checkcast 33, 3) := by decide +kernel
theorem d_X_findVersion_42 : decode prog_1_method_22_code 42 = .ok (.areturn, 1) := by decide +kernel
theorem d_X_findVersion_43 : decode prog_1_method_22_code 43 = .ok (.iinc 2 1, 3) := by decide +kernel
theorem d_X_findVersion_46 : decode prog_1_method_22_code 46 = .ok (.goto (-44), 3) := by decide +kernel
theorem d_X_findVersion_49 : decode prog_1_method_22_code 49 = .ok (.aconst_null, 1) := by decide +kernel
theorem d_X_findVersion_50 : decode prog_1_method_22_code 50 = .ok (.areturn, 1) := by decide +kernel
def W_X_findVersion : Wl := ([], [])
def b_X_findVersion_2 (y0 : Nat) (y1 : Int32) (y2 : Int32) (h : Hp) : Option ((Int32 × Hp) ⊕ ((Hp) ⊕ (Option Nat × Hp))) :=
  gd (isK h y0 0) (dr (hpR h y0 3) fun a2 => gd (isK h a2 9) (cl (f_A_size a2 h) fun v7 h5 => if v7 ≤ y2 then (some (.inr (.inl h5))) else (gd (isK h5 y0 0) (dr (hpR h5 y0 3) fun a11 => gd (isK h5 a11 9) (cl (f_A_get a11 y2 h5) fun v16 h14 => gd (caB h14 v16 7) (dr v16 fun a19 => gd (isK h14 a19 7) (if (hpI h14 a19 0) = y1 then (gd (isK h14 y0 0) (dr (hpR h14 y0 3) fun a24 => gd (isK h14 a24 9) (cl (f_A_get a24 y2 h14) fun v29 h27 => gd (caB h27 v29 7) (some (.inr (.inr (v29, h27))))))) else (some (.inl ((y2 + (1 : Int32)), h14))))))))))
set_option maxRecDepth 100000 in
set_option maxHeartbeats 4000000 in
theorem zb_X_findVersion_2 {l : Launch} {C : Ct} {mi : Nat} {y0 : Nat} {y1 : Int32} {y2 : Int32} {h h' : Hp} {v : Option Nat} {q : ((Int32 × Hp) ⊕ ((Hp) ⊕ (Option Nat × Hp)))} (hf : b_X_findVersion_2 y0 y1 y2 h = some q) (kc : ∀ s, q = .inl s → Z l C mi m_X_findVersion 3 2 [(0, vr (some y0)), (1, vi y1), (2, vi s.1)] [] s.2 (some (vr v)) h') (ke : ∀ x, q = .inr (.inl x) → Z l C mi m_X_findVersion 3 49 [] [] x (some (vr v)) h') (kr : ∀ rv rh, q = .inr (.inr (rv, rh)) → v = rv ∧ h' = rh) : Z l C mi m_X_findVersion 3 2 [(0, vr (some y0)), (1, vi y1), (2, vi y2)] [] h (some (vr v)) h' := by
  unfold b_X_findVersion_2 at hf
  refine z_iload_n 2 d_X_findVersion_2 rfl rfl ?_
  refine z_aload_n 0 d_X_findVersion_3 rfl rfl ?_
  obtain ⟨g1, hf⟩ := gd_some hf
  refine z_getR d_X_findVersion_4 (fl_K (isK_eq g1) fl_X_30_0) (fi_K (isK_eq g1) rfl) rfl ?_
  obtain ⟨a2, e3, hf⟩ := dr_some hf
  obtain ⟨g4, hf⟩ := gd_some hf
  obtain ⟨v7, h5, ec6, hf⟩ := cl_some hf
  refine z_callVx e3 (c_A_size ec6) d_X_findVersion_7 cw_A_size lk_X_183 im_A_size se_A_size (kc_K (isK_eq g4) kc_9) ⟨by decide, by decide⟩ (Nat.le_of_ble_eq_true rfl) rfl ?_
  refine z_icmp_ge (tgt := 49) d_X_findVersion_10 (by decide) (fun c9 => ?_) (fun c9 => ?_)
  · rw [if_pos c9] at hf
    refine z_ls [] rfl ?_
    exact ke h5 (Option.some.inj hf).symm
  · rw [if_neg c9] at hf
    refine z_aload_n 0 d_X_findVersion_13 rfl rfl ?_
    obtain ⟨g10, hf⟩ := gd_some hf
    refine z_getR d_X_findVersion_14 (fl_K (isK_eq g10) fl_X_30_0) (fi_K (isK_eq g10) rfl) rfl ?_
    refine z_iload_n 2 d_X_findVersion_17 rfl rfl ?_
    obtain ⟨a11, e12, hf⟩ := dr_some hf
    obtain ⟨g13, hf⟩ := gd_some hf
    obtain ⟨v16, h14, ec15, hf⟩ := cl_some hf
    refine z_callVx e12 (c_A_get ec15) d_X_findVersion_18 cw_A_get lk_X_186 im_A_get se_A_get (kc_K (isK_eq g13) kc_9) ⟨by decide, by decide⟩ (Nat.le_of_ble_eq_true rfl) rfl ?_
    obtain ⟨g18, hf⟩ := gd_some hf
    refine z_cast d_X_findVersion_21 (nm := "VersionMaps$Version") (by decide +kernel) (caB_ok (κ := 7) g18 rfl (by decide +kernel)) ?_
    obtain ⟨a19, e20, hf⟩ := dr_some hf
    obtain ⟨g21, hf⟩ := gd_some hf
    refine z_getI d_X_findVersion_24 (fl_K (isK_eq g21) fl_X_105_7) (fi_K (isK_eq g21) rfl) e20 ?_
    refine z_iload_n 1 d_X_findVersion_27 rfl rfl ?_
    refine z_icmp_ne (tgt := 43) d_X_findVersion_28 (by decide) (fun c22 => ?_) (fun c22 => ?_)
    · rw [if_neg c22] at hf
      refine z_iinc (ls2 := [(2, vi (y2 + (1 : Int32))), (0, vr (some y0)), (1, vi y1)]) 2 d_X_findVersion_43 rfl rfl (by decide) rfl ?_
      refine z_goto (tgt := 2) d_X_findVersion_46 (by decide) ?_
      refine z_ls [1, 2, 0] rfl ?_
      exact kc ((y2 + (1 : Int32)), h14) (Option.some.inj hf).symm
    · rw [if_pos c22] at hf
      refine z_aload_n 0 d_X_findVersion_31 rfl rfl ?_
      obtain ⟨g23, hf⟩ := gd_some hf
      refine z_getR d_X_findVersion_32 (fl_K (isK_eq g23) fl_X_30_0) (fi_K (isK_eq g23) rfl) rfl ?_
      refine z_iload_n 2 d_X_findVersion_35 rfl rfl ?_
      obtain ⟨a24, e25, hf⟩ := dr_some hf
      obtain ⟨g26, hf⟩ := gd_some hf
      obtain ⟨v29, h27, ec28, hf⟩ := cl_some hf
      refine z_callVx e25 (c_A_get ec28) d_X_findVersion_36 cw_A_get lk_X_186 im_A_get se_A_get (kc_K (isK_eq g26) kc_9) ⟨by decide, by decide⟩ (Nat.le_of_ble_eq_true rfl) rfl ?_
      obtain ⟨g31, hf⟩ := gd_some hf
      refine z_cast d_X_findVersion_39 (nm := "VersionMaps$Version") (by decide +kernel) (caB_ok (κ := 7) g31 rfl (by decide +kernel)) ?_
      obtain ⟨rfl, rfl⟩ := kr _ _ (Option.some.inj hf).symm
      exact z_ret d_X_findVersion_42 rfl
set_option maxRecDepth 100000 in
set_option maxHeartbeats 4000000 in
theorem kb_X_findVersion_2 {C : Ct} {mi : Nat} {y0 : Nat} {y1 : Int32} {y2 : Int32} {h : Hp} {q : ((Int32 × Hp) ⊕ ((Hp) ⊕ (Option Nat × Hp)))} (hf : b_X_findVersion_2 y0 y1 y2 h = some q) : Keep W_X_findVersion h (Sum.elim (fun s : Int32 × Hp => s.2) (Sum.elim (fun x : Hp => x) (fun r : (Option Nat × Hp) => r.2)) q) := by
  unfold b_X_findVersion_2 at hf
  obtain ⟨g1, hf⟩ := gd_some hf
  obtain ⟨a2, e3, hf⟩ := dr_some hf
  obtain ⟨g4, hf⟩ := gd_some hf
  obtain ⟨v7, h5, ec6, hf⟩ := cl_some hf
  have K8 := (Keep.refl W_X_findVersion _).trans ((fr_A_size (C := C) (mi := mi) ec6).mono (by decide) (by decide))
  rcases Classical.em (v7 ≤ y2) with c9 | c9
  · rw [if_pos c9] at hf
    cases (Option.some.inj hf)
    exact K8
  · rw [if_neg c9] at hf
    obtain ⟨g10, hf⟩ := gd_some hf
    obtain ⟨a11, e12, hf⟩ := dr_some hf
    obtain ⟨g13, hf⟩ := gd_some hf
    obtain ⟨v16, h14, ec15, hf⟩ := cl_some hf
    have K17 := K8.trans ((fr_A_get (C := C) (mi := mi) ec15).mono (by decide) (by decide))
    obtain ⟨g18, hf⟩ := gd_some hf
    obtain ⟨a19, e20, hf⟩ := dr_some hf
    obtain ⟨g21, hf⟩ := gd_some hf
    rcases (Classical.em ((hpI h14 a19 0) = y1)).symm with c22 | c22
    · rw [if_neg c22] at hf
      cases (Option.some.inj hf)
      exact K17
    · rw [if_pos c22] at hf
      obtain ⟨g23, hf⟩ := gd_some hf
      obtain ⟨a24, e25, hf⟩ := dr_some hf
      obtain ⟨g26, hf⟩ := gd_some hf
      obtain ⟨v29, h27, ec28, hf⟩ := cl_some hf
      have K30 := K17.trans ((fr_A_get (C := C) (mi := mi) ec28).mono (by decide) (by decide))
      obtain ⟨g31, hf⟩ := gd_some hf
      cases (Option.some.inj hf)
      exact K30
def l_X_findVersion_2 (y0 : Nat) (y1 : Int32) (s : Int32 × Hp) : Option ((Hp) ⊕ (Option Nat × Hp)) := lp (fun s => b_X_findVersion_2 y0 y1 s.1 s.2) FU s
theorem zzl_X_findVersion_2 {l : Launch} {C : Ct} {mi : Nat} {y0 : Nat} {y1 : Int32} {h' : Hp} {v : Option Nat} : ∀ (n : Nat) (s : Int32 × Hp) (q : ((Hp) ⊕ (Option Nat × Hp))), lp (fun s : Int32 × Hp => b_X_findVersion_2 y0 y1 s.1 s.2) n s = some q → (∀ x, q = .inl x → Z l C mi m_X_findVersion 3 49 [] [] x (some (vr v)) h') → (∀ rv rh, q = .inr (rv, rh) → v = rv ∧ h' = rh) → Z l C mi m_X_findVersion 3 2 [(0, vr (some y0)), (1, vi y1), (2, vi s.1)] [] s.2 (some (vr v)) h' := by
  intro n
  induction n with
  | zero => intro s q hl; cases hl
  | succ n ih =>
    intro s q hl ke kr
    rcases lp_some hl with ⟨s2, hb, hl2⟩ | hb
    · exact zb_X_findVersion_2 hb (fun s3 e3 => by cases e3; refine z_ls [0, 1, 2] rfl ?_; exact ih s2 q hl2 ke kr) (fun x e3 => by cases e3) (fun rv rh e3 => by cases e3)
    · exact zb_X_findVersion_2 hb (fun s3 e3 => by cases e3) (fun x e3 => ke x (Sum.inr.inj e3)) (fun rv rh e3 => kr rv rh (Sum.inr.inj e3))
theorem zl_X_findVersion_2 {l : Launch} {C : Ct} {mi : Nat} {y0 : Nat} {y1 : Int32} {h' : Hp} {v : Option Nat} {s : Int32 × Hp} {q : ((Hp) ⊕ (Option Nat × Hp))} (hl : l_X_findVersion_2 y0 y1 s = some q) (ke : ∀ x, q = .inl x → Z l C mi m_X_findVersion 3 49 [] [] x (some (vr v)) h') (kr : ∀ rv rh, q = .inr (rv, rh) → v = rv ∧ h' = rh) : Z l C mi m_X_findVersion 3 2 [(0, vr (some y0)), (1, vi y1), (2, vi s.1)] [] s.2 (some (vr v)) h' := zzl_X_findVersion_2 FU s q hl ke kr
theorem kl_X_findVersion_2 {C : Ct} {mi : Nat} {y0 : Nat} {y1 : Int32} {s : Int32 × Hp} {q : ((Hp) ⊕ (Option Nat × Hp))} (hl : l_X_findVersion_2 y0 y1 s = some q) : Keep W_X_findVersion s.2 ((Sum.elim (fun x : Hp => x) (fun r : (Option Nat × Hp) => r.2)) q) := lpk (sh := (fun s : Int32 × Hp => s.2)) (rh := (Sum.elim (fun x : Hp => x) (fun r : (Option Nat × Hp) => r.2))) (fun s q hb => kb_X_findVersion_2 (C := C) (mi := mi) hb) FU s q hl
def f_X_findVersion (a0 : Nat) (p1 : Int32) (h : Hp) : Option (Option Nat × Hp) :=
  lk (l_X_findVersion_2 a0 p1 ((0 : Int32), h)) (fun x32 => some (none, x32)) some
set_option maxRecDepth 100000 in
set_option maxHeartbeats 4000000 in
theorem zf_X_findVersion {l : Launch} {C : Ct} {mi : Nat} {a0 : Nat} {p1 : Int32} {h h' : Hp} {v : Option Nat} (hf : f_X_findVersion a0 p1 h = some (v, h')) : Z l C mi m_X_findVersion 3 0 [(0, vr (some a0)), (1, vi p1)] [] h (some (vr v)) h' := by
  unfold f_X_findVersion at hf
  refine z_iconst (v := (0 : Int32)) d_X_findVersion_0 (by decide) ?_
  refine z_istore_n (ls2 := [(2, vi (0 : Int32)), (0, vr (some a0)), (1, vi p1)]) d_X_findVersion_1 rfl (by decide) rfl ?_
  rcases lk_some hf with ⟨x32, el33, hf⟩ | ⟨x32r, el33, hf⟩
  · skip
    refine z_ls [1, 2, 0] rfl ?_
    refine zl_X_findVersion_2 el33 (fun x2 e2 => ?_) (fun rv rh e2 => by cases e2)
    cases e2
    refine z_aconst_null d_X_findVersion_49 ?_
    obtain ⟨rfl, rfl⟩ := Prod.mk.inj (Option.some.inj hf)
    exact z_ret d_X_findVersion_50 rfl
  · skip
    refine z_ls [1, 2, 0] rfl ?_
    refine zl_X_findVersion_2 el33 (fun x2 e2 => by cases e2) (fun rv rh e2 => ?_)
    cases e2
    have e4 := Prod.mk.inj (Option.some.inj hf)
    exact ⟨e4.1.symm, e4.2.symm⟩
set_option maxRecDepth 100000 in
set_option maxHeartbeats 4000000 in
theorem fr_X_findVersion {C : Ct} {mi : Nat} {a0 : Nat} {p1 : Int32} {h h' : Hp} {v : Option Nat} (hf : f_X_findVersion a0 p1 h = some (v, h')) : Keep W_X_findVersion h h' := by
  unfold f_X_findVersion at hf
  rcases lk_some hf with ⟨x32, el33, hf⟩ | ⟨x32r, el33, hf⟩
  · skip
    have K34 := (Keep.refl W_X_findVersion _).trans (kl_X_findVersion_2 (C := C) (mi := mi) el33)
    obtain ⟨rfl, rfl⟩ := Prod.mk.inj (Option.some.inj hf)
    exact K34
  · skip
    have K35 := (Keep.refl W_X_findVersion _).trans (kl_X_findVersion_2 (C := C) (mi := mi) el33)
    cases (Option.some.inj hf)
    exact K35
theorem c_X_findVersion {l : Launch} {C : Ct} {mi : Nat} {a0 : Nat} {p1 : Int32} {h h' : Hp} {v : Option Nat} (hf : f_X_findVersion a0 p1 h = some (v, h')) : Mt l C mi m_X_findVersion 3 [vr (some a0), vi p1] h (some (vr v)) h' := mt_R rfl (Or.inl ⟨_, rfl⟩) rfl (by decide) (Nat.le_of_ble_eq_true rfl) (zf_X_findVersion hf)
-- VersionMaps.at(III)J
def m_X_at : Mi := (⟨"VersionMaps", "at", "(III)J"⟩, prog_1_method_5_code, 5, (Option.some Jvm.ClassFile.FieldType.long), .lreturn)
theorem cw_X_at : cw_ok m_X_at 3 := ⟨by decide +kernel, by decide +kernel, by decide +kernel, by decide +kernel⟩
theorem im_X_at : Cond.instanceMethod m_X_at.1 ∈ lw_w := by decide +kernel
theorem se_X_at : Cond.selects "VersionMaps" m_X_at.1 m_X_at.1 ∈ lw_w := by decide +kernel
theorem d_X_at_0 : decode prog_1_method_5_code 0 = .ok (.aload_n 0, 1) := by decide +kernel
theorem d_X_at_1 : decode prog_1_method_5_code 1 = .ok (.iload_n 1, 1) := by decide +kernel
theorem d_X_at_2 : decode prog_1_method_5_code 2 = .ok (.invokevirtual 79, 3) := by decide +kernel
theorem d_X_at_5 : decode prog_1_method_5_code 5 = .ok (.astore 4, 2) := by decide +kernel
theorem d_X_at_7 : decode prog_1_method_5_code 7 = .ok (.aload 4, 2) := by decide +kernel
theorem d_X_at_9 : decode prog_1_method_5_code 9 = .ok (.ifnull 11, 3) := by decide +kernel
theorem d_X_at_12 : decode prog_1_method_5_code 12 = .ok (.iload_n 2, 1) := by decide +kernel
theorem d_X_at_13 : decode prog_1_method_5_code 13 = .ok (.iload_n 3, 1) := by decide +kernel
theorem d_X_at_14 : decode prog_1_method_5_code 14 = .ok (.invokestatic 56, 3) := by decide +kernel
theorem d_X_at_17 : decode prog_1_method_5_code 17 = .ok (.ifCond .ne 7, 3) := by decide +kernel
theorem d_X_at_20 : decode prog_1_method_5_code 20 = .ok (.ldc2_w 71, 3) := by decide +kernel
theorem d_X_at_23 : decode prog_1_method_5_code 23 = .ok (.lreturn, 1) := by decide +kernel
theorem d_X_at_24 : decode prog_1_method_5_code 24 = .ok (.aload 4, 2) := by decide +kernel
theorem d_X_at_26 : decode prog_1_method_5_code 26 = .ok (.getfield 83, 3) := by decide +kernel
theorem d_X_at_29 : decode prog_1_method_5_code 29 = .ok (.ifnonnull 9, 3) := by decide +kernel
theorem d_X_at_32 : decode prog_1_method_5_code 32 = .ok (.ldc2_w 77, 3) := by decide +kernel
theorem d_X_at_35 : decode prog_1_method_5_code 35 = .ok (.goto 13, 3) := by decide +kernel
theorem d_X_at_38 : decode prog_1_method_5_code 38 = .ok (.aload 4, 2) := by decide +kernel
theorem d_X_at_40 : decode prog_1_method_5_code 40 = .ok (.getfield 83, 3) := by decide +kernel
theorem d_X_at_43 : decode prog_1_method_5_code 43 = .ok (.iload_n 2, 1) := by decide +kernel
theorem d_X_at_44 : decode prog_1_method_5_code 44 = .ok (.iload_n 3, 1) := by decide +kernel
theorem d_X_at_45 : decode prog_1_method_5_code 45 = .ok (.invokevirtual 87, 3) := by decide +kernel
theorem d_X_at_48 : decode prog_1_method_5_code 48 = .ok (.lreturn, 1) := by decide +kernel
def W_X_at : Wl := ([], [])
def f_X_at (a0 : Nat) (p1 : Int32) (p2 : Int32) (p3 : Int32) (h : Hp) : Option (Int64 × Hp) :=
  gd (isK h a0 0) (cl (f_X_findVersion a0 p1 h) fun v4 h2 => if v4 = none then (some ((2199023255552 : Int64), h2)) else (cl (f_X_isKey p2 p3 h2) fun v9 h7 => if v9 = 0 then (some ((2199023255552 : Int64), h7)) else (dr v4 fun a12 => gd (isK h7 a12 7) (if (hpR h7 a12 1) = none then (some ((1099511627776 : Int64), h7)) else (dr (hpR h7 a12 1) fun a16 => gd (isK h7 a16 4) (cl (f_E_valueOf a16 p2 p3 h7) fun v21 h19 => some (v21, h19)))))))
set_option maxRecDepth 100000 in
set_option maxHeartbeats 4000000 in
theorem zf_X_at {l : Launch} {C : Ct} {mi : Nat} {a0 : Nat} {p1 : Int32} {p2 : Int32} {p3 : Int32} {h h' : Hp} {v : Int64} (hf : f_X_at a0 p1 p2 p3 h = some (v, h')) : Z l C mi m_X_at 4 0 [(0, vr (some a0)), (1, vi p1), (2, vi p2), (3, vi p3)] [] h (some (vl v)) h' := by
  unfold f_X_at at hf
  refine z_aload_n 0 d_X_at_0 rfl rfl ?_
  refine z_iload_n 1 d_X_at_1 rfl rfl ?_
  obtain ⟨g1, hf⟩ := gd_some hf
  obtain ⟨v4, h2, ec3, hf⟩ := cl_some hf
  refine z_callVx rfl (c_X_findVersion ec3) d_X_at_2 cw_X_findVersion lk_X_79 im_X_findVersion se_X_findVersion (kc_K (isK_eq g1) kc_0) ⟨by decide, by decide⟩ (Nat.le_of_ble_eq_true rfl) rfl ?_
  refine z_astore (ls2 := [(4, vr v4), (0, vr (some a0)), (1, vi p1), (2, vi p2), (3, vi p3)]) d_X_at_5 (by decide) rfl ?_
  refine z_aload 0 d_X_at_7 rfl ?_
  refine z_ifnull (tgt := 20) d_X_at_9 (by decide) (fun c6 => ?_) (fun c6 => ?_)
  · rw [if_pos c6] at hf
    refine z_ldc2 (v := (2199023255552 : Int64)) d_X_at_20 (by decide +kernel) ?_
    obtain ⟨rfl, rfl⟩ := Prod.mk.inj (Option.some.inj hf)
    exact z_ret d_X_at_23 rfl
  · rw [if_neg c6] at hf
    refine z_iload_n 3 d_X_at_12 rfl rfl ?_
    refine z_iload_n 4 d_X_at_13 rfl rfl ?_
    obtain ⟨v9, h7, ec8, hf⟩ := cl_some hf
    refine z_callS (c_X_isKey ec8) d_X_at_14 cw_X_isKey lk_X_56 (by decide +kernel) ⟨by decide, by decide⟩ (Nat.le_of_ble_eq_true rfl) rfl ?_
    refine z_if_ne (tgt := 24) d_X_at_17 (by decide) (fun c11 => ?_) (fun c11 => ?_)
    · rw [if_neg c11] at hf
      refine z_aload 0 d_X_at_24 rfl ?_
      obtain ⟨a12, e13, hf⟩ := dr_some hf
      obtain ⟨g14, hf⟩ := gd_some hf
      refine z_getR d_X_at_26 (fl_K (isK_eq g14) fl_X_83_7) (fi_K (isK_eq g14) rfl) e13 ?_
      refine z_ifnonnull (tgt := 38) d_X_at_29 (by decide) (fun c15 => ?_) (fun c15 => ?_)
      · rw [if_neg c15] at hf
        refine z_aload 0 d_X_at_38 rfl ?_
        refine z_getR d_X_at_40 (fl_K (isK_eq g14) fl_X_83_7) (fi_K (isK_eq g14) rfl) e13 ?_
        refine z_iload_n 3 d_X_at_43 rfl rfl ?_
        refine z_iload_n 4 d_X_at_44 rfl rfl ?_
        obtain ⟨a16, e17, hf⟩ := dr_some hf
        obtain ⟨g18, hf⟩ := gd_some hf
        obtain ⟨v21, h19, ec20, hf⟩ := cl_some hf
        refine z_callVx e17 (c_E_valueOf ec20) d_X_at_45 cw_E_valueOf lk_X_87 im_E_valueOf se_E_valueOf (kc_K (isK_eq g18) kc_4) ⟨by decide, by decide⟩ (Nat.le_of_ble_eq_true rfl) rfl ?_
        obtain ⟨rfl, rfl⟩ := Prod.mk.inj (Option.some.inj hf)
        exact z_ret d_X_at_48 rfl
      · rw [if_pos c15] at hf
        refine z_ldc2 (v := (1099511627776 : Int64)) d_X_at_32 (by decide +kernel) ?_
        refine z_goto (tgt := 48) d_X_at_35 (by decide) ?_
        obtain ⟨rfl, rfl⟩ := Prod.mk.inj (Option.some.inj hf)
        exact z_ret d_X_at_48 rfl
    · rw [if_pos c11] at hf
      refine z_ldc2 (v := (2199023255552 : Int64)) d_X_at_20 (by decide +kernel) ?_
      obtain ⟨rfl, rfl⟩ := Prod.mk.inj (Option.some.inj hf)
      exact z_ret d_X_at_23 rfl
set_option maxRecDepth 100000 in
set_option maxHeartbeats 4000000 in
theorem fr_X_at {C : Ct} {mi : Nat} {a0 : Nat} {p1 : Int32} {p2 : Int32} {p3 : Int32} {h h' : Hp} {v : Int64} (hf : f_X_at a0 p1 p2 p3 h = some (v, h')) : Keep W_X_at h h' := by
  unfold f_X_at at hf
  obtain ⟨g1, hf⟩ := gd_some hf
  obtain ⟨v4, h2, ec3, hf⟩ := cl_some hf
  have K5 := (Keep.refl W_X_at _).trans ((fr_X_findVersion (C := C) (mi := mi) ec3).mono (by decide) (by decide))
  rcases Classical.em (v4 = none) with c6 | c6
  · rw [if_pos c6] at hf
    obtain ⟨rfl, rfl⟩ := Prod.mk.inj (Option.some.inj hf)
    exact K5
  · rw [if_neg c6] at hf
    obtain ⟨v9, h7, ec8, hf⟩ := cl_some hf
    have K10 := K5.trans ((fr_X_isKey (C := C) (mi := mi) ec8).mono (by decide) (by decide))
    rcases (Classical.em (v9 = 0)).symm with c11 | c11
    · rw [if_neg c11] at hf
      obtain ⟨a12, e13, hf⟩ := dr_some hf
      obtain ⟨g14, hf⟩ := gd_some hf
      rcases (Classical.em ((hpR h7 a12 1) = none)).symm with c15 | c15
      · rw [if_neg c15] at hf
        obtain ⟨a16, e17, hf⟩ := dr_some hf
        obtain ⟨g18, hf⟩ := gd_some hf
        obtain ⟨v21, h19, ec20, hf⟩ := cl_some hf
        have K22 := K10.trans ((fr_E_valueOf (C := C) (mi := mi) ec20).mono (by decide) (by decide))
        obtain ⟨rfl, rfl⟩ := Prod.mk.inj (Option.some.inj hf)
        exact K22
      · rw [if_pos c15] at hf
        obtain ⟨rfl, rfl⟩ := Prod.mk.inj (Option.some.inj hf)
        exact K10
    · rw [if_pos c11] at hf
      obtain ⟨rfl, rfl⟩ := Prod.mk.inj (Option.some.inj hf)
      exact K10
theorem c_X_at {l : Launch} {C : Ct} {mi : Nat} {a0 : Nat} {p1 : Int32} {p2 : Int32} {p3 : Int32} {h h' : Hp} {v : Int64} (hf : f_X_at a0 p1 p2 p3 h = some (v, h')) : Mt l C mi m_X_at 4 [vr (some a0), vi p1, vi p2, vi p3] h (some (vl v)) h' := mt_L rfl rfl (by decide) (Nat.le_of_ble_eq_true rfl) (zf_X_at hf)
-- VersionMaps.next(II)I
def m_X_next : Mi := (⟨"VersionMaps", "next", "(II)I"⟩, prog_1_method_6_code, 4, (Option.some Jvm.ClassFile.FieldType.int), .ireturn)
theorem cw_X_next : cw_ok m_X_next 2 := ⟨by decide +kernel, by decide +kernel, by decide +kernel, by decide +kernel⟩
theorem im_X_next : Cond.instanceMethod m_X_next.1 ∈ lw_w := by decide +kernel
theorem se_X_next : Cond.selects "VersionMaps" m_X_next.1 m_X_next.1 ∈ lw_w := by decide +kernel
theorem d_X_next_0 : decode prog_1_method_6_code 0 = .ok (.iload_n 1, 1) := by decide +kernel
theorem d_X_next_1 : decode prog_1_method_6_code 1 = .ok (.invokestatic 92, 3) := by decide +kernel
theorem d_X_next_4 : decode prog_1_method_6_code 4 = .ok (.ifCond .ne 5, 3) := by decide +kernel
theorem d_X_next_7 : decode prog_1_method_6_code 7 = .ok (.iconst (-1), 1) := by decide +kernel
theorem d_X_next_8 : decode prog_1_method_6_code 8 = .ok (.ireturn, 1) := by decide +kernel
theorem d_X_next_9 : decode prog_1_method_6_code 9 = .ok (.iload_n 2, 1) := by decide +kernel
theorem d_X_next_10 : decode prog_1_method_6_code 10 = .ok (.iconst 0, 1) := by decide +kernel
theorem d_X_next_11 : decode prog_1_method_6_code 11 = .ok (.invokestatic 96, 3) := by decide +kernel
theorem d_X_next_14 : decode prog_1_method_6_code 14 = .ok (.istore_n 3, 1) := by decide +kernel
theorem d_X_next_15 : decode prog_1_method_6_code 15 = .ok (.iload_n 3, 1) := by decide +kernel
theorem d_X_next_16 : decode prog_1_method_6_code 16 = .ok (.bipush 32, 2) := by decide +kernel
theorem d_X_next_18 : decode prog_1_method_6_code 18 = .ok (.if_icmp .ge 23, 3) := by decide +kernel
theorem d_X_next_21 : decode prog_1_method_6_code 21 = .ok (.aload_n 0, 1) := by decide +kernel
theorem d_X_next_22 : decode prog_1_method_6_code 22 = .ok (.getfield 10, 3) := by decide +kernel
theorem d_X_next_25 : decode prog_1_method_6_code 25 = .ok (.iload_n 1, 1) := by decide +kernel
theorem d_X_next_26 : decode prog_1_method_6_code 26 = .ok (.iload_n 3, 1) := by decide +kernel
theorem d_X_next_27 : decode prog_1_method_6_code 27 = .ok (.invokevirtual 60, 3) := by decide +kernel
theorem d_X_next_30 : decode prog_1_method_6_code 30 = .ok (.ifCond .eq 5, 3) := by decide +kernel
theorem d_X_next_33 : decode prog_1_method_6_code 33 = .ok (.iload_n 3, 1) := by decide +kernel
theorem d_X_next_34 : decode prog_1_method_6_code 34 = .ok (.ireturn, 1) := by decide +kernel
theorem d_X_next_35 : decode prog_1_method_6_code 35 = .ok (.iinc 3 1, 3) := by decide +kernel
theorem d_X_next_38 : decode prog_1_method_6_code 38 = .ok (.goto (-23), 3) := by decide +kernel
theorem d_X_next_41 : decode prog_1_method_6_code 41 = .ok (.bipush (-3), 2) := by decide +kernel
theorem d_X_next_43 : decode prog_1_method_6_code 43 = .ok (.ireturn, 1) := by decide +kernel
def W_X_next : Wl := ([], [])
def b_X_next_15 (y0 : Nat) (y1 : Int32) (y3 : Int32) (h : Hp) : Option ((Int32 × Hp) ⊕ ((Hp) ⊕ (Int32 × Hp))) :=
  if (nI 32) ≤ y3 then (some (.inr (.inl h))) else (gd (isK h y0 0) (dr (hpR h y0 0) fun a8 => gd (isK h a8 5) (cl (f_P_has a8 y1 y3 h) fun v13 h11 => if v13 = 0 then (some (.inl ((y3 + (1 : Int32)), h11))) else (some (.inr (.inr (y3, h11)))))))
set_option maxRecDepth 100000 in
set_option maxHeartbeats 4000000 in
theorem zb_X_next_15 {l : Launch} {C : Ct} {mi : Nat} {y0 : Nat} {y1 : Int32} {y3 : Int32} {h h' : Hp} {v : Int32} {q : ((Int32 × Hp) ⊕ ((Hp) ⊕ (Int32 × Hp)))} (hf : b_X_next_15 y0 y1 y3 h = some q) (kc : ∀ s, q = .inl s → Z l C mi m_X_next 1 15 [(0, vr (some y0)), (1, vi y1), (3, vi s.1)] [] s.2 (some (vi v)) h') (ke : ∀ x, q = .inr (.inl x) → Z l C mi m_X_next 1 41 [] [] x (some (vi v)) h') (kr : ∀ rv rh, q = .inr (.inr (rv, rh)) → v = rv ∧ h' = rh) : Z l C mi m_X_next 1 15 [(0, vr (some y0)), (1, vi y1), (3, vi y3)] [] h (some (vi v)) h' := by
  unfold b_X_next_15 at hf
  refine z_iload_n 2 d_X_next_15 rfl rfl ?_
  refine z_bipush (v := (nI 32)) d_X_next_16 (by decide) ?_
  refine z_icmp_ge (tgt := 41) d_X_next_18 (by decide) (fun c6 => ?_) (fun c6 => ?_)
  · rw [if_pos c6] at hf
    refine z_ls [] rfl ?_
    exact ke h (Option.some.inj hf).symm
  · rw [if_neg c6] at hf
    refine z_aload_n 0 d_X_next_21 rfl rfl ?_
    obtain ⟨g7, hf⟩ := gd_some hf
    refine z_getR d_X_next_22 (fl_K (isK_eq g7) fl_X_10_0) (fi_K (isK_eq g7) rfl) rfl ?_
    refine z_iload_n 1 d_X_next_25 rfl rfl ?_
    refine z_iload_n 2 d_X_next_26 rfl rfl ?_
    obtain ⟨a8, e9, hf⟩ := dr_some hf
    obtain ⟨g10, hf⟩ := gd_some hf
    obtain ⟨v13, h11, ec12, hf⟩ := cl_some hf
    refine z_callVx e9 (c_P_has ec12) d_X_next_27 cw_P_has lk_X_60 im_P_has se_P_has (kc_K (isK_eq g10) kc_5) ⟨by decide, by decide⟩ (Nat.le_of_ble_eq_true rfl) rfl ?_
    refine z_if_eq (tgt := 35) d_X_next_30 (by decide) (fun c15 => ?_) (fun c15 => ?_)
    · rw [if_pos c15] at hf
      refine z_iinc (ls2 := [(3, vi (y3 + (1 : Int32))), (0, vr (some y0)), (1, vi y1)]) 2 d_X_next_35 rfl rfl (by decide) rfl ?_
      refine z_goto (tgt := 15) d_X_next_38 (by decide) ?_
      refine z_ls [1, 2, 0] rfl ?_
      exact kc ((y3 + (1 : Int32)), h11) (Option.some.inj hf).symm
    · rw [if_neg c15] at hf
      refine z_iload_n 2 d_X_next_33 rfl rfl ?_
      obtain ⟨rfl, rfl⟩ := kr _ _ (Option.some.inj hf).symm
      exact z_ret d_X_next_34 rfl
set_option maxRecDepth 100000 in
set_option maxHeartbeats 4000000 in
theorem kb_X_next_15 {C : Ct} {mi : Nat} {y0 : Nat} {y1 : Int32} {y3 : Int32} {h : Hp} {q : ((Int32 × Hp) ⊕ ((Hp) ⊕ (Int32 × Hp)))} (hf : b_X_next_15 y0 y1 y3 h = some q) : Keep W_X_next h (Sum.elim (fun s : Int32 × Hp => s.2) (Sum.elim (fun x : Hp => x) (fun r : (Int32 × Hp) => r.2)) q) := by
  unfold b_X_next_15 at hf
  rcases Classical.em ((nI 32) ≤ y3) with c6 | c6
  · rw [if_pos c6] at hf
    cases (Option.some.inj hf)
    exact (Keep.refl W_X_next _)
  · rw [if_neg c6] at hf
    obtain ⟨g7, hf⟩ := gd_some hf
    obtain ⟨a8, e9, hf⟩ := dr_some hf
    obtain ⟨g10, hf⟩ := gd_some hf
    obtain ⟨v13, h11, ec12, hf⟩ := cl_some hf
    have K14 := (Keep.refl W_X_next _).trans ((fr_P_has (C := C) (mi := mi) ec12).mono (by decide) (by decide))
    rcases Classical.em (v13 = 0) with c15 | c15
    · rw [if_pos c15] at hf
      cases (Option.some.inj hf)
      exact K14
    · rw [if_neg c15] at hf
      cases (Option.some.inj hf)
      exact K14
def l_X_next_15 (y0 : Nat) (y1 : Int32) (s : Int32 × Hp) : Option ((Hp) ⊕ (Int32 × Hp)) := lp (fun s => b_X_next_15 y0 y1 s.1 s.2) FU s
theorem zzl_X_next_15 {l : Launch} {C : Ct} {mi : Nat} {y0 : Nat} {y1 : Int32} {h' : Hp} {v : Int32} : ∀ (n : Nat) (s : Int32 × Hp) (q : ((Hp) ⊕ (Int32 × Hp))), lp (fun s : Int32 × Hp => b_X_next_15 y0 y1 s.1 s.2) n s = some q → (∀ x, q = .inl x → Z l C mi m_X_next 1 41 [] [] x (some (vi v)) h') → (∀ rv rh, q = .inr (rv, rh) → v = rv ∧ h' = rh) → Z l C mi m_X_next 1 15 [(0, vr (some y0)), (1, vi y1), (3, vi s.1)] [] s.2 (some (vi v)) h' := by
  intro n
  induction n with
  | zero => intro s q hl; cases hl
  | succ n ih =>
    intro s q hl ke kr
    rcases lp_some hl with ⟨s2, hb, hl2⟩ | hb
    · exact zb_X_next_15 hb (fun s3 e3 => by cases e3; refine z_ls [0, 1, 2] rfl ?_; exact ih s2 q hl2 ke kr) (fun x e3 => by cases e3) (fun rv rh e3 => by cases e3)
    · exact zb_X_next_15 hb (fun s3 e3 => by cases e3) (fun x e3 => ke x (Sum.inr.inj e3)) (fun rv rh e3 => kr rv rh (Sum.inr.inj e3))
theorem zl_X_next_15 {l : Launch} {C : Ct} {mi : Nat} {y0 : Nat} {y1 : Int32} {h' : Hp} {v : Int32} {s : Int32 × Hp} {q : ((Hp) ⊕ (Int32 × Hp))} (hl : l_X_next_15 y0 y1 s = some q) (ke : ∀ x, q = .inl x → Z l C mi m_X_next 1 41 [] [] x (some (vi v)) h') (kr : ∀ rv rh, q = .inr (rv, rh) → v = rv ∧ h' = rh) : Z l C mi m_X_next 1 15 [(0, vr (some y0)), (1, vi y1), (3, vi s.1)] [] s.2 (some (vi v)) h' := zzl_X_next_15 FU s q hl ke kr
theorem kl_X_next_15 {C : Ct} {mi : Nat} {y0 : Nat} {y1 : Int32} {s : Int32 × Hp} {q : ((Hp) ⊕ (Int32 × Hp))} (hl : l_X_next_15 y0 y1 s = some q) : Keep W_X_next s.2 ((Sum.elim (fun x : Hp => x) (fun r : (Int32 × Hp) => r.2)) q) := lpk (sh := (fun s : Int32 × Hp => s.2)) (rh := (Sum.elim (fun x : Hp => x) (fun r : (Int32 × Hp) => r.2))) (fun s q hb => kb_X_next_15 (C := C) (mi := mi) hb) FU s q hl
def f_X_next (a0 : Nat) (p1 : Int32) (p2 : Int32) (h : Hp) : Option (Int32 × Hp) :=
  cl (f_X_isMap p1 h) fun v3 h1 => if v3 = 0 then (some ((-1 : Int32), h1)) else (lk (l_X_next_15 a0 p1 ((if p2 < (0 : Int32) then (0 : Int32) else p2), h1)) (fun x16 => some ((-3 : Int32), x16)) some)
set_option maxRecDepth 100000 in
set_option maxHeartbeats 4000000 in
theorem zf_X_next {l : Launch} {C : Ct} {mi : Nat} {a0 : Nat} {p1 : Int32} {p2 : Int32} {h h' : Hp} {v : Int32} (hf : f_X_next a0 p1 p2 h = some (v, h')) : Z l C mi m_X_next 1 0 [(0, vr (some a0)), (1, vi p1), (2, vi p2)] [] h (some (vi v)) h' := by
  unfold f_X_next at hf
  refine z_iload_n 1 d_X_next_0 rfl rfl ?_
  obtain ⟨v3, h1, ec2, hf⟩ := cl_some hf
  refine z_callS (c_X_isMap ec2) d_X_next_1 cw_X_isMap lk_X_92 (by decide +kernel) ⟨by decide, by decide⟩ (Nat.le_of_ble_eq_true rfl) rfl ?_
  refine z_if_ne (tgt := 9) d_X_next_4 (by decide) (fun c5 => ?_) (fun c5 => ?_)
  · rw [if_neg c5] at hf
    refine z_iload_n 2 d_X_next_9 rfl rfl ?_
    refine z_iconst (v := (0 : Int32)) d_X_next_10 (by decide) ?_
    refine z_mmax d_X_next_11 (by decide +kernel) (by decide) (Nat.le_of_ble_eq_true rfl) ?_
    refine z_istore_n (ls2 := [(3, vi (if p2 < (0 : Int32) then (0 : Int32) else p2)), (0, vr (some a0)), (1, vi p1), (2, vi p2)]) d_X_next_14 rfl (by decide) rfl ?_
    rcases lk_some hf with ⟨x16, el17, hf⟩ | ⟨x16r, el17, hf⟩
    · skip
      refine z_ls [1, 2, 0] rfl ?_
      refine zl_X_next_15 el17 (fun x2 e2 => ?_) (fun rv rh e2 => by cases e2)
      cases e2
      refine z_bipush (v := (-3 : Int32)) d_X_next_41 (by decide) ?_
      obtain ⟨rfl, rfl⟩ := Prod.mk.inj (Option.some.inj hf)
      exact z_ret d_X_next_43 rfl
    · skip
      refine z_ls [1, 2, 0] rfl ?_
      refine zl_X_next_15 el17 (fun x2 e2 => by cases e2) (fun rv rh e2 => ?_)
      cases e2
      have e4 := Prod.mk.inj (Option.some.inj hf)
      exact ⟨e4.1.symm, e4.2.symm⟩
  · rw [if_pos c5] at hf
    refine z_iconst (v := (-1 : Int32)) d_X_next_7 (by decide) ?_
    obtain ⟨rfl, rfl⟩ := Prod.mk.inj (Option.some.inj hf)
    exact z_ret d_X_next_8 rfl
set_option maxRecDepth 100000 in
set_option maxHeartbeats 4000000 in
theorem fr_X_next {C : Ct} {mi : Nat} {a0 : Nat} {p1 : Int32} {p2 : Int32} {h h' : Hp} {v : Int32} (hf : f_X_next a0 p1 p2 h = some (v, h')) : Keep W_X_next h h' := by
  unfold f_X_next at hf
  obtain ⟨v3, h1, ec2, hf⟩ := cl_some hf
  have K4 := (Keep.refl W_X_next _).trans ((fr_X_isMap (C := C) (mi := mi) ec2).mono (by decide) (by decide))
  rcases (Classical.em (v3 = 0)).symm with c5 | c5
  · rw [if_neg c5] at hf
    rcases lk_some hf with ⟨x16, el17, hf⟩ | ⟨x16r, el17, hf⟩
    · skip
      have K18 := K4.trans (kl_X_next_15 (C := C) (mi := mi) el17)
      obtain ⟨rfl, rfl⟩ := Prod.mk.inj (Option.some.inj hf)
      exact K18
    · skip
      have K19 := K4.trans (kl_X_next_15 (C := C) (mi := mi) el17)
      cases (Option.some.inj hf)
      exact K19
  · rw [if_pos c5] at hf
    obtain ⟨rfl, rfl⟩ := Prod.mk.inj (Option.some.inj hf)
    exact K4
theorem c_X_next {l : Launch} {C : Ct} {mi : Nat} {a0 : Nat} {p1 : Int32} {p2 : Int32} {h h' : Hp} {v : Int32} (hf : f_X_next a0 p1 p2 h = some (v, h')) : Mt l C mi m_X_next 1 [vr (some a0), vi p1, vi p2] h (some (vi v)) h' := mt_I (ty := .int) rfl rfl rfl (by decide) (Nat.le_of_ble_eq_true rfl) (zf_X_next hf)
-- VersionMaps.writeToFile(LVersionMaps$Chunk;)V
def m_X_writeToFile : Mi := (⟨"VersionMaps", "writeToFile", "(LVersionMaps$Chunk;)V"⟩, prog_1_method_24_code, 2, (Option.none : Option Jvm.ClassFile.FieldType), .return_)
theorem cw_X_writeToFile : cw_ok m_X_writeToFile 1 := ⟨by decide +kernel, by decide +kernel, by decide +kernel, by decide +kernel⟩
theorem im_X_writeToFile : Cond.instanceMethod m_X_writeToFile.1 ∈ lw_w := by decide +kernel
theorem se_X_writeToFile : Cond.selects "VersionMaps" m_X_writeToFile.1 m_X_writeToFile.1 ∈ lw_w := by decide +kernel
theorem d_X_writeToFile_0 : decode prog_1_method_24_code 0 = .ok (.aload_n 0, 1) := by decide +kernel
theorem d_X_writeToFile_1 : decode prog_1_method_24_code 1 = .ok (.dup, 1) := by decide +kernel
theorem d_X_writeToFile_2 : decode prog_1_method_24_code 2 = .ok (.getfield 46, 3) := by decide +kernel
theorem d_X_writeToFile_5 : decode prog_1_method_24_code 5 = .ok (.iconst 1, 1) := by decide +kernel
theorem d_X_writeToFile_6 : decode prog_1_method_24_code 6 = .ok (.iadd, 1) := by decide +kernel
theorem d_X_writeToFile_7 : decode prog_1_method_24_code 7 = .ok (.putfield 46, 3) := by decide +kernel
theorem d_X_writeToFile_10 : decode prog_1_method_24_code 10 = .ok (.aload_n 0, 1) := by decide +kernel
theorem d_X_writeToFile_11 : decode prog_1_method_24_code 11 = .ok (.getfield 26, 3) := by decide +kernel
theorem d_X_writeToFile_14 : decode prog_1_method_24_code 14 = .ok (.aload_n 1, 1) := by decide +kernel
theorem d_X_writeToFile_15 : decode prog_1_method_24_code 15 = .ok (.invokevirtual 52, 3) := by decide +kernel
theorem d_X_writeToFile_18 : decode prog_1_method_24_code 18 = .ok (.pop, 1) := by decide +kernel
theorem d_X_writeToFile_19 : decode prog_1_method_24_code 19 = .ok (.aload_n 0, 1) := by decide +kernel
theorem d_X_writeToFile_20 : decode prog_1_method_24_code 20 = .ok (.getfield 19, 3) := by decide +kernel
theorem d_X_writeToFile_23 : decode prog_1_method_24_code 23 = .ok (.aload_n 1, 1) := by decide +kernel
theorem d_X_writeToFile_24 : decode prog_1_method_24_code 24 = .ok (.invokevirtual 241, 3) := by decide +kernel
theorem d_X_writeToFile_27 : decode prog_1_method_24_code 27 = .ok (.return_, 1) := by decide +kernel
def W_X_writeToFile : Wl := ([(0, 6), (1, 5), (9, 0), (9, 1), (9, 2)], [68, 70, 71, 72, 73, 74])
def f_X_writeToFile (E : Nat × Nat) (a0 : Nat) (p1 : Option Nat) (h : Hp) : Option Hp :=
  gd (isK h a0 0) (nm (wI h a0 6 ((hpI h a0 6) + (1 : Int32))) fun h2 => dr (hpR h2 a0 2) fun a5 => gd (isK h2 a5 9) (cl (f_A_add1 E a5 p1 h2) fun v10 h8 => gd (isK h8 a0 0) (dr (hpR h8 a0 1) fun a13 => gd (isK h8 a13 1) (cv (f_F_write a13 p1 h8) fun h16 => some h16))))
set_option maxRecDepth 100000 in
set_option maxHeartbeats 4000000 in
theorem zf_X_writeToFile {l : Launch} {C : Ct} {mi : Nat} {a0 : Nat} {p1 : Option Nat} {h h' : Hp} (hf : f_X_writeToFile (cE C, mi) a0 p1 h = some h') : Z l C mi m_X_writeToFile 7 0 [(0, vr (some a0)), (1, vr p1)] [] h none h' := by
  unfold f_X_writeToFile at hf
  refine z_aload_n 0 d_X_writeToFile_0 rfl rfl ?_
  refine z_dup d_X_writeToFile_1 rfl ?_
  obtain ⟨g1, hf⟩ := gd_some hf
  refine z_getI d_X_writeToFile_2 (fl_K (isK_eq g1) fl_X_46_0) (fi_K (isK_eq g1) rfl) rfl ?_
  refine z_iconst (v := (1 : Int32)) d_X_writeToFile_5 (by decide) ?_
  refine z_iadd d_X_writeToFile_6 ?_
  obtain ⟨h2, eh3, hf⟩ := nm_some hf
  refine z_putI d_X_writeToFile_7 (fl_K (isK_eq g1) fl_X_46_0) (pu_K (isK_eq g1) (fun q hq => by cases (Option.some.inj hq); exact Or.inl rfl)) (fi_K (isK_eq g1) rfl) rfl ?_
  refine z_hp eh3 ?_
  refine z_aload_n 0 d_X_writeToFile_10 rfl rfl ?_
  refine z_getR d_X_writeToFile_11 (fl_K (isK_eq (isK_wI eh3 g1)) fl_X_26_0) (fi_K (isK_eq (isK_wI eh3 g1)) rfl) rfl ?_
  refine z_aload_n 1 d_X_writeToFile_14 rfl rfl ?_
  obtain ⟨a5, e6, hf⟩ := dr_some hf
  obtain ⟨g7, hf⟩ := gd_some hf
  obtain ⟨v10, h8, ec9, hf⟩ := cl_some hf
  refine z_callVx e6 (c_A_add1 ec9) d_X_writeToFile_15 cw_A_add1 lk_X_52 im_A_add1 se_A_add1 (kc_K (isK_eq g7) kc_9) ⟨by decide, by decide⟩ (Nat.le_of_ble_eq_true rfl) rfl ?_
  refine z_pop d_X_writeToFile_18 rfl ?_
  refine z_aload_n 0 d_X_writeToFile_19 rfl rfl ?_
  obtain ⟨g12, hf⟩ := gd_some hf
  refine z_getR d_X_writeToFile_20 (fl_K (isK_eq g12) fl_X_19_0) (fi_K (isK_eq g12) rfl) rfl ?_
  refine z_aload_n 1 d_X_writeToFile_23 rfl rfl ?_
  obtain ⟨a13, e14, hf⟩ := dr_some hf
  obtain ⟨g15, hf⟩ := gd_some hf
  obtain ⟨h16, ec17, hf⟩ := cv_some hf
  refine z_callVx e14 (c_F_write ec17) d_X_writeToFile_24 cw_F_write lk_X_241 im_F_write se_F_write (kc_K (isK_eq g15) kc_1) ⟨by decide, by decide⟩ (Nat.le_of_ble_eq_true rfl) rfl ?_
  cases (Option.some.inj hf)
  exact z_ret d_X_writeToFile_27 rfl
set_option maxRecDepth 100000 in
set_option maxHeartbeats 4000000 in
theorem fr_X_writeToFile {C : Ct} {mi : Nat} {a0 : Nat} {p1 : Option Nat} {h h' : Hp} (hf : f_X_writeToFile (cE C, mi) a0 p1 h = some h') : Keep W_X_writeToFile h h' := by
  unfold f_X_writeToFile at hf
  obtain ⟨g1, hf⟩ := gd_some hf
  obtain ⟨h2, eh3, hf⟩ := nm_some hf
  have K4 := (Keep.refl W_X_writeToFile _).trans (kw_I eh3 (isK_eq g1) (Or.inl (by decide)))
  obtain ⟨a5, e6, hf⟩ := dr_some hf
  obtain ⟨g7, hf⟩ := gd_some hf
  obtain ⟨v10, h8, ec9, hf⟩ := cl_some hf
  have K11 := K4.trans ((fr_A_add1 (C := C) (mi := mi) ec9).mono (by decide) (by decide))
  obtain ⟨g12, hf⟩ := gd_some hf
  obtain ⟨a13, e14, hf⟩ := dr_some hf
  obtain ⟨g15, hf⟩ := gd_some hf
  obtain ⟨h16, ec17, hf⟩ := cv_some hf
  have K18 := K11.trans ((fr_F_write (C := C) (mi := mi) ec17).mono (by decide) (by decide))
  cases (Option.some.inj hf)
  exact K18
theorem c_X_writeToFile {l : Launch} {C : Ct} {mi : Nat} {a0 : Nat} {p1 : Option Nat} {h h' : Hp} (hf : f_X_writeToFile (cE C, mi) a0 p1 h = some h') : Mt l C mi m_X_writeToFile 7 [vr (some a0), vr p1] h none h' := mt_V rfl rfl (by decide) (Nat.le_of_ble_eq_true rfl) (zf_X_writeToFile hf)
-- VersionMaps.markLivePages()V
def m_X_markLivePages : Mi := (⟨"VersionMaps", "markLivePages", "()V"⟩, prog_1_method_27_code, 3, (Option.none : Option Jvm.ClassFile.FieldType), .return_)
theorem cw_X_markLivePages : cw_ok m_X_markLivePages 0 := ⟨by decide +kernel, by decide +kernel, by decide +kernel, by decide +kernel⟩
theorem im_X_markLivePages : Cond.instanceMethod m_X_markLivePages.1 ∈ lw_w := by decide +kernel
theorem se_X_markLivePages : Cond.selects "VersionMaps" m_X_markLivePages.1 m_X_markLivePages.1 ∈ lw_w := by decide +kernel
theorem d_X_markLivePages_0 : decode prog_1_method_27_code 0 = .ok (.aload_n 0, 1) := by decide +kernel
theorem d_X_markLivePages_1 : decode prog_1_method_27_code 1 = .ok (.dup, 1) := by decide +kernel
theorem d_X_markLivePages_2 : decode prog_1_method_27_code 2 = .ok (.getfield 49, 3) := by decide +kernel
theorem d_X_markLivePages_5 : decode prog_1_method_27_code 5 = .ok (.iconst 1, 1) := by decide +kernel
theorem d_X_markLivePages_6 : decode prog_1_method_27_code 6 = .ok (.iadd, 1) := by decide +kernel
theorem d_X_markLivePages_7 : decode prog_1_method_27_code 7 = .ok (.putfield 49, 3) := by decide +kernel
theorem d_X_markLivePages_10 : decode prog_1_method_27_code 10 = .ok (.iconst 0, 1) := by decide +kernel
theorem d_X_markLivePages_11 : decode prog_1_method_27_code 11 = .ok (.istore_n 1, 1) := by decide +kernel
theorem d_X_markLivePages_12 : decode prog_1_method_27_code 12 = .ok (.iload_n 1, 1) := by decide +kernel
theorem d_X_markLivePages_13 : decode prog_1_method_27_code 13 = .ok (.aload_n 0, 1) := by decide +kernel
theorem d_X_markLivePages_14 : decode prog_1_method_27_code 14 = .ok (.getfield 30, 3) := by decide +kernel
theorem d_X_markLivePages_17 : decode prog_1_method_27_code 17 = .ok (.invokevirtual 183, 3) := by decide +kernel
theorem d_X_markLivePages_20 : decode prog_1_method_27_code 20 = .ok (.if_icmp .ge 36, 3) := by decide +kernel
theorem d_X_markLivePages_23 : decode prog_1_method_27_code 23 = .ok (.aload_n 0, 1) := by decide +kernel
theorem d_X_markLivePages_24 : decode prog_1_method_27_code 24 = .ok (.getfield 30, 3) := by decide +kernel
theorem d_X_markLivePages_27 : decode prog_1_method_27_code 27 = .ok (.iload_n 1, 1) := by decide +kernel
theorem d_X_markLivePages_28 : decode prog_1_method_27_code 28 = .ok (.invokevirtual 186, 3) := by decide +kernel
theorem d_X_markLivePages_31 : decode prog_1_method_27_code 31 = .ok (.checkcast 33, 3) := by decide +kernel
theorem d_X_markLivePages_34 : decode prog_1_method_27_code 34 = .ok (.getfield 83, 3) := by decide +kernel
theorem d_X_markLivePages_37 : decode prog_1_method_27_code 37 = .ok (.astore_n 2, 1) := by decide +kernel
theorem d_X_markLivePages_38 : decode prog_1_method_27_code 38 = .ok (.aload_n 2, 1) := by decide +kernel
theorem d_X_markLivePages_39 : decode prog_1_method_27_code 39 = .ok (.ifnull 11, 3) := by decide +kernel
theorem d_X_markLivePages_42 : decode prog_1_method_27_code 42 = .ok (.aload_n 2, 1) := by decide +kernel
theorem d_X_markLivePages_43 : decode prog_1_method_27_code 43 = .ok (.aload_n 0, 1) := by decide +kernel
theorem d_X_markLivePages_44 : decode prog_1_method_27_code 44 = .ok (.getfield 49, 3) := by decide +kernel
theorem d_X_markLivePages_47 : decode prog_1_method_27_code 47 = .ok (.invokevirtual 250, 3) := by decide +kernel
theorem d_X_markLivePages_50 : decode prog_1_method_27_code 50 = .ok (.iinc 1 1, 3) := by decide +kernel
theorem d_X_markLivePages_53 : decode prog_1_method_27_code 53 = .ok (.goto (-41), 3) := by decide +kernel
theorem d_X_markLivePages_56 : decode prog_1_method_27_code 56 = .ok (.return_, 1) := by decide +kernel
def W_X_markLivePages : Wl := ([(0, 7), (3, 2), (4, 2), (6, 2)], [])
def b_X_markLivePages_12 (y0 : Nat) (y1 : Int32) (h : Hp) : Option ((Int32 × Hp) ⊕ (Hp)) :=
  gd (isK h y0 0) (dr (hpR h y0 3) fun a6 => gd (isK h a6 9) (cl (f_A_size a6 h) fun v11 h9 => if v11 ≤ y1 then (some (.inr h9)) else (gd (isK h9 y0 0) (dr (hpR h9 y0 3) fun a15 => gd (isK h9 a15 9) (cl (f_A_get a15 y1 h9) fun v20 h18 => gd (caB h18 v20 7) (dr v20 fun a23 => gd (isK h18 a23 7) (if (hpR h18 a23 1) = none then (some (.inl ((y1 + (1 : Int32)), h18))) else (gd (isK h18 y0 0) (dr (hpR h18 a23 1) fun a28 => gd (isK h18 a28 4) (cv (f_E_markLive a28 (hpI h18 y0 7) h18) fun h31 => some (.inl ((y1 + (1 : Int32)), h31))))))))))))
set_option maxRecDepth 100000 in
set_option maxHeartbeats 4000000 in
theorem zb_X_markLivePages_12 {l : Launch} {C : Ct} {mi : Nat} {y0 : Nat} {y1 : Int32} {h h' : Hp} {q : ((Int32 × Hp) ⊕ (Hp))} (hf : b_X_markLivePages_12 y0 y1 h = some q) (kc : ∀ s, q = .inl s → Z l C mi m_X_markLivePages 3 12 [(0, vr (some y0)), (1, vi s.1)] [] s.2 none h') (ke : ∀ x, q = .inr x → Z l C mi m_X_markLivePages 3 56 [] [] x none h') : Z l C mi m_X_markLivePages 3 12 [(0, vr (some y0)), (1, vi y1)] [] h none h' := by
  unfold b_X_markLivePages_12 at hf
  refine z_iload_n 1 d_X_markLivePages_12 rfl rfl ?_
  refine z_aload_n 0 d_X_markLivePages_13 rfl rfl ?_
  obtain ⟨g5, hf⟩ := gd_some hf
  refine z_getR d_X_markLivePages_14 (fl_K (isK_eq g5) fl_X_30_0) (fi_K (isK_eq g5) rfl) rfl ?_
  obtain ⟨a6, e7, hf⟩ := dr_some hf
  obtain ⟨g8, hf⟩ := gd_some hf
  obtain ⟨v11, h9, ec10, hf⟩ := cl_some hf
  refine z_callVx e7 (c_A_size ec10) d_X_markLivePages_17 cw_A_size lk_X_183 im_A_size se_A_size (kc_K (isK_eq g8) kc_9) ⟨by decide, by decide⟩ (Nat.le_of_ble_eq_true rfl) rfl ?_
  refine z_icmp_ge (tgt := 56) d_X_markLivePages_20 (by decide) (fun c13 => ?_) (fun c13 => ?_)
  · rw [if_pos c13] at hf
    refine z_ls [] rfl ?_
    exact ke h9 (Option.some.inj hf).symm
  · rw [if_neg c13] at hf
    refine z_aload_n 0 d_X_markLivePages_23 rfl rfl ?_
    obtain ⟨g14, hf⟩ := gd_some hf
    refine z_getR d_X_markLivePages_24 (fl_K (isK_eq g14) fl_X_30_0) (fi_K (isK_eq g14) rfl) rfl ?_
    refine z_iload_n 1 d_X_markLivePages_27 rfl rfl ?_
    obtain ⟨a15, e16, hf⟩ := dr_some hf
    obtain ⟨g17, hf⟩ := gd_some hf
    obtain ⟨v20, h18, ec19, hf⟩ := cl_some hf
    refine z_callVx e16 (c_A_get ec19) d_X_markLivePages_28 cw_A_get lk_X_186 im_A_get se_A_get (kc_K (isK_eq g17) kc_9) ⟨by decide, by decide⟩ (Nat.le_of_ble_eq_true rfl) rfl ?_
    obtain ⟨g22, hf⟩ := gd_some hf
    refine z_cast d_X_markLivePages_31 (nm := "VersionMaps$Version") (by decide +kernel) (caB_ok (κ := 7) g22 rfl (by decide +kernel)) ?_
    obtain ⟨a23, e24, hf⟩ := dr_some hf
    obtain ⟨g25, hf⟩ := gd_some hf
    refine z_getR d_X_markLivePages_34 (fl_K (isK_eq g25) fl_X_83_7) (fi_K (isK_eq g25) rfl) e24 ?_
    refine z_astore_n (ls2 := [(2, vr (hpR h18 a23 1)), (0, vr (some y0)), (1, vi y1)]) d_X_markLivePages_37 rfl (by decide) rfl ?_
    refine z_aload_n 0 d_X_markLivePages_38 rfl rfl ?_
    refine z_ifnull (tgt := 50) d_X_markLivePages_39 (by decide) (fun c26 => ?_) (fun c26 => ?_)
    · rw [if_pos c26] at hf
      refine z_iinc (ls2 := [(1, vi (y1 + (1 : Int32))), (2, vr (hpR h18 a23 1)), (0, vr (some y0))]) 2 d_X_markLivePages_50 rfl rfl (by decide) rfl ?_
      refine z_goto (tgt := 12) d_X_markLivePages_53 (by decide) ?_
      refine z_ls [2, 0] rfl ?_
      exact kc ((y1 + (1 : Int32)), h18) (Option.some.inj hf).symm
    · rw [if_neg c26] at hf
      refine z_aload_n 0 d_X_markLivePages_42 rfl rfl ?_
      refine z_aload_n 1 d_X_markLivePages_43 rfl rfl ?_
      obtain ⟨g27, hf⟩ := gd_some hf
      refine z_getI d_X_markLivePages_44 (fl_K (isK_eq g27) fl_X_49_0) (fi_K (isK_eq g27) rfl) rfl ?_
      obtain ⟨a28, e29, hf⟩ := dr_some hf
      obtain ⟨g30, hf⟩ := gd_some hf
      obtain ⟨h31, ec32, hf⟩ := cv_some hf
      refine z_callVx e29 (c_E_markLive ec32) d_X_markLivePages_47 cw_E_markLive lk_X_250 im_E_markLive se_E_markLive (kc_K (isK_eq g30) kc_4) ⟨by decide, by decide⟩ (Nat.le_of_ble_eq_true rfl) rfl ?_
      refine z_iinc (ls2 := [(1, vi (y1 + (1 : Int32))), (2, vr (hpR h18 a23 1)), (0, vr (some y0))]) 2 d_X_markLivePages_50 rfl rfl (by decide) rfl ?_
      refine z_goto (tgt := 12) d_X_markLivePages_53 (by decide) ?_
      refine z_ls [2, 0] rfl ?_
      exact kc ((y1 + (1 : Int32)), h31) (Option.some.inj hf).symm
set_option maxRecDepth 100000 in
set_option maxHeartbeats 4000000 in
theorem kb_X_markLivePages_12 {C : Ct} {mi : Nat} {y0 : Nat} {y1 : Int32} {h : Hp} {q : ((Int32 × Hp) ⊕ (Hp))} (hf : b_X_markLivePages_12 y0 y1 h = some q) : Keep W_X_markLivePages h (Sum.elim (fun s : Int32 × Hp => s.2) (fun x : Hp => x) q) := by
  unfold b_X_markLivePages_12 at hf
  obtain ⟨g5, hf⟩ := gd_some hf
  obtain ⟨a6, e7, hf⟩ := dr_some hf
  obtain ⟨g8, hf⟩ := gd_some hf
  obtain ⟨v11, h9, ec10, hf⟩ := cl_some hf
  have K12 := (Keep.refl W_X_markLivePages _).trans ((fr_A_size (C := C) (mi := mi) ec10).mono (by decide) (by decide))
  rcases Classical.em (v11 ≤ y1) with c13 | c13
  · rw [if_pos c13] at hf
    cases (Option.some.inj hf)
    exact K12
  · rw [if_neg c13] at hf
    obtain ⟨g14, hf⟩ := gd_some hf
    obtain ⟨a15, e16, hf⟩ := dr_some hf
    obtain ⟨g17, hf⟩ := gd_some hf
    obtain ⟨v20, h18, ec19, hf⟩ := cl_some hf
    have K21 := K12.trans ((fr_A_get (C := C) (mi := mi) ec19).mono (by decide) (by decide))
    obtain ⟨g22, hf⟩ := gd_some hf
    obtain ⟨a23, e24, hf⟩ := dr_some hf
    obtain ⟨g25, hf⟩ := gd_some hf
    rcases Classical.em ((hpR h18 a23 1) = none) with c26 | c26
    · rw [if_pos c26] at hf
      cases (Option.some.inj hf)
      exact K21
    · rw [if_neg c26] at hf
      obtain ⟨g27, hf⟩ := gd_some hf
      obtain ⟨a28, e29, hf⟩ := dr_some hf
      obtain ⟨g30, hf⟩ := gd_some hf
      obtain ⟨h31, ec32, hf⟩ := cv_some hf
      have K33 := K21.trans ((fr_E_markLive (C := C) (mi := mi) ec32).mono (by decide) (by decide))
      cases (Option.some.inj hf)
      exact K33
def l_X_markLivePages_12 (y0 : Nat) (s : Int32 × Hp) : Option (Hp) := lp (fun s => b_X_markLivePages_12 y0 s.1 s.2) FU s
theorem zzl_X_markLivePages_12 {l : Launch} {C : Ct} {mi : Nat} {y0 : Nat} {h' : Hp} : ∀ (n : Nat) (s : Int32 × Hp) (x : (Hp)), lp (fun s : Int32 × Hp => b_X_markLivePages_12 y0 s.1 s.2) n s = some x → Z l C mi m_X_markLivePages 3 56 [] [] x none h' → Z l C mi m_X_markLivePages 3 12 [(0, vr (some y0)), (1, vi s.1)] [] s.2 none h' := by
  intro n
  induction n with
  | zero => intro s x hl; cases hl
  | succ n ih =>
    intro s x hl ke
    rcases lp_some hl with ⟨s2, hb, hl2⟩ | hb
    · exact zb_X_markLivePages_12 hb (fun s3 e3 => by cases e3; refine z_ls [0, 1] rfl ?_; exact ih s2 x hl2 ke) (fun x e3 => by cases e3)
    · exact zb_X_markLivePages_12 hb (fun s3 e3 => by cases e3) (fun x e3 => by cases e3; exact ke)
theorem zl_X_markLivePages_12 {l : Launch} {C : Ct} {mi : Nat} {y0 : Nat} {h' : Hp} {s : Int32 × Hp} {x : (Hp)} (hl : l_X_markLivePages_12 y0 s = some x) (ke : Z l C mi m_X_markLivePages 3 56 [] [] x none h') : Z l C mi m_X_markLivePages 3 12 [(0, vr (some y0)), (1, vi s.1)] [] s.2 none h' := zzl_X_markLivePages_12 FU s x hl ke
theorem kl_X_markLivePages_12 {C : Ct} {mi : Nat} {y0 : Nat} {s : Int32 × Hp} {q : (Hp)} (hl : l_X_markLivePages_12 y0 s = some q) : Keep W_X_markLivePages s.2 ((fun x : Hp => x) q) := lpk (sh := (fun s : Int32 × Hp => s.2)) (rh := (fun x : Hp => x)) (fun s q hb => kb_X_markLivePages_12 (C := C) (mi := mi) hb) FU s q hl
def f_X_markLivePages (a0 : Nat) (h : Hp) : Option Hp :=
  gd (isK h a0 0) (nm (wI h a0 7 ((hpI h a0 7) + (1 : Int32))) fun h2 => bd (l_X_markLivePages_12 a0 ((0 : Int32), h2)) fun x34 => some x34)
set_option maxRecDepth 100000 in
set_option maxHeartbeats 4000000 in
theorem zf_X_markLivePages {l : Launch} {C : Ct} {mi : Nat} {a0 : Nat} {h h' : Hp} (hf : f_X_markLivePages a0 h = some h') : Z l C mi m_X_markLivePages 3 0 [(0, vr (some a0))] [] h none h' := by
  unfold f_X_markLivePages at hf
  refine z_aload_n 0 d_X_markLivePages_0 rfl rfl ?_
  refine z_dup d_X_markLivePages_1 rfl ?_
  obtain ⟨g1, hf⟩ := gd_some hf
  refine z_getI d_X_markLivePages_2 (fl_K (isK_eq g1) fl_X_49_0) (fi_K (isK_eq g1) rfl) rfl ?_
  refine z_iconst (v := (1 : Int32)) d_X_markLivePages_5 (by decide) ?_
  refine z_iadd d_X_markLivePages_6 ?_
  obtain ⟨h2, eh3, hf⟩ := nm_some hf
  refine z_putI d_X_markLivePages_7 (fl_K (isK_eq g1) fl_X_49_0) (pu_K (isK_eq g1) (fun q hq => by cases (Option.some.inj hq); exact Or.inl rfl)) (fi_K (isK_eq g1) rfl) rfl ?_
  refine z_hp eh3 ?_
  refine z_iconst (v := (0 : Int32)) d_X_markLivePages_10 (by decide) ?_
  refine z_istore_n (ls2 := [(1, vi (0 : Int32)), (0, vr (some a0))]) d_X_markLivePages_11 rfl (by decide) rfl ?_
  obtain ⟨x34, el35, hf⟩ := bd_some hf
  refine z_ls [1, 0] rfl ?_
  refine zl_X_markLivePages_12 el35 ?_
  cases (Option.some.inj hf)
  exact z_ret d_X_markLivePages_56 rfl
set_option maxRecDepth 100000 in
set_option maxHeartbeats 4000000 in
theorem fr_X_markLivePages {C : Ct} {mi : Nat} {a0 : Nat} {h h' : Hp} (hf : f_X_markLivePages a0 h = some h') : Keep W_X_markLivePages h h' := by
  unfold f_X_markLivePages at hf
  obtain ⟨g1, hf⟩ := gd_some hf
  obtain ⟨h2, eh3, hf⟩ := nm_some hf
  have K4 := (Keep.refl W_X_markLivePages _).trans (kw_I eh3 (isK_eq g1) (Or.inl (by decide)))
  obtain ⟨x34, el35, hf⟩ := bd_some hf
  have K36 := K4.trans (kl_X_markLivePages_12 (C := C) (mi := mi) el35)
  cases (Option.some.inj hf)
  exact K36
theorem c_X_markLivePages {l : Launch} {C : Ct} {mi : Nat} {a0 : Nat} {h h' : Hp} (hf : f_X_markLivePages a0 h = some h') : Mt l C mi m_X_markLivePages 3 [vr (some a0)] h none h' := mt_V rfl rfl (by decide) (Nat.le_of_ble_eq_true rfl) (zf_X_markLivePages hf)
-- VersionMaps.dropUnkept()V
def m_X_dropUnkept : Mi := (⟨"VersionMaps", "dropUnkept", "()V"⟩, prog_1_method_26_code, 4, (Option.none : Option Jvm.ClassFile.FieldType), .return_)
theorem cw_X_dropUnkept : cw_ok m_X_dropUnkept 0 := ⟨by decide +kernel, by decide +kernel, by decide +kernel, by decide +kernel⟩
theorem im_X_dropUnkept : Cond.instanceMethod m_X_dropUnkept.1 ∈ lw_w := by decide +kernel
theorem se_X_dropUnkept : Cond.selects "VersionMaps" m_X_dropUnkept.1 m_X_dropUnkept.1 ∈ lw_w := by decide +kernel
theorem d_X_dropUnkept_0 : decode prog_1_method_26_code 0 = .ok (.iconst 0, 1) := by decide +kernel
theorem d_X_dropUnkept_1 : decode prog_1_method_26_code 1 = .ok (.istore_n 1, 1) := by decide +kernel
theorem d_X_dropUnkept_2 : decode prog_1_method_26_code 2 = .ok (.aload_n 0, 1) := by decide +kernel
theorem d_X_dropUnkept_3 : decode prog_1_method_26_code 3 = .ok (.getfield 30, 3) := by decide +kernel
theorem d_X_dropUnkept_6 : decode prog_1_method_26_code 6 = .ok (.invokevirtual 183, 3) := by decide +kernel
theorem d_X_dropUnkept_9 : decode prog_1_method_26_code 9 = .ok (.iconst 1, 1) := by decide +kernel
theorem d_X_dropUnkept_10 : decode prog_1_method_26_code 10 = .ok (.isub, 1) := by decide +kernel
theorem d_X_dropUnkept_11 : decode prog_1_method_26_code 11 = .ok (.istore_n 2, 1) := by decide +kernel
theorem d_X_dropUnkept_12 : decode prog_1_method_26_code 12 = .ok (.iload_n 2, 1) := by decide +kernel
theorem d_X_dropUnkept_13 : decode prog_1_method_26_code 13 = .ok (.ifCond .lt 62, 3) := by decide +kernel
theorem d_X_dropUnkept_16 : decode prog_1_method_26_code 16 = .ok (.aload_n 0, 1) := by decide +kernel
theorem d_X_dropUnkept_17 : decode prog_1_method_26_code 17 = .ok (.getfield 30, 3) := by decide +kernel
theorem d_X_dropUnkept_20 : decode prog_1_method_26_code 20 = .ok (.iload_n 2, 1) := by decide +kernel
theorem d_X_dropUnkept_21 : decode prog_1_method_26_code 21 = .ok (.invokevirtual 186, 3) := by decide +kernel
theorem d_X_dropUnkept_24 : decode prog_1_method_26_code 24 = .ok (.checkcast 33, 3) := by decide +kernel
theorem d_X_dropUnkept_27 : decode prog_1_method_26_code 27 = .ok (.astore_n 3, 1) := by decide +kernel
theorem d_X_dropUnkept_28 : decode prog_1_method_26_code 28 = .ok (.aload_n 3, 1) := by decide +kernel
theorem d_X_dropUnkept_29 : decode prog_1_method_26_code 29 = .ok (.aload_n 0, 1) := by decide +kernel
theorem d_X_dropUnkept_30 : decode prog_1_method_26_code 30 = .ok (.getfield 38, 3) := by decide +kernel
theorem d_X_dropUnkept_33 : decode prog_1_method_26_code 33 = .ok (.if_acmp .eq 36, 3) := by decide +kernel
theorem d_X_dropUnkept_36 : decode prog_1_method_26_code 36 = .ok (.aload_n 3, 1) := by decide +kernel
theorem d_X_dropUnkept_37 : decode prog_1_method_26_code 37 = .ok (.getfield 156, 3) := by decide +kernel
theorem d_X_dropUnkept_40 : decode prog_1_method_26_code 40 = .ok (.ifCond .le 6, 3) := by decide +kernel
theorem d_X_dropUnkept_43 : decode prog_1_method_26_code 43 = .ok (.goto 26, 3) := by decide +kernel
theorem d_X_dropUnkept_46 : decode prog_1_method_26_code 46 = .ok (.iload_n 1, 1) := by decide +kernel
theorem d_X_dropUnkept_47 : decode prog_1_method_26_code 47 = .ok (.aload_n 0, 1) := by decide +kernel
theorem d_X_dropUnkept_48 : decode prog_1_method_26_code 48 = .ok (.getfield 42, 3) := by decide +kernel
theorem d_X_dropUnkept_51 : decode prog_1_method_26_code 51 = .ok (.if_icmp .ge 9, 3) := by decide +kernel
theorem d_X_dropUnkept_54 : decode prog_1_method_26_code 54 = .ok (.iinc 1 1, 3) := by decide +kernel
theorem d_X_dropUnkept_57 : decode prog_1_method_26_code 57 = .ok (.goto 12, 3) := by decide +kernel
theorem d_X_dropUnkept_60 : decode prog_1_method_26_code 60 = .ok (.aload_n 0, 1) := by decide +kernel
theorem d_X_dropUnkept_61 : decode prog_1_method_26_code 61 = .ok (.getfield 30, 3) := by decide +kernel
theorem d_X_dropUnkept_64 : decode prog_1_method_26_code 64 = .ok (.iload_n 2, 1) := by decide +kernel
theorem d_X_dropUnkept_65 : decode prog_1_method_26_code 65 = .ok (.invokevirtual 244, 3) := by decide +kernel
theorem d_X_dropUnkept_68 : decode prog_1_method_26_code 68 = .ok (.pop, 1) := by decide +kernel
theorem d_X_dropUnkept_69 : decode prog_1_method_26_code 69 = .ok (.iinc 2 (-1), 3) := by decide +kernel
theorem d_X_dropUnkept_72 : decode prog_1_method_26_code 72 = .ok (.goto (-60), 3) := by decide +kernel
theorem d_X_dropUnkept_75 : decode prog_1_method_26_code 75 = .ok (.aload_n 0, 1) := by decide +kernel
theorem d_X_dropUnkept_76 : decode prog_1_method_26_code 76 = .ok (.invokevirtual 247, 3) := by decide +kernel
theorem d_X_dropUnkept_79 : decode prog_1_method_26_code 79 = .ok (.return_, 1) := by decide +kernel
def W_X_dropUnkept : Wl := ([(0, 7), (3, 2), (4, 2), (6, 2), (9, 1), (9, 2)], [73, 74])
def b_X_dropUnkept_12 (y0 : Nat) (y1 : Int32) (y2 : Int32) (h : Hp) : Option ((Int32 × Int32 × Hp) ⊕ (Hp)) :=
  if y2 < 0 then (some (.inr h)) else (gd (isK h y0 0) (dr (hpR h y0 3) fun a11 => gd (isK h a11 9) (cl (f_A_get a11 y2 h) fun v16 h14 => gd (caB h14 v16 7) (gd (isK h14 y0 0) (if v16 = (hpR h14 y0 4) then (some (.inl (y1, (y2 + (-1 : Int32)), h14))) else (dr v16 fun a21 => gd (isK h14 a21 7) (if (hpI h14 a21 2) ≤ 0 then (if (hpI h14 y0 5) ≤ y1 then (dr (hpR h14 y0 3) fun a26 => gd (isK h14 a26 9) (cl (f_A_remove a26 y2 h14) fun v31 h29 => some (.inl (y1, (y2 + (-1 : Int32)), h29)))) else (some (.inl ((y1 + (1 : Int32)), (y2 + (-1 : Int32)), h14)))) else (some (.inl (y1, (y2 + (-1 : Int32)), h14))))))))))
set_option maxRecDepth 100000 in
set_option maxHeartbeats 4000000 in
theorem zb_X_dropUnkept_12 {l : Launch} {C : Ct} {mi : Nat} {y0 : Nat} {y1 : Int32} {y2 : Int32} {h h' : Hp} {q : ((Int32 × Int32 × Hp) ⊕ (Hp))} (hf : b_X_dropUnkept_12 y0 y1 y2 h = some q) (kc : ∀ s, q = .inl s → Z l C mi m_X_dropUnkept 4 12 [(0, vr (some y0)), (1, vi s.1), (2, vi s.2.1)] [] s.2.2 none h') (ke : ∀ x, q = .inr x → Z l C mi m_X_dropUnkept 4 75 [(0, vr (some y0))] [] x none h') : Z l C mi m_X_dropUnkept 4 12 [(0, vr (some y0)), (1, vi y1), (2, vi y2)] [] h none h' := by
  unfold b_X_dropUnkept_12 at hf
  refine z_iload_n 2 d_X_dropUnkept_12 rfl rfl ?_
  refine z_if_lt (tgt := 75) d_X_dropUnkept_13 (by decide) (fun c9 => ?_) (fun c9 => ?_)
  · rw [if_pos c9] at hf
    refine z_ls [0] rfl ?_
    exact ke h (Option.some.inj hf).symm
  · rw [if_neg c9] at hf
    refine z_aload_n 0 d_X_dropUnkept_16 rfl rfl ?_
    obtain ⟨g10, hf⟩ := gd_some hf
    refine z_getR d_X_dropUnkept_17 (fl_K (isK_eq g10) fl_X_30_0) (fi_K (isK_eq g10) rfl) rfl ?_
    refine z_iload_n 2 d_X_dropUnkept_20 rfl rfl ?_
    obtain ⟨a11, e12, hf⟩ := dr_some hf
    obtain ⟨g13, hf⟩ := gd_some hf
    obtain ⟨v16, h14, ec15, hf⟩ := cl_some hf
    refine z_callVx e12 (c_A_get ec15) d_X_dropUnkept_21 cw_A_get lk_X_186 im_A_get se_A_get (kc_K (isK_eq g13) kc_9) ⟨by decide, by decide⟩ (Nat.le_of_ble_eq_true rfl) rfl ?_
    obtain ⟨g18, hf⟩ := gd_some hf
    refine z_cast d_X_dropUnkept_24 (nm := "VersionMaps$Version") (by decide +kernel) (caB_ok (κ := 7) g18 rfl (by decide +kernel)) ?_
    refine z_astore_n (ls2 := [(3, vr v16), (0, vr (some y0)), (1, vi y1), (2, vi y2)]) d_X_dropUnkept_27 rfl (by decide) rfl ?_
    refine z_aload_n 0 d_X_dropUnkept_28 rfl rfl ?_
    refine z_aload_n 1 d_X_dropUnkept_29 rfl rfl ?_
    obtain ⟨g19, hf⟩ := gd_some hf
    refine z_getR d_X_dropUnkept_30 (fl_K (isK_eq g19) fl_X_38_0) (fi_K (isK_eq g19) rfl) rfl ?_
    refine z_acmp_eq (tgt := 69) d_X_dropUnkept_33 (by decide) (fun c20 => ?_) (fun c20 => ?_)
    · rw [if_pos c20] at hf
      refine z_iinc (ls2 := [(2, vi (y2 + (-1 : Int32))), (3, vr v16), (0, vr (some y0)), (1, vi y1)]) 3 d_X_dropUnkept_69 rfl rfl (by decide) rfl ?_
      refine z_goto (tgt := 12) d_X_dropUnkept_72 (by decide) ?_
      refine z_ls [2, 3, 0] rfl ?_
      exact kc (y1, (y2 + (-1 : Int32)), h14) (Option.some.inj hf).symm
    · rw [if_neg c20] at hf
      refine z_aload_n 0 d_X_dropUnkept_36 rfl rfl ?_
      obtain ⟨a21, e22, hf⟩ := dr_some hf
      obtain ⟨g23, hf⟩ := gd_some hf
      refine z_getI d_X_dropUnkept_37 (fl_K (isK_eq g23) fl_X_156_7) (fi_K (isK_eq g23) rfl) e22 ?_
      refine z_if_le (tgt := 46) d_X_dropUnkept_40 (by decide) (fun c24 => ?_) (fun c24 => ?_)
      · rw [if_pos c24] at hf
        refine z_iload_n 2 d_X_dropUnkept_46 rfl rfl ?_
        refine z_aload_n 1 d_X_dropUnkept_47 rfl rfl ?_
        refine z_getI d_X_dropUnkept_48 (fl_K (isK_eq g19) fl_X_42_0) (fi_K (isK_eq g19) rfl) rfl ?_
        refine z_icmp_ge (tgt := 60) d_X_dropUnkept_51 (by decide) (fun c25 => ?_) (fun c25 => ?_)
        · rw [if_pos c25] at hf
          refine z_aload_n 1 d_X_dropUnkept_60 rfl rfl ?_
          refine z_getR d_X_dropUnkept_61 (fl_K (isK_eq g19) fl_X_30_0) (fi_K (isK_eq g19) rfl) rfl ?_
          refine z_iload_n 3 d_X_dropUnkept_64 rfl rfl ?_
          obtain ⟨a26, e27, hf⟩ := dr_some hf
          obtain ⟨g28, hf⟩ := gd_some hf
          obtain ⟨v31, h29, ec30, hf⟩ := cl_some hf
          refine z_callVx e27 (c_A_remove ec30) d_X_dropUnkept_65 cw_A_remove lk_X_244 im_A_remove se_A_remove (kc_K (isK_eq g28) kc_9) ⟨by decide, by decide⟩ (Nat.le_of_ble_eq_true rfl) rfl ?_
          refine z_pop d_X_dropUnkept_68 rfl ?_
          refine z_iinc (ls2 := [(2, vi (y2 + (-1 : Int32))), (3, vr v16), (0, vr (some y0)), (1, vi y1)]) 3 d_X_dropUnkept_69 rfl rfl (by decide) rfl ?_
          refine z_goto (tgt := 12) d_X_dropUnkept_72 (by decide) ?_
          refine z_ls [2, 3, 0] rfl ?_
          exact kc (y1, (y2 + (-1 : Int32)), h29) (Option.some.inj hf).symm
        · rw [if_neg c25] at hf
          refine z_iinc (ls2 := [(1, vi (y1 + (1 : Int32))), (3, vr v16), (0, vr (some y0)), (2, vi y2)]) 2 d_X_dropUnkept_54 rfl rfl (by decide) rfl ?_
          refine z_goto (tgt := 69) d_X_dropUnkept_57 (by decide) ?_
          refine z_iinc (ls2 := [(2, vi (y2 + (-1 : Int32))), (1, vi (y1 + (1 : Int32))), (3, vr v16), (0, vr (some y0))]) 3 d_X_dropUnkept_69 rfl rfl (by decide) rfl ?_
          refine z_goto (tgt := 12) d_X_dropUnkept_72 (by decide) ?_
          refine z_ls [3, 1, 0] rfl ?_
          exact kc ((y1 + (1 : Int32)), (y2 + (-1 : Int32)), h14) (Option.some.inj hf).symm
      · rw [if_neg c24] at hf
        refine z_goto (tgt := 69) d_X_dropUnkept_43 (by decide) ?_
        refine z_iinc (ls2 := [(2, vi (y2 + (-1 : Int32))), (3, vr v16), (0, vr (some y0)), (1, vi y1)]) 3 d_X_dropUnkept_69 rfl rfl (by decide) rfl ?_
        refine z_goto (tgt := 12) d_X_dropUnkept_72 (by decide) ?_
        refine z_ls [2, 3, 0] rfl ?_
        exact kc (y1, (y2 + (-1 : Int32)), h14) (Option.some.inj hf).symm
set_option maxRecDepth 100000 in
set_option maxHeartbeats 4000000 in
theorem kb_X_dropUnkept_12 {C : Ct} {mi : Nat} {y0 : Nat} {y1 : Int32} {y2 : Int32} {h : Hp} {q : ((Int32 × Int32 × Hp) ⊕ (Hp))} (hf : b_X_dropUnkept_12 y0 y1 y2 h = some q) : Keep W_X_dropUnkept h (Sum.elim (fun s : Int32 × Int32 × Hp => s.2.2) (fun x : Hp => x) q) := by
  unfold b_X_dropUnkept_12 at hf
  rcases Classical.em (y2 < 0) with c9 | c9
  · rw [if_pos c9] at hf
    cases (Option.some.inj hf)
    exact (Keep.refl W_X_dropUnkept _)
  · rw [if_neg c9] at hf
    obtain ⟨g10, hf⟩ := gd_some hf
    obtain ⟨a11, e12, hf⟩ := dr_some hf
    obtain ⟨g13, hf⟩ := gd_some hf
    obtain ⟨v16, h14, ec15, hf⟩ := cl_some hf
    have K17 := (Keep.refl W_X_dropUnkept _).trans ((fr_A_get (C := C) (mi := mi) ec15).mono (by decide) (by decide))
    obtain ⟨g18, hf⟩ := gd_some hf
    obtain ⟨g19, hf⟩ := gd_some hf
    rcases Classical.em (v16 = (hpR h14 y0 4)) with c20 | c20
    · rw [if_pos c20] at hf
      cases (Option.some.inj hf)
      exact K17
    · rw [if_neg c20] at hf
      obtain ⟨a21, e22, hf⟩ := dr_some hf
      obtain ⟨g23, hf⟩ := gd_some hf
      rcases Classical.em ((hpI h14 a21 2) ≤ 0) with c24 | c24
      · rw [if_pos c24] at hf
        rcases Classical.em ((hpI h14 y0 5) ≤ y1) with c25 | c25
        · rw [if_pos c25] at hf
          obtain ⟨a26, e27, hf⟩ := dr_some hf
          obtain ⟨g28, hf⟩ := gd_some hf
          obtain ⟨v31, h29, ec30, hf⟩ := cl_some hf
          have K32 := K17.trans ((fr_A_remove (C := C) (mi := mi) ec30).mono (by decide) (by decide))
          cases (Option.some.inj hf)
          exact K32
        · rw [if_neg c25] at hf
          cases (Option.some.inj hf)
          exact K17
      · rw [if_neg c24] at hf
        cases (Option.some.inj hf)
        exact K17
def l_X_dropUnkept_12 (y0 : Nat) (s : Int32 × Int32 × Hp) : Option (Hp) := lp (fun s => b_X_dropUnkept_12 y0 s.1 s.2.1 s.2.2) FU s
theorem zzl_X_dropUnkept_12 {l : Launch} {C : Ct} {mi : Nat} {y0 : Nat} {h' : Hp} : ∀ (n : Nat) (s : Int32 × Int32 × Hp) (x : (Hp)), lp (fun s : Int32 × Int32 × Hp => b_X_dropUnkept_12 y0 s.1 s.2.1 s.2.2) n s = some x → Z l C mi m_X_dropUnkept 4 75 [(0, vr (some y0))] [] x none h' → Z l C mi m_X_dropUnkept 4 12 [(0, vr (some y0)), (1, vi s.1), (2, vi s.2.1)] [] s.2.2 none h' := by
  intro n
  induction n with
  | zero => intro s x hl; cases hl
  | succ n ih =>
    intro s x hl ke
    rcases lp_some hl with ⟨s2, hb, hl2⟩ | hb
    · exact zb_X_dropUnkept_12 hb (fun s3 e3 => by cases e3; refine z_ls [0, 1, 2] rfl ?_; exact ih s2 x hl2 ke) (fun x e3 => by cases e3)
    · exact zb_X_dropUnkept_12 hb (fun s3 e3 => by cases e3) (fun x e3 => by cases e3; exact ke)
theorem zl_X_dropUnkept_12 {l : Launch} {C : Ct} {mi : Nat} {y0 : Nat} {h' : Hp} {s : Int32 × Int32 × Hp} {x : (Hp)} (hl : l_X_dropUnkept_12 y0 s = some x) (ke : Z l C mi m_X_dropUnkept 4 75 [(0, vr (some y0))] [] x none h') : Z l C mi m_X_dropUnkept 4 12 [(0, vr (some y0)), (1, vi s.1), (2, vi s.2.1)] [] s.2.2 none h' := zzl_X_dropUnkept_12 FU s x hl ke
theorem kl_X_dropUnkept_12 {C : Ct} {mi : Nat} {y0 : Nat} {s : Int32 × Int32 × Hp} {q : (Hp)} (hl : l_X_dropUnkept_12 y0 s = some q) : Keep W_X_dropUnkept s.2.2 ((fun x : Hp => x) q) := lpk (sh := (fun s : Int32 × Int32 × Hp => s.2.2)) (rh := (fun x : Hp => x)) (fun s q hb => kb_X_dropUnkept_12 (C := C) (mi := mi) hb) FU s q hl
def f_X_dropUnkept (a0 : Nat) (h : Hp) : Option Hp :=
  gd (isK h a0 0) (dr (hpR h a0 3) fun a2 => gd (isK h a2 9) (cl (f_A_size a2 h) fun v7 h5 => bd (l_X_dropUnkept_12 a0 ((0 : Int32), (v7 - (1 : Int32)), h5)) fun x33 => gd (isK x33 a0 0) (cv (f_X_markLivePages a0 x33) fun h37 => some h37)))
set_option maxRecDepth 100000 in
set_option maxHeartbeats 4000000 in
theorem zf_X_dropUnkept {l : Launch} {C : Ct} {mi : Nat} {a0 : Nat} {h h' : Hp} (hf : f_X_dropUnkept a0 h = some h') : Z l C mi m_X_dropUnkept 4 0 [(0, vr (some a0))] [] h none h' := by
  unfold f_X_dropUnkept at hf
  refine z_iconst (v := (0 : Int32)) d_X_dropUnkept_0 (by decide) ?_
  refine z_istore_n (ls2 := [(1, vi (0 : Int32)), (0, vr (some a0))]) d_X_dropUnkept_1 rfl (by decide) rfl ?_
  refine z_aload_n 1 d_X_dropUnkept_2 rfl rfl ?_
  obtain ⟨g1, hf⟩ := gd_some hf
  refine z_getR d_X_dropUnkept_3 (fl_K (isK_eq g1) fl_X_30_0) (fi_K (isK_eq g1) rfl) rfl ?_
  obtain ⟨a2, e3, hf⟩ := dr_some hf
  obtain ⟨g4, hf⟩ := gd_some hf
  obtain ⟨v7, h5, ec6, hf⟩ := cl_some hf
  refine z_callVx e3 (c_A_size ec6) d_X_dropUnkept_6 cw_A_size lk_X_183 im_A_size se_A_size (kc_K (isK_eq g4) kc_9) ⟨by decide, by decide⟩ (Nat.le_of_ble_eq_true rfl) rfl ?_
  refine z_iconst (v := (1 : Int32)) d_X_dropUnkept_9 (by decide) ?_
  refine z_isub d_X_dropUnkept_10 ?_
  refine z_istore_n (ls2 := [(2, vi (v7 - (1 : Int32))), (1, vi (0 : Int32)), (0, vr (some a0))]) d_X_dropUnkept_11 rfl (by decide) rfl ?_
  obtain ⟨x33, el34, hf⟩ := bd_some hf
  refine z_ls [2, 1, 0] rfl ?_
  refine zl_X_dropUnkept_12 el34 ?_
  refine z_aload_n 0 d_X_dropUnkept_75 rfl rfl ?_
  obtain ⟨g36, hf⟩ := gd_some hf
  obtain ⟨h37, ec38, hf⟩ := cv_some hf
  refine z_callVx rfl (c_X_markLivePages ec38) d_X_dropUnkept_76 cw_X_markLivePages lk_X_247 im_X_markLivePages se_X_markLivePages (kc_K (isK_eq g36) kc_0) ⟨by decide, by decide⟩ (Nat.le_of_ble_eq_true rfl) rfl ?_
  cases (Option.some.inj hf)
  exact z_ret d_X_dropUnkept_79 rfl
set_option maxRecDepth 100000 in
set_option maxHeartbeats 4000000 in
theorem fr_X_dropUnkept {C : Ct} {mi : Nat} {a0 : Nat} {h h' : Hp} (hf : f_X_dropUnkept a0 h = some h') : Keep W_X_dropUnkept h h' := by
  unfold f_X_dropUnkept at hf
  obtain ⟨g1, hf⟩ := gd_some hf
  obtain ⟨a2, e3, hf⟩ := dr_some hf
  obtain ⟨g4, hf⟩ := gd_some hf
  obtain ⟨v7, h5, ec6, hf⟩ := cl_some hf
  have K8 := (Keep.refl W_X_dropUnkept _).trans ((fr_A_size (C := C) (mi := mi) ec6).mono (by decide) (by decide))
  obtain ⟨x33, el34, hf⟩ := bd_some hf
  have K35 := K8.trans (kl_X_dropUnkept_12 (C := C) (mi := mi) el34)
  obtain ⟨g36, hf⟩ := gd_some hf
  obtain ⟨h37, ec38, hf⟩ := cv_some hf
  have K39 := K35.trans ((fr_X_markLivePages (C := C) (mi := mi) ec38).mono (by decide) (by decide))
  cases (Option.some.inj hf)
  exact K39
theorem c_X_dropUnkept {l : Launch} {C : Ct} {mi : Nat} {a0 : Nat} {h h' : Hp} (hf : f_X_dropUnkept a0 h = some h') : Mt l C mi m_X_dropUnkept 4 [vr (some a0)] h none h' := mt_V rfl rfl (by decide) (Nat.le_of_ble_eq_true rfl) (zf_X_dropUnkept hf)
-- VersionMaps.commit()I
def m_X_commit : Mi := (⟨"VersionMaps", "commit", "()I"⟩, prog_1_method_7_code, 4, (Option.some Jvm.ClassFile.FieldType.int), .ireturn)
theorem cw_X_commit : cw_ok m_X_commit 0 := ⟨by decide +kernel, by decide +kernel, by decide +kernel, by decide +kernel⟩
theorem im_X_commit : Cond.instanceMethod m_X_commit.1 ∈ lw_w := by decide +kernel
theorem se_X_commit : Cond.selects "VersionMaps" m_X_commit.1 m_X_commit.1 ∈ lw_w := by decide +kernel
theorem d_X_commit_0 : decode prog_1_method_7_code 0 = .ok (.aload_n 0, 1) := by decide +kernel
theorem d_X_commit_1 : decode prog_1_method_7_code 1 = .ok (.getfield 10, 3) := by decide +kernel
theorem d_X_commit_4 : decode prog_1_method_7_code 4 = .ok (.invokevirtual 101, 3) := by decide +kernel
theorem d_X_commit_7 : decode prog_1_method_7_code 7 = .ok (.ifCond .ne 11, 3) := by decide +kernel
theorem d_X_commit_10 : decode prog_1_method_7_code 10 = .ok (.aload_n 0, 1) := by decide +kernel
theorem d_X_commit_11 : decode prog_1_method_7_code 11 = .ok (.getfield 38, 3) := by decide +kernel
theorem d_X_commit_14 : decode prog_1_method_7_code 14 = .ok (.getfield 105, 3) := by decide +kernel
theorem d_X_commit_17 : decode prog_1_method_7_code 17 = .ok (.ireturn, 1) := by decide +kernel
theorem d_X_commit_18 : decode prog_1_method_7_code 18 = .ok (.aload_n 0, 1) := by decide +kernel
theorem d_X_commit_19 : decode prog_1_method_7_code 19 = .ok (.getfield 10, 3) := by decide +kernel
theorem d_X_commit_22 : decode prog_1_method_7_code 22 = .ok (.invokevirtual 108, 3) := by decide +kernel
theorem d_X_commit_25 : decode prog_1_method_7_code 25 = .ok (.istore_n 1, 1) := by decide +kernel
theorem d_X_commit_26 : decode prog_1_method_7_code 26 = .ok (.aload_n 0, 1) := by decide +kernel
theorem d_X_commit_27 : decode prog_1_method_7_code 27 = .ok (.getfield 19, 3) := by decide +kernel
theorem d_X_commit_30 : decode prog_1_method_7_code 30 = .ok (.iload_n 1, 1) := by decide +kernel
theorem d_X_commit_31 : decode prog_1_method_7_code 31 = .ok (.invokestatic 112, 3) := by decide +kernel
theorem d_X_commit_34 : decode prog_1_method_7_code 34 = .ok (.invokevirtual 116, 3) := by decide +kernel
theorem d_X_commit_37 : decode prog_1_method_7_code 37 = .ok (.istore_n 2, 1) := by decide +kernel
theorem d_X_commit_38 : decode prog_1_method_7_code 38 = .ok (.iload_n 2, 1) := by decide +kernel
theorem d_X_commit_39 : decode prog_1_method_7_code 39 = .ok (.ifCond .ge 6, 3) := by decide +kernel
theorem d_X_commit_42 : decode prog_1_method_7_code 42 = .ok (.bipush (-2), 2) := by decide +kernel
theorem d_X_commit_44 : decode prog_1_method_7_code 44 = .ok (.ireturn, 1) := by decide +kernel
theorem d_X_commit_45 : decode prog_1_method_7_code 45 = .ok (.new 119, 3) := by decide +kernel
theorem d_X_commit_48 : decode prog_1_method_7_code 48 = .ok (.dup, 1) := by decide +kernel
theorem d_X_commit_49 : decode prog_1_method_7_code 49 = .ok (.aload_n 0, 1) := by decide +kernel
theorem d_X_commit_50 : decode prog_1_method_7_code 50 = .ok (.getfield 46, 3) := by decide +kernel
theorem d_X_commit_53 : decode prog_1_method_7_code 53 = .ok (.iload_n 2, 1) := by decide +kernel
theorem d_X_commit_54 : decode prog_1_method_7_code 54 = .ok (.iload_n 1, 1) := by decide +kernel
theorem d_X_commit_55 : decode prog_1_method_7_code 55 = .ok (.invokespecial 121, 3) := by decide +kernel
theorem d_X_commit_58 : decode prog_1_method_7_code 58 = .ok (.astore_n 3, 1) := by decide +kernel
theorem d_X_commit_59 : decode prog_1_method_7_code 59 = .ok (.aload_n 0, 1) := by decide +kernel
theorem d_X_commit_60 : decode prog_1_method_7_code 60 = .ok (.getfield 10, 3) := by decide +kernel
theorem d_X_commit_63 : decode prog_1_method_7_code 63 = .ok (.aload_n 3, 1) := by decide +kernel
theorem d_X_commit_64 : decode prog_1_method_7_code 64 = .ok (.aload_n 0, 1) := by decide +kernel
theorem d_X_commit_65 : decode prog_1_method_7_code 65 = .ok (.getfield 38, 3) := by decide +kernel
theorem d_X_commit_68 : decode prog_1_method_7_code 68 = .ok (.getfield 105, 3) := by decide +kernel
theorem d_X_commit_71 : decode prog_1_method_7_code 71 = .ok (.iconst 1, 1) := by decide +kernel
theorem d_X_commit_72 : decode prog_1_method_7_code 72 = .ok (.iadd, 1) := by decide +kernel
theorem d_X_commit_73 : decode prog_1_method_7_code 73 = .ok (.aload_n 0, 1) := by decide +kernel
theorem d_X_commit_74 : decode prog_1_method_7_code 74 = .ok (.getfield 38, 3) := by decide +kernel
theorem d_X_commit_77 : decode prog_1_method_7_code 77 = .ok (.getfield 83, 3) := by decide +kernel
theorem d_X_commit_80 : decode prog_1_method_7_code 80 = .ok (.invokevirtual 123, 3) := by decide +kernel
theorem d_X_commit_83 : decode prog_1_method_7_code 83 = .ok (.aload_n 0, 1) := by decide +kernel
theorem d_X_commit_84 : decode prog_1_method_7_code 84 = .ok (.getfield 10, 3) := by decide +kernel
theorem d_X_commit_87 : decode prog_1_method_7_code 87 = .ok (.invokevirtual 127, 3) := by decide +kernel
theorem d_X_commit_90 : decode prog_1_method_7_code 90 = .ok (.aload_n 0, 1) := by decide +kernel
theorem d_X_commit_91 : decode prog_1_method_7_code 91 = .ok (.new 33, 3) := by decide +kernel
theorem d_X_commit_94 : decode prog_1_method_7_code 94 = .ok (.dup, 1) := by decide +kernel
theorem d_X_commit_95 : decode prog_1_method_7_code 95 = .ok (.aload_n 0, 1) := by decide +kernel
theorem d_X_commit_96 : decode prog_1_method_7_code 96 = .ok (.getfield 38, 3) := by decide +kernel
theorem d_X_commit_99 : decode prog_1_method_7_code 99 = .ok (.getfield 105, 3) := by decide +kernel
theorem d_X_commit_102 : decode prog_1_method_7_code 102 = .ok (.iconst 1, 1) := by decide +kernel
theorem d_X_commit_103 : decode prog_1_method_7_code 103 = .ok (.iadd, 1) := by decide +kernel
theorem d_X_commit_104 : decode prog_1_method_7_code 104 = .ok (.aload_n 3, 1) := by decide +kernel
theorem d_X_commit_105 : decode prog_1_method_7_code 105 = .ok (.getfield 130, 3) := by decide +kernel
theorem d_X_commit_108 : decode prog_1_method_7_code 108 = .ok (.invokespecial 35, 3) := by decide +kernel
theorem d_X_commit_111 : decode prog_1_method_7_code 111 = .ok (.putfield 38, 3) := by decide +kernel
theorem d_X_commit_114 : decode prog_1_method_7_code 114 = .ok (.aload_n 0, 1) := by decide +kernel
theorem d_X_commit_115 : decode prog_1_method_7_code 115 = .ok (.getfield 30, 3) := by decide +kernel
theorem d_X_commit_118 : decode prog_1_method_7_code 118 = .ok (.aload_n 0, 1) := by decide +kernel
theorem d_X_commit_119 : decode prog_1_method_7_code 119 = .ok (.getfield 38, 3) := by decide +kernel
theorem d_X_commit_122 : decode prog_1_method_7_code 122 = .ok (.invokevirtual 52, 3) := by decide +kernel
theorem d_X_commit_125 : decode prog_1_method_7_code 125 = .ok (.pop, 1) := by decide +kernel
theorem d_X_commit_126 : decode prog_1_method_7_code 126 = .ok (.aload_n 0, 1) := by decide +kernel
theorem d_X_commit_127 : decode prog_1_method_7_code 127 = .ok (.aload_n 3, 1) := by decide +kernel
theorem d_X_commit_128 : decode prog_1_method_7_code 128 = .ok (.invokevirtual 131, 3) := by decide +kernel
theorem d_X_commit_131 : decode prog_1_method_7_code 131 = .ok (.aload_n 0, 1) := by decide +kernel
theorem d_X_commit_132 : decode prog_1_method_7_code 132 = .ok (.invokevirtual 135, 3) := by decide +kernel
theorem d_X_commit_135 : decode prog_1_method_7_code 135 = .ok (.aload_n 0, 1) := by decide +kernel
theorem d_X_commit_136 : decode prog_1_method_7_code 136 = .ok (.getfield 38, 3) := by decide +kernel
theorem d_X_commit_139 : decode prog_1_method_7_code 139 = .ok (.getfield 105, 3) := by decide +kernel
theorem d_X_commit_142 : decode prog_1_method_7_code 142 = .ok (.ireturn, 1) := by decide +kernel
def W_X_commit : Wl := ([(0, 4), (0, 6), (0, 7), (1, 5), (2, 0), (2, 1), (2, 2), (2, 3), (2, 4), (3, 0), (3, 1), (3, 2), (3, 3), (3, 4), (4, 0), (4, 1), (4, 2), (4, 3), (4, 4), (5, 2), (5, 3), (6, 0), (6, 1), (6, 2), (6, 3), (7, 0), (7, 1), (7, 2), (9, 0), (9, 1), (9, 2)], [68, 70, 71, 72, 73, 74, 103, 104, 105, 106])
def f_X_commit (E : Nat × Nat) (a0 : Nat) (h : Hp) : Option (Int32 × Hp) :=
  gd (isK h a0 0) (dr (hpR h a0 0) fun a2 => gd (isK h a2 5) (cl (f_P_isTouched a2 h) fun v7 h5 => if v7 = 0 then (gd (isK h5 a0 0) (dr (hpR h5 a0 4) fun a90 => gd (isK h5 a90 7) (some ((hpI h5 a90 0), h5)))) else (gd (isK h5 a0 0) (dr (hpR h5 a0 0) fun a11 => gd (isK h5 a11 5) (cl (f_P_pagesToWrite a11 h5) fun v16 h14 => gd (isK h14 a0 0) (cl (f_X_blocksFor v16 h14) fun v21 h19 => dr (hpR h14 a0 1) fun a23 => gd (isK h19 a23 1) (cl (f_F_findFreeRow a23 v21 h19) fun v28 h26 => if 0 ≤ v28 then (nm (nw h26 2 0 5) fun h31 => gd (isK h31 a0 0) (cv (f_K_init (hpN h26) (hpI h31 a0 6) v28 v16 h31) fun h35 => gd (isK h35 a0 0) (dr (hpR h35 a0 4) fun a39 => gd (isK h35 a39 7) (dr (hpR h35 a0 0) fun a42 => gd (isK h35 a42 5) (cv (f_P_writeTouched a42 (some (hpN h26)) ((hpI h35 a39 0) + (1 : Int32)) (hpR h35 a39 1) h35) fun h45 => gd (isK h45 a0 0) (dr (hpR h45 a0 0) fun a49 => gd (isK h45 a49 5) (cv (f_P_forgetTouched a49 h45) fun h52 => nm (nw h52 7 0 3) fun h55 => gd (isK h55 a0 0) (dr (hpR h55 a0 4) fun a59 => gd (isK h55 a59 7) (gd (isK h55 (hpN h26) 2) (cv (f_V_init (hpN h52) ((hpI h55 a59 0) + (1 : Int32)) (hpR h55 (hpN h26) 4) h55) fun h63 => gd (isK h63 a0 0) (nm (wR h63 a0 4 (some (hpN h52))) fun h67 => dr (hpR h67 a0 3) fun a70 => gd (isK h67 a70 9) (cl (f_A_add1 E a70 (hpR h67 a0 4) h67) fun v75 h73 => gd (isK h73 a0 0) (cv (f_X_writeToFile E a0 (some (hpN h26)) h73) fun h78 => gd (isK h78 a0 0) (cv (f_X_dropUnkept a0 h78) fun h82 => gd (isK h82 a0 0) (dr (hpR h82 a0 4) fun a86 => gd (isK h82 a86 7) (some ((hpI h82 a86 0), h82))))))))))))))))) else (some ((-2 : Int32), h26)))))))))
set_option maxRecDepth 100000 in
set_option maxHeartbeats 4000000 in
theorem zf_X_commit {l : Launch} {C : Ct} {mi : Nat} {a0 : Nat} {h h' : Hp} {v : Int32} (hf : f_X_commit (cE C, mi) a0 h = some (v, h')) : Z l C mi m_X_commit 8 0 [(0, vr (some a0))] [] h (some (vi v)) h' := by
  unfold f_X_commit at hf
  refine z_aload_n 0 d_X_commit_0 rfl rfl ?_
  obtain ⟨g1, hf⟩ := gd_some hf
  refine z_getR d_X_commit_1 (fl_K (isK_eq g1) fl_X_10_0) (fi_K (isK_eq g1) rfl) rfl ?_
  obtain ⟨a2, e3, hf⟩ := dr_some hf
  obtain ⟨g4, hf⟩ := gd_some hf
  obtain ⟨v7, h5, ec6, hf⟩ := cl_some hf
  refine z_callVx e3 (c_P_isTouched ec6) d_X_commit_4 cw_P_isTouched lk_X_101 im_P_isTouched se_P_isTouched (kc_K (isK_eq g4) kc_5) ⟨by decide, by decide⟩ (Nat.le_of_ble_eq_true rfl) rfl ?_
  refine z_if_ne (tgt := 18) d_X_commit_7 (by decide) (fun c9 => ?_) (fun c9 => ?_)
  · rw [if_neg c9] at hf
    refine z_aload_n 0 d_X_commit_18 rfl rfl ?_
    obtain ⟨g10, hf⟩ := gd_some hf
    refine z_getR d_X_commit_19 (fl_K (isK_eq g10) fl_X_10_0) (fi_K (isK_eq g10) rfl) rfl ?_
    obtain ⟨a11, e12, hf⟩ := dr_some hf
    obtain ⟨g13, hf⟩ := gd_some hf
    obtain ⟨v16, h14, ec15, hf⟩ := cl_some hf
    refine z_callVx e12 (c_P_pagesToWrite ec15) d_X_commit_22 cw_P_pagesToWrite lk_X_108 im_P_pagesToWrite se_P_pagesToWrite (kc_K (isK_eq g13) kc_5) ⟨by decide, by decide⟩ (Nat.le_of_ble_eq_true rfl) rfl ?_
    refine z_istore_n (ls2 := [(1, vi v16), (0, vr (some a0))]) d_X_commit_25 rfl (by decide) rfl ?_
    refine z_aload_n 1 d_X_commit_26 rfl rfl ?_
    obtain ⟨g18, hf⟩ := gd_some hf
    refine z_getR d_X_commit_27 (fl_K (isK_eq g18) fl_X_19_0) (fi_K (isK_eq g18) rfl) rfl ?_
    refine z_iload_n 0 d_X_commit_30 rfl rfl ?_
    obtain ⟨v21, h19, ec20, hf⟩ := cl_some hf
    refine z_callS (c_X_blocksFor ec20) d_X_commit_31 cw_X_blocksFor lk_X_112 (by decide +kernel) ⟨by decide, by decide⟩ (Nat.le_of_ble_eq_true rfl) rfl ?_
    obtain ⟨a23, e24, hf⟩ := dr_some hf
    obtain ⟨g25, hf⟩ := gd_some hf
    obtain ⟨v28, h26, ec27, hf⟩ := cl_some hf
    refine z_callVx e24 (c_F_findFreeRow ec27) d_X_commit_34 cw_F_findFreeRow lk_X_116 im_F_findFreeRow se_F_findFreeRow (kc_K (isK_eq g25) kc_1) ⟨by decide, by decide⟩ (Nat.le_of_ble_eq_true rfl) rfl ?_
    refine z_istore_n (ls2 := [(2, vi v28), (1, vi v16), (0, vr (some a0))]) d_X_commit_37 rfl (by decide) rfl ?_
    refine z_iload_n 0 d_X_commit_38 rfl rfl ?_
    refine z_if_ge (tgt := 45) d_X_commit_39 (by decide) (fun c30 => ?_) (fun c30 => ?_)
    · rw [if_pos c30] at hf
      obtain ⟨h31, eh32, hf⟩ := nm_some hf
      refine z_new (κ := 2) d_X_commit_45 rfl (by decide +kernel) ?_
      refine z_hp eh32 ?_
      refine z_dup d_X_commit_48 rfl ?_
      refine z_aload_n 2 d_X_commit_49 rfl rfl ?_
      obtain ⟨g34, hf⟩ := gd_some hf
      refine z_getI d_X_commit_50 (fl_K (isK_eq g34) fl_X_46_0) (fi_K (isK_eq g34) rfl) rfl ?_
      refine z_iload_n 0 d_X_commit_53 rfl rfl ?_
      refine z_iload_n 1 d_X_commit_54 rfl rfl ?_
      obtain ⟨h35, ec36, hf⟩ := cv_some hf
      refine z_callI (c_K_init ec36) d_X_commit_55 rfl cw_K_init lk_X_121 im_K_init rfl ⟨by decide, by decide⟩ (Nat.le_of_ble_eq_true rfl) rfl ?_
      refine z_astore_n (ls2 := [(3, vr (some (hpN h26))), (2, vi v28), (1, vi v16), (0, vr (some a0))]) d_X_commit_58 rfl (by decide) rfl ?_
      refine z_aload_n 3 d_X_commit_59 rfl rfl ?_
      obtain ⟨g38, hf⟩ := gd_some hf
      refine z_getR d_X_commit_60 (fl_K (isK_eq g38) fl_X_10_0) (fi_K (isK_eq g38) rfl) rfl ?_
      refine z_aload_n 0 d_X_commit_63 rfl rfl ?_
      refine z_aload_n 3 d_X_commit_64 rfl rfl ?_
      refine z_getR d_X_commit_65 (fl_K (isK_eq g38) fl_X_38_0) (fi_K (isK_eq g38) rfl) rfl ?_
      obtain ⟨a39, e40, hf⟩ := dr_some hf
      obtain ⟨g41, hf⟩ := gd_some hf
      refine z_getI d_X_commit_68 (fl_K (isK_eq g41) fl_X_105_7) (fi_K (isK_eq g41) rfl) e40 ?_
      refine z_iconst (v := (1 : Int32)) d_X_commit_71 (by decide) ?_
      refine z_iadd d_X_commit_72 ?_
      refine z_aload_n 3 d_X_commit_73 rfl rfl ?_
      refine z_getR d_X_commit_74 (fl_K (isK_eq g38) fl_X_38_0) (fi_K (isK_eq g38) rfl) rfl ?_
      refine z_getR d_X_commit_77 (fl_K (isK_eq g41) fl_X_83_7) (fi_K (isK_eq g41) rfl) e40 ?_
      obtain ⟨a42, e43, hf⟩ := dr_some hf
      obtain ⟨g44, hf⟩ := gd_some hf
      obtain ⟨h45, ec46, hf⟩ := cv_some hf
      refine z_callVx e43 (c_P_writeTouched ec46) d_X_commit_80 cw_P_writeTouched lk_X_123 im_P_writeTouched se_P_writeTouched (kc_K (isK_eq g44) kc_5) ⟨by decide, by decide⟩ (Nat.le_of_ble_eq_true rfl) rfl ?_
      refine z_aload_n 3 d_X_commit_83 rfl rfl ?_
      obtain ⟨g48, hf⟩ := gd_some hf
      refine z_getR d_X_commit_84 (fl_K (isK_eq g48) fl_X_10_0) (fi_K (isK_eq g48) rfl) rfl ?_
      obtain ⟨a49, e50, hf⟩ := dr_some hf
      obtain ⟨g51, hf⟩ := gd_some hf
      obtain ⟨h52, ec53, hf⟩ := cv_some hf
      refine z_callVx e50 (c_P_forgetTouched ec53) d_X_commit_87 cw_P_forgetTouched lk_X_127 im_P_forgetTouched se_P_forgetTouched (kc_K (isK_eq g51) kc_5) ⟨by decide, by decide⟩ (Nat.le_of_ble_eq_true rfl) rfl ?_
      refine z_aload_n 3 d_X_commit_90 rfl rfl ?_
      obtain ⟨h55, eh56, hf⟩ := nm_some hf
      refine z_new (κ := 7) d_X_commit_91 rfl (by decide +kernel) ?_
      refine z_hp eh56 ?_
      refine z_dup d_X_commit_94 rfl ?_
      refine z_aload_n 3 d_X_commit_95 rfl rfl ?_
      obtain ⟨g58, hf⟩ := gd_some hf
      refine z_getR d_X_commit_96 (fl_K (isK_eq g58) fl_X_38_0) (fi_K (isK_eq g58) rfl) rfl ?_
      obtain ⟨a59, e60, hf⟩ := dr_some hf
      obtain ⟨g61, hf⟩ := gd_some hf
      refine z_getI d_X_commit_99 (fl_K (isK_eq g61) fl_X_105_7) (fi_K (isK_eq g61) rfl) e60 ?_
      refine z_iconst (v := (1 : Int32)) d_X_commit_102 (by decide) ?_
      refine z_iadd d_X_commit_103 ?_
      refine z_aload_n 0 d_X_commit_104 rfl rfl ?_
      obtain ⟨g62, hf⟩ := gd_some hf
      refine z_getR d_X_commit_105 (fl_K (isK_eq g62) fl_X_130_2) (fi_K (isK_eq g62) rfl) rfl ?_
      obtain ⟨h63, ec64, hf⟩ := cv_some hf
      refine z_callI (c_V_init ec64) d_X_commit_108 rfl cw_V_init lk_X_35 im_V_init rfl ⟨by decide, by decide⟩ (Nat.le_of_ble_eq_true rfl) rfl ?_
      obtain ⟨g66, hf⟩ := gd_some hf
      obtain ⟨h67, eh68, hf⟩ := nm_some hf
      refine z_putR d_X_commit_111 (fl_K (isK_eq g66) fl_X_38_0) (pu_K (isK_eq g66) (fun q hq => by cases (Option.some.inj hq); exact Or.inl rfl)) (fi_K (isK_eq g66) rfl) rfl ?_
      refine z_hp eh68 ?_
      refine z_aload_n 3 d_X_commit_114 rfl rfl ?_
      refine z_getR d_X_commit_115 (fl_K (isK_eq (isK_wR eh68 g66)) fl_X_30_0) (fi_K (isK_eq (isK_wR eh68 g66)) rfl) rfl ?_
      refine z_aload_n 3 d_X_commit_118 rfl rfl ?_
      refine z_getR d_X_commit_119 (fl_K (isK_eq (isK_wR eh68 g66)) fl_X_38_0) (fi_K (isK_eq (isK_wR eh68 g66)) rfl) rfl ?_
      obtain ⟨a70, e71, hf⟩ := dr_some hf
      obtain ⟨g72, hf⟩ := gd_some hf
      obtain ⟨v75, h73, ec74, hf⟩ := cl_some hf
      refine z_callVx e71 (c_A_add1 ec74) d_X_commit_122 cw_A_add1 lk_X_52 im_A_add1 se_A_add1 (kc_K (isK_eq g72) kc_9) ⟨by decide, by decide⟩ (Nat.le_of_ble_eq_true rfl) rfl ?_
      refine z_pop d_X_commit_125 rfl ?_
      refine z_aload_n 3 d_X_commit_126 rfl rfl ?_
      refine z_aload_n 0 d_X_commit_127 rfl rfl ?_
      obtain ⟨g77, hf⟩ := gd_some hf
      obtain ⟨h78, ec79, hf⟩ := cv_some hf
      refine z_callVx rfl (c_X_writeToFile ec79) d_X_commit_128 cw_X_writeToFile lk_X_131 im_X_writeToFile se_X_writeToFile (kc_K (isK_eq g77) kc_0) ⟨by decide, by decide⟩ (Nat.le_of_ble_eq_true rfl) rfl ?_
      refine z_aload_n 3 d_X_commit_131 rfl rfl ?_
      obtain ⟨g81, hf⟩ := gd_some hf
      obtain ⟨h82, ec83, hf⟩ := cv_some hf
      refine z_callVx rfl (c_X_dropUnkept ec83) d_X_commit_132 cw_X_dropUnkept lk_X_135 im_X_dropUnkept se_X_dropUnkept (kc_K (isK_eq g81) kc_0) ⟨by decide, by decide⟩ (Nat.le_of_ble_eq_true rfl) rfl ?_
      refine z_aload_n 3 d_X_commit_135 rfl rfl ?_
      obtain ⟨g85, hf⟩ := gd_some hf
      refine z_getR d_X_commit_136 (fl_K (isK_eq g85) fl_X_38_0) (fi_K (isK_eq g85) rfl) rfl ?_
      obtain ⟨a86, e87, hf⟩ := dr_some hf
      obtain ⟨g88, hf⟩ := gd_some hf
      refine z_getI d_X_commit_139 (fl_K (isK_eq g88) fl_X_105_7) (fi_K (isK_eq g88) rfl) e87 ?_
      obtain ⟨rfl, rfl⟩ := Prod.mk.inj (Option.some.inj hf)
      exact z_ret d_X_commit_142 rfl
    · rw [if_neg c30] at hf
      refine z_bipush (v := (-2 : Int32)) d_X_commit_42 (by decide) ?_
      obtain ⟨rfl, rfl⟩ := Prod.mk.inj (Option.some.inj hf)
      exact z_ret d_X_commit_44 rfl
  · rw [if_pos c9] at hf
    refine z_aload_n 0 d_X_commit_10 rfl rfl ?_
    obtain ⟨g89, hf⟩ := gd_some hf
    refine z_getR d_X_commit_11 (fl_K (isK_eq g89) fl_X_38_0) (fi_K (isK_eq g89) rfl) rfl ?_
    obtain ⟨a90, e91, hf⟩ := dr_some hf
    obtain ⟨g92, hf⟩ := gd_some hf
    refine z_getI d_X_commit_14 (fl_K (isK_eq g92) fl_X_105_7) (fi_K (isK_eq g92) rfl) e91 ?_
    obtain ⟨rfl, rfl⟩ := Prod.mk.inj (Option.some.inj hf)
    exact z_ret d_X_commit_17 rfl
set_option maxRecDepth 100000 in
set_option maxHeartbeats 4000000 in
theorem fr_X_commit {C : Ct} {mi : Nat} {a0 : Nat} {h h' : Hp} {v : Int32} (hf : f_X_commit (cE C, mi) a0 h = some (v, h')) : Keep W_X_commit h h' := by
  unfold f_X_commit at hf
  obtain ⟨g1, hf⟩ := gd_some hf
  obtain ⟨a2, e3, hf⟩ := dr_some hf
  obtain ⟨g4, hf⟩ := gd_some hf
  obtain ⟨v7, h5, ec6, hf⟩ := cl_some hf
  have K8 := (Keep.refl W_X_commit _).trans ((fr_P_isTouched (C := C) (mi := mi) ec6).mono (by decide) (by decide))
  rcases (Classical.em (v7 = 0)).symm with c9 | c9
  · rw [if_neg c9] at hf
    obtain ⟨g10, hf⟩ := gd_some hf
    obtain ⟨a11, e12, hf⟩ := dr_some hf
    obtain ⟨g13, hf⟩ := gd_some hf
    obtain ⟨v16, h14, ec15, hf⟩ := cl_some hf
    have K17 := K8.trans ((fr_P_pagesToWrite (C := C) (mi := mi) ec15).mono (by decide) (by decide))
    obtain ⟨g18, hf⟩ := gd_some hf
    obtain ⟨v21, h19, ec20, hf⟩ := cl_some hf
    have K22 := K17.trans ((fr_X_blocksFor (C := C) (mi := mi) ec20).mono (by decide) (by decide))
    obtain ⟨a23, e24, hf⟩ := dr_some hf
    obtain ⟨g25, hf⟩ := gd_some hf
    obtain ⟨v28, h26, ec27, hf⟩ := cl_some hf
    have K29 := K22.trans ((fr_F_findFreeRow (C := C) (mi := mi) ec27).mono (by decide) (by decide))
    rcases Classical.em (0 ≤ v28) with c30 | c30
    · rw [if_pos c30] at hf
      obtain ⟨h31, eh32, hf⟩ := nm_some hf
      have K33 := K29.trans (kw_N eh32)
      obtain ⟨g34, hf⟩ := gd_some hf
      obtain ⟨h35, ec36, hf⟩ := cv_some hf
      have K37 := K33.trans ((fr_K_init (C := C) (mi := mi) ec36).mono (by decide) (by decide))
      obtain ⟨g38, hf⟩ := gd_some hf
      obtain ⟨a39, e40, hf⟩ := dr_some hf
      obtain ⟨g41, hf⟩ := gd_some hf
      obtain ⟨a42, e43, hf⟩ := dr_some hf
      obtain ⟨g44, hf⟩ := gd_some hf
      obtain ⟨h45, ec46, hf⟩ := cv_some hf
      have K47 := K37.trans ((fr_P_writeTouched (C := C) (mi := mi) ec46).mono (by decide) (by decide))
      obtain ⟨g48, hf⟩ := gd_some hf
      obtain ⟨a49, e50, hf⟩ := dr_some hf
      obtain ⟨g51, hf⟩ := gd_some hf
      obtain ⟨h52, ec53, hf⟩ := cv_some hf
      have K54 := K47.trans ((fr_P_forgetTouched (C := C) (mi := mi) ec53).mono (by decide) (by decide))
      obtain ⟨h55, eh56, hf⟩ := nm_some hf
      have K57 := K54.trans (kw_N eh56)
      obtain ⟨g58, hf⟩ := gd_some hf
      obtain ⟨a59, e60, hf⟩ := dr_some hf
      obtain ⟨g61, hf⟩ := gd_some hf
      obtain ⟨g62, hf⟩ := gd_some hf
      obtain ⟨h63, ec64, hf⟩ := cv_some hf
      have K65 := K57.trans ((fr_V_init (C := C) (mi := mi) ec64).mono (by decide) (by decide))
      obtain ⟨g66, hf⟩ := gd_some hf
      obtain ⟨h67, eh68, hf⟩ := nm_some hf
      have K69 := K65.trans (kw_R eh68 (isK_eq g66) (Or.inl (by decide)))
      obtain ⟨a70, e71, hf⟩ := dr_some hf
      obtain ⟨g72, hf⟩ := gd_some hf
      obtain ⟨v75, h73, ec74, hf⟩ := cl_some hf
      have K76 := K69.trans ((fr_A_add1 (C := C) (mi := mi) ec74).mono (by decide) (by decide))
      obtain ⟨g77, hf⟩ := gd_some hf
      obtain ⟨h78, ec79, hf⟩ := cv_some hf
      have K80 := K76.trans ((fr_X_writeToFile (C := C) (mi := mi) ec79).mono (by decide) (by decide))
      obtain ⟨g81, hf⟩ := gd_some hf
      obtain ⟨h82, ec83, hf⟩ := cv_some hf
      have K84 := K80.trans ((fr_X_dropUnkept (C := C) (mi := mi) ec83).mono (by decide) (by decide))
      obtain ⟨g85, hf⟩ := gd_some hf
      obtain ⟨a86, e87, hf⟩ := dr_some hf
      obtain ⟨g88, hf⟩ := gd_some hf
      obtain ⟨rfl, rfl⟩ := Prod.mk.inj (Option.some.inj hf)
      exact K84
    · rw [if_neg c30] at hf
      obtain ⟨rfl, rfl⟩ := Prod.mk.inj (Option.some.inj hf)
      exact K29
  · rw [if_pos c9] at hf
    obtain ⟨g89, hf⟩ := gd_some hf
    obtain ⟨a90, e91, hf⟩ := dr_some hf
    obtain ⟨g92, hf⟩ := gd_some hf
    obtain ⟨rfl, rfl⟩ := Prod.mk.inj (Option.some.inj hf)
    exact K8
theorem c_X_commit {l : Launch} {C : Ct} {mi : Nat} {a0 : Nat} {h h' : Hp} {v : Int32} (hf : f_X_commit (cE C, mi) a0 h = some (v, h')) : Mt l C mi m_X_commit 8 [vr (some a0)] h (some (vi v)) h' := mt_I (ty := .int) rfl rfl rfl (by decide) (Nat.le_of_ble_eq_true rfl) (zf_X_commit hf)
-- VersionMaps.copyOf(LVersionMaps$Version;)LVersionMaps$Meta;
def m_X_copyOf : Mi := (⟨"VersionMaps", "copyOf", "(LVersionMaps$Version;)LVersionMaps$Meta;"⟩, prog_1_method_23_code, 3, (Option.some (Jvm.ClassFile.FieldType.object "VersionMaps$Meta")), .areturn)
theorem cw_X_copyOf : cw_ok m_X_copyOf 1 := ⟨by decide +kernel, by decide +kernel, by decide +kernel, by decide +kernel⟩
theorem d_X_copyOf_0 : decode prog_1_method_23_code 0 = .ok (.new 88, 3) := by decide +kernel
theorem d_X_copyOf_3 : decode prog_1_method_23_code 3 = .ok (.dup, 1) := by decide +kernel
theorem d_X_copyOf_4 : decode prog_1_method_23_code 4 = .ok (.aload_n 0, 1) := by decide +kernel
theorem d_X_copyOf_5 : decode prog_1_method_23_code 5 = .ok (.getfield 105, 3) := by decide +kernel
theorem d_X_copyOf_8 : decode prog_1_method_23_code 8 = .ok (.invokespecial 235, 3) := by decide +kernel
theorem d_X_copyOf_11 : decode prog_1_method_23_code 11 = .ok (.astore_n 1, 1) := by decide +kernel
theorem d_X_copyOf_12 : decode prog_1_method_23_code 12 = .ok (.iconst 0, 1) := by decide +kernel
theorem d_X_copyOf_13 : decode prog_1_method_23_code 13 = .ok (.istore_n 2, 1) := by decide +kernel
theorem d_X_copyOf_14 : decode prog_1_method_23_code 14 = .ok (.iload_n 2, 1) := by decide +kernel
theorem d_X_copyOf_15 : decode prog_1_method_23_code 15 = .ok (.iconst 4, 1) := by decide +kernel
theorem d_X_copyOf_16 : decode prog_1_method_23_code 16 = .ok (.if_icmp .ge 31, 3) := by decide +kernel
theorem d_X_copyOf_19 : decode prog_1_method_23_code 19 = .ok (.aload_n 0, 1) := by decide +kernel
theorem d_X_copyOf_20 : decode prog_1_method_23_code 20 = .ok (.getfield 83, 3) := by decide +kernel
theorem d_X_copyOf_23 : decode prog_1_method_23_code 23 = .ok (.ifnull 24, 3) := by decide +kernel
theorem d_X_copyOf_26 : decode prog_1_method_23_code 26 = .ok (.aload_n 1, 1) := by decide +kernel
theorem d_X_copyOf_27 : decode prog_1_method_23_code 27 = .ok (.getfield 237, 3) := by decide +kernel
theorem d_X_copyOf_30 : decode prog_1_method_23_code 30 = .ok (.iload_n 2, 1) := by decide +kernel
theorem d_X_copyOf_31 : decode prog_1_method_23_code 31 = .ok (.aload_n 0, 1) := by decide +kernel
theorem d_X_copyOf_32 : decode prog_1_method_23_code 32 = .ok (.getfield 83, 3) := by decide +kernel
theorem d_X_copyOf_35 : decode prog_1_method_23_code 35 = .ok (.getfield 237, 3) := by decide +kernel
theorem d_X_copyOf_38 : decode prog_1_method_23_code 38 = .ok (.iload_n 2, 1) := by decide +kernel
theorem d_X_copyOf_39 : decode prog_1_method_23_code 39 = .ok (.aaload, 1) := by decide +kernel
theorem d_X_copyOf_40 : decode prog_1_method_23_code 40 = .ok (.aastore, 1) := by decide +kernel
theorem d_X_copyOf_41 : decode prog_1_method_23_code 41 = .ok (.iinc 2 1, 3) := by decide +kernel
theorem d_X_copyOf_44 : decode prog_1_method_23_code 44 = .ok (.goto (-30), 3) := by decide +kernel
theorem d_X_copyOf_47 : decode prog_1_method_23_code 47 = .ok (.aload_n 1, 1) := by decide +kernel
theorem d_X_copyOf_48 : decode prog_1_method_23_code 48 = .ok (.areturn, 1) := by decide +kernel
def W_X_copyOf : Wl := ([(3, 0), (3, 1), (3, 2), (4, 0), (4, 1), (4, 2), (4, 3), (4, 4), (6, 0), (6, 1), (6, 2)], [104])
def b_X_copyOf_14 (y0 : Option Nat) (y1 : Option Nat) (y2 : Int32) (h : Hp) : Option ((Int32 × Hp) ⊕ (Hp)) :=
  if (nI 4) ≤ y2 then (some (.inr h)) else (dr y0 fun a11 => gd (isK h a11 7) (if (hpR h a11 1) = none then (some (.inr h)) else (dr y1 fun a15 => gd (isK h a15 4) (dr (hpR h a11 1) fun a18 => gd (isK h a18 4) (dr (hpR h a18 4) fun a21 => gd (isK h a21 104) (gd (inb y2 (hpL h a21)) (dr (hpR h a15 4) fun a25 => gd (isK h a25 104) (gd (inb y2 (hpL h a25)) (gd (asV h (hpR h a21 y2.toNatClampNeg) a25) (nm (wR h a25 y2.toNatClampNeg (hpR h a21 y2.toNatClampNeg)) fun h30 => some (.inl ((y2 + (1 : Int32)), h30))))))))))))
set_option maxRecDepth 100000 in
set_option maxHeartbeats 4000000 in
theorem zb_X_copyOf_14 {l : Launch} {C : Ct} {mi : Nat} {y0 : Option Nat} {y1 : Option Nat} {y2 : Int32} {h h' : Hp} {v : Option Nat} {q : ((Int32 × Hp) ⊕ (Hp))} (hf : b_X_copyOf_14 y0 y1 y2 h = some q) (kc : ∀ s, q = .inl s → Z l C mi m_X_copyOf 3 14 [(0, vr y0), (1, vr y1), (2, vi s.1)] [] s.2 (some (vr v)) h') (ke : ∀ x, q = .inr x → Z l C mi m_X_copyOf 3 47 [(1, vr y1)] [] x (some (vr v)) h') : Z l C mi m_X_copyOf 3 14 [(0, vr y0), (1, vr y1), (2, vi y2)] [] h (some (vr v)) h' := by
  unfold b_X_copyOf_14 at hf
  refine z_iload_n 2 d_X_copyOf_14 rfl rfl ?_
  refine z_iconst (v := (nI 4)) d_X_copyOf_15 (by decide) ?_
  refine z_icmp_ge (tgt := 47) d_X_copyOf_16 (by decide) (fun c10 => ?_) (fun c10 => ?_)
  · rw [if_pos c10] at hf
    refine z_ls [1] rfl ?_
    exact ke h (Option.some.inj hf).symm
  · rw [if_neg c10] at hf
    refine z_aload_n 0 d_X_copyOf_19 rfl rfl ?_
    obtain ⟨a11, e12, hf⟩ := dr_some hf
    obtain ⟨g13, hf⟩ := gd_some hf
    refine z_getR d_X_copyOf_20 (fl_K (isK_eq g13) fl_X_83_7) (fi_K (isK_eq g13) rfl) e12 ?_
    refine z_ifnull (tgt := 47) d_X_copyOf_23 (by decide) (fun c14 => ?_) (fun c14 => ?_)
    · rw [if_pos c14] at hf
      refine z_ls [1] rfl ?_
      exact ke h (Option.some.inj hf).symm
    · rw [if_neg c14] at hf
      refine z_aload_n 1 d_X_copyOf_26 rfl rfl ?_
      obtain ⟨a15, e16, hf⟩ := dr_some hf
      obtain ⟨g17, hf⟩ := gd_some hf
      refine z_getR d_X_copyOf_27 (fl_K (isK_eq g17) fl_X_237_4) (fi_K (isK_eq g17) rfl) e16 ?_
      refine z_iload_n 2 d_X_copyOf_30 rfl rfl ?_
      refine z_aload_n 0 d_X_copyOf_31 rfl rfl ?_
      refine z_getR d_X_copyOf_32 (fl_K (isK_eq g13) fl_X_83_7) (fi_K (isK_eq g13) rfl) e12 ?_
      obtain ⟨a18, e19, hf⟩ := dr_some hf
      obtain ⟨g20, hf⟩ := gd_some hf
      refine z_getR d_X_copyOf_35 (fl_K (isK_eq g20) fl_X_237_4) (fi_K (isK_eq g20) rfl) e19 ?_
      refine z_iload_n 2 d_X_copyOf_38 rfl rfl ?_
      obtain ⟨a21, e22, hf⟩ := dr_some hf
      obtain ⟨g23, hf⟩ := gd_some hf
      obtain ⟨g24, hf⟩ := gd_some hf
      refine z_aald d_X_copyOf_39 e22 (by rw [isK_eq g23]; decide) (by rw [isK_eq g23]; decide) (inb_vp g24) ?_
      obtain ⟨a25, e26, hf⟩ := dr_some hf
      obtain ⟨g27, hf⟩ := gd_some hf
      obtain ⟨g28, hf⟩ := gd_some hf
      obtain ⟨g29, hf⟩ := gd_some hf
      obtain ⟨h30, eh31, hf⟩ := nm_some hf
      refine z_aast d_X_copyOf_40 e26 (by rw [isK_eq g27]; decide) (by rw [isK_eq g27]; decide) (asV_ok g29) (inb_vp g28) ?_
      refine z_hp eh31 ?_
      refine z_iinc (ls2 := [(2, vi (y2 + (1 : Int32))), (0, vr y0), (1, vr y1)]) 2 d_X_copyOf_41 rfl rfl (by decide) rfl ?_
      refine z_goto (tgt := 14) d_X_copyOf_44 (by decide) ?_
      refine z_ls [1, 2, 0] rfl ?_
      exact kc ((y2 + (1 : Int32)), h30) (Option.some.inj hf).symm
set_option maxRecDepth 100000 in
set_option maxHeartbeats 4000000 in
theorem kb_X_copyOf_14 {C : Ct} {mi : Nat} {y0 : Option Nat} {y1 : Option Nat} {y2 : Int32} {h : Hp} {q : ((Int32 × Hp) ⊕ (Hp))} (hf : b_X_copyOf_14 y0 y1 y2 h = some q) : Keep W_X_copyOf h (Sum.elim (fun s : Int32 × Hp => s.2) (fun x : Hp => x) q) := by
  unfold b_X_copyOf_14 at hf
  rcases Classical.em ((nI 4) ≤ y2) with c10 | c10
  · rw [if_pos c10] at hf
    cases (Option.some.inj hf)
    exact (Keep.refl W_X_copyOf _)
  · rw [if_neg c10] at hf
    obtain ⟨a11, e12, hf⟩ := dr_some hf
    obtain ⟨g13, hf⟩ := gd_some hf
    rcases Classical.em ((hpR h a11 1) = none) with c14 | c14
    · rw [if_pos c14] at hf
      cases (Option.some.inj hf)
      exact (Keep.refl W_X_copyOf _)
    · rw [if_neg c14] at hf
      obtain ⟨a15, e16, hf⟩ := dr_some hf
      obtain ⟨g17, hf⟩ := gd_some hf
      obtain ⟨a18, e19, hf⟩ := dr_some hf
      obtain ⟨g20, hf⟩ := gd_some hf
      obtain ⟨a21, e22, hf⟩ := dr_some hf
      obtain ⟨g23, hf⟩ := gd_some hf
      obtain ⟨g24, hf⟩ := gd_some hf
      obtain ⟨a25, e26, hf⟩ := dr_some hf
      obtain ⟨g27, hf⟩ := gd_some hf
      obtain ⟨g28, hf⟩ := gd_some hf
      obtain ⟨g29, hf⟩ := gd_some hf
      obtain ⟨h30, eh31, hf⟩ := nm_some hf
      have K32 := (Keep.refl W_X_copyOf _).trans (kw_R eh31 (isK_eq g27) (Or.inr (by decide)))
      cases (Option.some.inj hf)
      exact K32
def l_X_copyOf_14 (y0 : Option Nat) (y1 : Option Nat) (s : Int32 × Hp) : Option (Hp) := lp (fun s => b_X_copyOf_14 y0 y1 s.1 s.2) FU s
theorem zzl_X_copyOf_14 {l : Launch} {C : Ct} {mi : Nat} {y0 : Option Nat} {y1 : Option Nat} {h' : Hp} {v : Option Nat} : ∀ (n : Nat) (s : Int32 × Hp) (x : (Hp)), lp (fun s : Int32 × Hp => b_X_copyOf_14 y0 y1 s.1 s.2) n s = some x → Z l C mi m_X_copyOf 3 47 [(1, vr y1)] [] x (some (vr v)) h' → Z l C mi m_X_copyOf 3 14 [(0, vr y0), (1, vr y1), (2, vi s.1)] [] s.2 (some (vr v)) h' := by
  intro n
  induction n with
  | zero => intro s x hl; cases hl
  | succ n ih =>
    intro s x hl ke
    rcases lp_some hl with ⟨s2, hb, hl2⟩ | hb
    · exact zb_X_copyOf_14 hb (fun s3 e3 => by cases e3; refine z_ls [0, 1, 2] rfl ?_; exact ih s2 x hl2 ke) (fun x e3 => by cases e3)
    · exact zb_X_copyOf_14 hb (fun s3 e3 => by cases e3) (fun x e3 => by cases e3; exact ke)
theorem zl_X_copyOf_14 {l : Launch} {C : Ct} {mi : Nat} {y0 : Option Nat} {y1 : Option Nat} {h' : Hp} {v : Option Nat} {s : Int32 × Hp} {x : (Hp)} (hl : l_X_copyOf_14 y0 y1 s = some x) (ke : Z l C mi m_X_copyOf 3 47 [(1, vr y1)] [] x (some (vr v)) h') : Z l C mi m_X_copyOf 3 14 [(0, vr y0), (1, vr y1), (2, vi s.1)] [] s.2 (some (vr v)) h' := zzl_X_copyOf_14 FU s x hl ke
theorem kl_X_copyOf_14 {C : Ct} {mi : Nat} {y0 : Option Nat} {y1 : Option Nat} {s : Int32 × Hp} {q : (Hp)} (hl : l_X_copyOf_14 y0 y1 s = some q) : Keep W_X_copyOf s.2 ((fun x : Hp => x) q) := lpk (sh := (fun s : Int32 × Hp => s.2)) (rh := (fun x : Hp => x)) (fun s q hb => kb_X_copyOf_14 (C := C) (mi := mi) hb) FU s q hl
def f_X_copyOf (p1 : Option Nat) (h : Hp) : Option (Option Nat × Hp) :=
  nm (nw h 4 0 5) fun h1 => dr p1 fun a4 => gd (isK h1 a4 7) (cv (f_E_init (hpN h) (hpI h1 a4 0) h1) fun h7 => bd (l_X_copyOf_14 p1 (some (hpN h)) ((0 : Int32), h7)) fun x33 => some ((some (hpN h)), x33))
set_option maxRecDepth 100000 in
set_option maxHeartbeats 4000000 in
theorem zf_X_copyOf {l : Launch} {C : Ct} {mi : Nat} {p1 : Option Nat} {h h' : Hp} {v : Option Nat} (hf : f_X_copyOf p1 h = some (v, h')) : Z l C mi m_X_copyOf 3 0 [(0, vr p1)] [] h (some (vr v)) h' := by
  unfold f_X_copyOf at hf
  obtain ⟨h1, eh2, hf⟩ := nm_some hf
  refine z_new (κ := 4) d_X_copyOf_0 rfl (by decide +kernel) ?_
  refine z_hp eh2 ?_
  refine z_dup d_X_copyOf_3 rfl ?_
  refine z_aload_n 0 d_X_copyOf_4 rfl rfl ?_
  obtain ⟨a4, e5, hf⟩ := dr_some hf
  obtain ⟨g6, hf⟩ := gd_some hf
  refine z_getI d_X_copyOf_5 (fl_K (isK_eq g6) fl_X_105_7) (fi_K (isK_eq g6) rfl) e5 ?_
  obtain ⟨h7, ec8, hf⟩ := cv_some hf
  refine z_callI (c_E_init ec8) d_X_copyOf_8 rfl cw_E_init lk_X_235 im_E_init rfl ⟨by decide, by decide⟩ (Nat.le_of_ble_eq_true rfl) rfl ?_
  refine z_astore_n (ls2 := [(1, vr (some (hpN h))), (0, vr p1)]) d_X_copyOf_11 rfl (by decide) rfl ?_
  refine z_iconst (v := (0 : Int32)) d_X_copyOf_12 (by decide) ?_
  refine z_istore_n (ls2 := [(2, vi (0 : Int32)), (1, vr (some (hpN h))), (0, vr p1)]) d_X_copyOf_13 rfl (by decide) rfl ?_
  obtain ⟨x33, el34, hf⟩ := bd_some hf
  refine z_ls [2, 1, 0] rfl ?_
  refine zl_X_copyOf_14 el34 ?_
  refine z_aload_n 0 d_X_copyOf_47 rfl rfl ?_
  obtain ⟨rfl, rfl⟩ := Prod.mk.inj (Option.some.inj hf)
  exact z_ret d_X_copyOf_48 rfl
set_option maxRecDepth 100000 in
set_option maxHeartbeats 4000000 in
theorem fr_X_copyOf {C : Ct} {mi : Nat} {p1 : Option Nat} {h h' : Hp} {v : Option Nat} (hf : f_X_copyOf p1 h = some (v, h')) : Keep W_X_copyOf h h' := by
  unfold f_X_copyOf at hf
  obtain ⟨h1, eh2, hf⟩ := nm_some hf
  have K3 := (Keep.refl W_X_copyOf _).trans (kw_N eh2)
  obtain ⟨a4, e5, hf⟩ := dr_some hf
  obtain ⟨g6, hf⟩ := gd_some hf
  obtain ⟨h7, ec8, hf⟩ := cv_some hf
  have K9 := K3.trans ((fr_E_init (C := C) (mi := mi) ec8).mono (by decide) (by decide))
  obtain ⟨x33, el34, hf⟩ := bd_some hf
  have K35 := K9.trans (kl_X_copyOf_14 (C := C) (mi := mi) el34)
  obtain ⟨rfl, rfl⟩ := Prod.mk.inj (Option.some.inj hf)
  exact K35
theorem c_X_copyOf {l : Launch} {C : Ct} {mi : Nat} {p1 : Option Nat} {h h' : Hp} {v : Option Nat} (hf : f_X_copyOf p1 h = some (v, h')) : Mt l C mi m_X_copyOf 3 [vr p1] h (some (vr v)) h' := mt_R rfl (Or.inl ⟨_, rfl⟩) rfl (by decide) (Nat.le_of_ble_eq_true rfl) (zf_X_copyOf hf)
-- VersionMaps.dropAbove(I)V
def m_X_dropAbove : Mi := (⟨"VersionMaps", "dropAbove", "(I)V"⟩, prog_1_method_25_code, 3, (Option.none : Option Jvm.ClassFile.FieldType), .return_)
theorem cw_X_dropAbove : cw_ok m_X_dropAbove 1 := ⟨by decide +kernel, by decide +kernel, by decide +kernel, by decide +kernel⟩
theorem im_X_dropAbove : Cond.instanceMethod m_X_dropAbove.1 ∈ lw_w := by decide +kernel
theorem se_X_dropAbove : Cond.selects "VersionMaps" m_X_dropAbove.1 m_X_dropAbove.1 ∈ lw_w := by decide +kernel
theorem d_X_dropAbove_0 : decode prog_1_method_25_code 0 = .ok (.aload_n 0, 1) := by decide +kernel
theorem d_X_dropAbove_1 : decode prog_1_method_25_code 1 = .ok (.getfield 30, 3) := by decide +kernel
theorem d_X_dropAbove_4 : decode prog_1_method_25_code 4 = .ok (.invokevirtual 183, 3) := by decide +kernel
theorem d_X_dropAbove_7 : decode prog_1_method_25_code 7 = .ok (.iconst 1, 1) := by decide +kernel
theorem d_X_dropAbove_8 : decode prog_1_method_25_code 8 = .ok (.isub, 1) := by decide +kernel
theorem d_X_dropAbove_9 : decode prog_1_method_25_code 9 = .ok (.istore_n 2, 1) := by decide +kernel
theorem d_X_dropAbove_10 : decode prog_1_method_25_code 10 = .ok (.iload_n 2, 1) := by decide +kernel
theorem d_X_dropAbove_11 : decode prog_1_method_25_code 11 = .ok (.ifCond .lt 36, 3) := by decide +kernel
theorem d_X_dropAbove_14 : decode prog_1_method_25_code 14 = .ok (.aload_n 0, 1) := by decide +kernel
theorem d_X_dropAbove_15 : decode prog_1_method_25_code 15 = .ok (.getfield 30, 3) := by decide +kernel
theorem d_X_dropAbove_18 : decode prog_1_method_25_code 18 = .ok (.iload_n 2, 1) := by decide +kernel
theorem d_X_dropAbove_19 : decode prog_1_method_25_code 19 = .ok (.invokevirtual 186, 3) := by decide +kernel
theorem d_X_dropAbove_22 : decode prog_1_method_25_code 22 = .ok (.checkcast 33, 3) := by decide +kernel
theorem d_X_dropAbove_25 : decode prog_1_method_25_code 25 = .ok (.getfield 105, 3) := by decide +kernel
theorem d_X_dropAbove_28 : decode prog_1_method_25_code 28 = .ok (.iload_n 1, 1) := by decide +kernel
theorem d_X_dropAbove_29 : decode prog_1_method_25_code 29 = .ok (.if_icmp .le 12, 3) := by decide +kernel
theorem d_X_dropAbove_32 : decode prog_1_method_25_code 32 = .ok (.aload_n 0, 1) := by decide +kernel
theorem d_X_dropAbove_33 : decode prog_1_method_25_code 33 = .ok (.getfield 30, 3) := by decide +kernel
theorem d_X_dropAbove_36 : decode prog_1_method_25_code 36 = .ok (.iload_n 2, 1) := by decide +kernel
theorem d_X_dropAbove_37 : decode prog_1_method_25_code 37 = .ok (.invokevirtual 244, 3) := by decide +kernel
theorem d_X_dropAbove_40 : decode prog_1_method_25_code 40 = .ok (.pop, 1) := by decide +kernel
theorem d_X_dropAbove_41 : decode prog_1_method_25_code 41 = .ok (.iinc 2 (-1), 3) := by decide +kernel
theorem d_X_dropAbove_44 : decode prog_1_method_25_code 44 = .ok (.goto (-34), 3) := by decide +kernel
theorem d_X_dropAbove_47 : decode prog_1_method_25_code 47 = .ok (.return_, 1) := by decide +kernel
def W_X_dropAbove : Wl := ([(9, 1), (9, 2)], [73, 74])
def b_X_dropAbove_10 (y0 : Nat) (y1 : Int32) (y2 : Int32) (h : Hp) : Option ((Int32 × Hp) ⊕ (Hp)) :=
  if y2 < 0 then (some (.inr h)) else (gd (isK h y0 0) (dr (hpR h y0 3) fun a11 => gd (isK h a11 9) (cl (f_A_get a11 y2 h) fun v16 h14 => gd (caB h14 v16 7) (dr v16 fun a19 => gd (isK h14 a19 7) (if (hpI h14 a19 0) ≤ y1 then (some (.inl ((y2 + (-1 : Int32)), h14))) else (gd (isK h14 y0 0) (dr (hpR h14 y0 3) fun a24 => gd (isK h14 a24 9) (cl (f_A_remove a24 y2 h14) fun v29 h27 => some (.inl ((y2 + (-1 : Int32)), h27))))))))))
set_option maxRecDepth 100000 in
set_option maxHeartbeats 4000000 in
theorem zb_X_dropAbove_10 {l : Launch} {C : Ct} {mi : Nat} {y0 : Nat} {y1 : Int32} {y2 : Int32} {h h' : Hp} {q : ((Int32 × Hp) ⊕ (Hp))} (hf : b_X_dropAbove_10 y0 y1 y2 h = some q) (kc : ∀ s, q = .inl s → Z l C mi m_X_dropAbove 3 10 [(0, vr (some y0)), (1, vi y1), (2, vi s.1)] [] s.2 none h') (ke : ∀ x, q = .inr x → Z l C mi m_X_dropAbove 3 47 [] [] x none h') : Z l C mi m_X_dropAbove 3 10 [(0, vr (some y0)), (1, vi y1), (2, vi y2)] [] h none h' := by
  unfold b_X_dropAbove_10 at hf
  refine z_iload_n 2 d_X_dropAbove_10 rfl rfl ?_
  refine z_if_lt (tgt := 47) d_X_dropAbove_11 (by decide) (fun c9 => ?_) (fun c9 => ?_)
  · rw [if_pos c9] at hf
    refine z_ls [] rfl ?_
    exact ke h (Option.some.inj hf).symm
  · rw [if_neg c9] at hf
    refine z_aload_n 0 d_X_dropAbove_14 rfl rfl ?_
    obtain ⟨g10, hf⟩ := gd_some hf
    refine z_getR d_X_dropAbove_15 (fl_K (isK_eq g10) fl_X_30_0) (fi_K (isK_eq g10) rfl) rfl ?_
    refine z_iload_n 2 d_X_dropAbove_18 rfl rfl ?_
    obtain ⟨a11, e12, hf⟩ := dr_some hf
    obtain ⟨g13, hf⟩ := gd_some hf
    obtain ⟨v16, h14, ec15, hf⟩ := cl_some hf
    refine z_callVx e12 (c_A_get ec15) d_X_dropAbove_19 cw_A_get lk_X_186 im_A_get se_A_get (kc_K (isK_eq g13) kc_9) ⟨by decide, by decide⟩ (Nat.le_of_ble_eq_true rfl) rfl ?_
    obtain ⟨g18, hf⟩ := gd_some hf
    refine z_cast d_X_dropAbove_22 (nm := "VersionMaps$Version") (by decide +kernel) (caB_ok (κ := 7) g18 rfl (by decide +kernel)) ?_
    obtain ⟨a19, e20, hf⟩ := dr_some hf
    obtain ⟨g21, hf⟩ := gd_some hf
    refine z_getI d_X_dropAbove_25 (fl_K (isK_eq g21) fl_X_105_7) (fi_K (isK_eq g21) rfl) e20 ?_
    refine z_iload_n 1 d_X_dropAbove_28 rfl rfl ?_
    refine z_icmp_le (tgt := 41) d_X_dropAbove_29 (by decide) (fun c22 => ?_) (fun c22 => ?_)
    · rw [if_pos c22] at hf
      refine z_iinc (ls2 := [(2, vi (y2 + (-1 : Int32))), (0, vr (some y0)), (1, vi y1)]) 2 d_X_dropAbove_41 rfl rfl (by decide) rfl ?_
      refine z_goto (tgt := 10) d_X_dropAbove_44 (by decide) ?_
      refine z_ls [1, 2, 0] rfl ?_
      exact kc ((y2 + (-1 : Int32)), h14) (Option.some.inj hf).symm
    · rw [if_neg c22] at hf
      refine z_aload_n 0 d_X_dropAbove_32 rfl rfl ?_
      obtain ⟨g23, hf⟩ := gd_some hf
      refine z_getR d_X_dropAbove_33 (fl_K (isK_eq g23) fl_X_30_0) (fi_K (isK_eq g23) rfl) rfl ?_
      refine z_iload_n 2 d_X_dropAbove_36 rfl rfl ?_
      obtain ⟨a24, e25, hf⟩ := dr_some hf
      obtain ⟨g26, hf⟩ := gd_some hf
      obtain ⟨v29, h27, ec28, hf⟩ := cl_some hf
      refine z_callVx e25 (c_A_remove ec28) d_X_dropAbove_37 cw_A_remove lk_X_244 im_A_remove se_A_remove (kc_K (isK_eq g26) kc_9) ⟨by decide, by decide⟩ (Nat.le_of_ble_eq_true rfl) rfl ?_
      refine z_pop d_X_dropAbove_40 rfl ?_
      refine z_iinc (ls2 := [(2, vi (y2 + (-1 : Int32))), (0, vr (some y0)), (1, vi y1)]) 2 d_X_dropAbove_41 rfl rfl (by decide) rfl ?_
      refine z_goto (tgt := 10) d_X_dropAbove_44 (by decide) ?_
      refine z_ls [1, 2, 0] rfl ?_
      exact kc ((y2 + (-1 : Int32)), h27) (Option.some.inj hf).symm
set_option maxRecDepth 100000 in
set_option maxHeartbeats 4000000 in
theorem kb_X_dropAbove_10 {C : Ct} {mi : Nat} {y0 : Nat} {y1 : Int32} {y2 : Int32} {h : Hp} {q : ((Int32 × Hp) ⊕ (Hp))} (hf : b_X_dropAbove_10 y0 y1 y2 h = some q) : Keep W_X_dropAbove h (Sum.elim (fun s : Int32 × Hp => s.2) (fun x : Hp => x) q) := by
  unfold b_X_dropAbove_10 at hf
  rcases Classical.em (y2 < 0) with c9 | c9
  · rw [if_pos c9] at hf
    cases (Option.some.inj hf)
    exact (Keep.refl W_X_dropAbove _)
  · rw [if_neg c9] at hf
    obtain ⟨g10, hf⟩ := gd_some hf
    obtain ⟨a11, e12, hf⟩ := dr_some hf
    obtain ⟨g13, hf⟩ := gd_some hf
    obtain ⟨v16, h14, ec15, hf⟩ := cl_some hf
    have K17 := (Keep.refl W_X_dropAbove _).trans ((fr_A_get (C := C) (mi := mi) ec15).mono (by decide) (by decide))
    obtain ⟨g18, hf⟩ := gd_some hf
    obtain ⟨a19, e20, hf⟩ := dr_some hf
    obtain ⟨g21, hf⟩ := gd_some hf
    rcases Classical.em ((hpI h14 a19 0) ≤ y1) with c22 | c22
    · rw [if_pos c22] at hf
      cases (Option.some.inj hf)
      exact K17
    · rw [if_neg c22] at hf
      obtain ⟨g23, hf⟩ := gd_some hf
      obtain ⟨a24, e25, hf⟩ := dr_some hf
      obtain ⟨g26, hf⟩ := gd_some hf
      obtain ⟨v29, h27, ec28, hf⟩ := cl_some hf
      have K30 := K17.trans ((fr_A_remove (C := C) (mi := mi) ec28).mono (by decide) (by decide))
      cases (Option.some.inj hf)
      exact K30
def l_X_dropAbove_10 (y0 : Nat) (y1 : Int32) (s : Int32 × Hp) : Option (Hp) := lp (fun s => b_X_dropAbove_10 y0 y1 s.1 s.2) FU s
theorem zzl_X_dropAbove_10 {l : Launch} {C : Ct} {mi : Nat} {y0 : Nat} {y1 : Int32} {h' : Hp} : ∀ (n : Nat) (s : Int32 × Hp) (x : (Hp)), lp (fun s : Int32 × Hp => b_X_dropAbove_10 y0 y1 s.1 s.2) n s = some x → Z l C mi m_X_dropAbove 3 47 [] [] x none h' → Z l C mi m_X_dropAbove 3 10 [(0, vr (some y0)), (1, vi y1), (2, vi s.1)] [] s.2 none h' := by
  intro n
  induction n with
  | zero => intro s x hl; cases hl
  | succ n ih =>
    intro s x hl ke
    rcases lp_some hl with ⟨s2, hb, hl2⟩ | hb
    · exact zb_X_dropAbove_10 hb (fun s3 e3 => by cases e3; refine z_ls [0, 1, 2] rfl ?_; exact ih s2 x hl2 ke) (fun x e3 => by cases e3)
    · exact zb_X_dropAbove_10 hb (fun s3 e3 => by cases e3) (fun x e3 => by cases e3; exact ke)
theorem zl_X_dropAbove_10 {l : Launch} {C : Ct} {mi : Nat} {y0 : Nat} {y1 : Int32} {h' : Hp} {s : Int32 × Hp} {x : (Hp)} (hl : l_X_dropAbove_10 y0 y1 s = some x) (ke : Z l C mi m_X_dropAbove 3 47 [] [] x none h') : Z l C mi m_X_dropAbove 3 10 [(0, vr (some y0)), (1, vi y1), (2, vi s.1)] [] s.2 none h' := zzl_X_dropAbove_10 FU s x hl ke
theorem kl_X_dropAbove_10 {C : Ct} {mi : Nat} {y0 : Nat} {y1 : Int32} {s : Int32 × Hp} {q : (Hp)} (hl : l_X_dropAbove_10 y0 y1 s = some q) : Keep W_X_dropAbove s.2 ((fun x : Hp => x) q) := lpk (sh := (fun s : Int32 × Hp => s.2)) (rh := (fun x : Hp => x)) (fun s q hb => kb_X_dropAbove_10 (C := C) (mi := mi) hb) FU s q hl
def f_X_dropAbove (a0 : Nat) (p1 : Int32) (h : Hp) : Option Hp :=
  gd (isK h a0 0) (dr (hpR h a0 3) fun a2 => gd (isK h a2 9) (cl (f_A_size a2 h) fun v7 h5 => bd (l_X_dropAbove_10 a0 p1 ((v7 - (1 : Int32)), h5)) fun x31 => some x31))
set_option maxRecDepth 100000 in
set_option maxHeartbeats 4000000 in
theorem zf_X_dropAbove {l : Launch} {C : Ct} {mi : Nat} {a0 : Nat} {p1 : Int32} {h h' : Hp} (hf : f_X_dropAbove a0 p1 h = some h') : Z l C mi m_X_dropAbove 3 0 [(0, vr (some a0)), (1, vi p1)] [] h none h' := by
  unfold f_X_dropAbove at hf
  refine z_aload_n 0 d_X_dropAbove_0 rfl rfl ?_
  obtain ⟨g1, hf⟩ := gd_some hf
  refine z_getR d_X_dropAbove_1 (fl_K (isK_eq g1) fl_X_30_0) (fi_K (isK_eq g1) rfl) rfl ?_
  obtain ⟨a2, e3, hf⟩ := dr_some hf
  obtain ⟨g4, hf⟩ := gd_some hf
  obtain ⟨v7, h5, ec6, hf⟩ := cl_some hf
  refine z_callVx e3 (c_A_size ec6) d_X_dropAbove_4 cw_A_size lk_X_183 im_A_size se_A_size (kc_K (isK_eq g4) kc_9) ⟨by decide, by decide⟩ (Nat.le_of_ble_eq_true rfl) rfl ?_
  refine z_iconst (v := (1 : Int32)) d_X_dropAbove_7 (by decide) ?_
  refine z_isub d_X_dropAbove_8 ?_
  refine z_istore_n (ls2 := [(2, vi (v7 - (1 : Int32))), (0, vr (some a0)), (1, vi p1)]) d_X_dropAbove_9 rfl (by decide) rfl ?_
  obtain ⟨x31, el32, hf⟩ := bd_some hf
  refine z_ls [1, 2, 0] rfl ?_
  refine zl_X_dropAbove_10 el32 ?_
  cases (Option.some.inj hf)
  exact z_ret d_X_dropAbove_47 rfl
set_option maxRecDepth 100000 in
set_option maxHeartbeats 4000000 in
theorem fr_X_dropAbove {C : Ct} {mi : Nat} {a0 : Nat} {p1 : Int32} {h h' : Hp} (hf : f_X_dropAbove a0 p1 h = some h') : Keep W_X_dropAbove h h' := by
  unfold f_X_dropAbove at hf
  obtain ⟨g1, hf⟩ := gd_some hf
  obtain ⟨a2, e3, hf⟩ := dr_some hf
  obtain ⟨g4, hf⟩ := gd_some hf
  obtain ⟨v7, h5, ec6, hf⟩ := cl_some hf
  have K8 := (Keep.refl W_X_dropAbove _).trans ((fr_A_size (C := C) (mi := mi) ec6).mono (by decide) (by decide))
  obtain ⟨x31, el32, hf⟩ := bd_some hf
  have K33 := K8.trans (kl_X_dropAbove_10 (C := C) (mi := mi) el32)
  cases (Option.some.inj hf)
  exact K33
theorem c_X_dropAbove {l : Launch} {C : Ct} {mi : Nat} {a0 : Nat} {p1 : Int32} {h h' : Hp} (hf : f_X_dropAbove a0 p1 h = some h') : Mt l C mi m_X_dropAbove 3 [vr (some a0), vi p1] h none h' := mt_V rfl rfl (by decide) (Nat.le_of_ble_eq_true rfl) (zf_X_dropAbove hf)
-- VersionMaps.rollback(I)I
def m_X_rollback : Mi := (⟨"VersionMaps", "rollback", "(I)I"⟩, prog_1_method_8_code, 5, (Option.some Jvm.ClassFile.FieldType.int), .ireturn)
theorem cw_X_rollback : cw_ok m_X_rollback 1 := ⟨by decide +kernel, by decide +kernel, by decide +kernel, by decide +kernel⟩
theorem im_X_rollback : Cond.instanceMethod m_X_rollback.1 ∈ lw_w := by decide +kernel
theorem se_X_rollback : Cond.selects "VersionMaps" m_X_rollback.1 m_X_rollback.1 ∈ lw_w := by decide +kernel
theorem d_X_rollback_0 : decode prog_1_method_8_code 0 = .ok (.aload_n 0, 1) := by decide +kernel
theorem d_X_rollback_1 : decode prog_1_method_8_code 1 = .ok (.iload_n 1, 1) := by decide +kernel
theorem d_X_rollback_2 : decode prog_1_method_8_code 2 = .ok (.invokevirtual 79, 3) := by decide +kernel
theorem d_X_rollback_5 : decode prog_1_method_8_code 5 = .ok (.astore_n 2, 1) := by decide +kernel
theorem d_X_rollback_6 : decode prog_1_method_8_code 6 = .ok (.aload_n 2, 1) := by decide +kernel
theorem d_X_rollback_7 : decode prog_1_method_8_code 7 = .ok (.ifnonnull 6, 3) := by decide +kernel
theorem d_X_rollback_10 : decode prog_1_method_8_code 10 = .ok (.bipush (-3), 2) := by decide +kernel
theorem d_X_rollback_12 : decode prog_1_method_8_code 12 = .ok (.ireturn, 1) := by decide +kernel
theorem d_X_rollback_13 : decode prog_1_method_8_code 13 = .ok (.aload_n 0, 1) := by decide +kernel
theorem d_X_rollback_14 : decode prog_1_method_8_code 14 = .ok (.getfield 19, 3) := by decide +kernel
theorem d_X_rollback_17 : decode prog_1_method_8_code 17 = .ok (.iconst 1, 1) := by decide +kernel
theorem d_X_rollback_18 : decode prog_1_method_8_code 18 = .ok (.invokevirtual 116, 3) := by decide +kernel
theorem d_X_rollback_21 : decode prog_1_method_8_code 21 = .ok (.istore_n 3, 1) := by decide +kernel
theorem d_X_rollback_22 : decode prog_1_method_8_code 22 = .ok (.iload_n 3, 1) := by decide +kernel
theorem d_X_rollback_23 : decode prog_1_method_8_code 23 = .ok (.ifCond .ge 6, 3) := by decide +kernel
theorem d_X_rollback_26 : decode prog_1_method_8_code 26 = .ok (.bipush (-2), 2) := by decide +kernel
theorem d_X_rollback_28 : decode prog_1_method_8_code 28 = .ok (.ireturn, 1) := by decide +kernel
theorem d_X_rollback_29 : decode prog_1_method_8_code 29 = .ok (.new 119, 3) := by decide +kernel
theorem d_X_rollback_32 : decode prog_1_method_8_code 32 = .ok (.dup, 1) := by decide +kernel
theorem d_X_rollback_33 : decode prog_1_method_8_code 33 = .ok (.aload_n 0, 1) := by decide +kernel
theorem d_X_rollback_34 : decode prog_1_method_8_code 34 = .ok (.getfield 46, 3) := by decide +kernel
theorem d_X_rollback_37 : decode prog_1_method_8_code 37 = .ok (.iload_n 3, 1) := by decide +kernel
theorem d_X_rollback_38 : decode prog_1_method_8_code 38 = .ok (.iconst 1, 1) := by decide +kernel
theorem d_X_rollback_39 : decode prog_1_method_8_code 39 = .ok (.invokespecial 121, 3) := by decide +kernel
theorem d_X_rollback_42 : decode prog_1_method_8_code 42 = .ok (.astore 4, 2) := by decide +kernel
theorem d_X_rollback_44 : decode prog_1_method_8_code 44 = .ok (.aload 4, 2) := by decide +kernel
theorem d_X_rollback_46 : decode prog_1_method_8_code 46 = .ok (.aload_n 2, 1) := by decide +kernel
theorem d_X_rollback_47 : decode prog_1_method_8_code 47 = .ok (.invokestatic 138, 3) := by decide +kernel
theorem d_X_rollback_50 : decode prog_1_method_8_code 50 = .ok (.invokevirtual 142, 3) := by decide +kernel
theorem d_X_rollback_53 : decode prog_1_method_8_code 53 = .ok (.aload_n 2, 1) := by decide +kernel
theorem d_X_rollback_54 : decode prog_1_method_8_code 54 = .ok (.aload 4, 2) := by decide +kernel
theorem d_X_rollback_56 : decode prog_1_method_8_code 56 = .ok (.getfield 130, 3) := by decide +kernel
theorem d_X_rollback_59 : decode prog_1_method_8_code 59 = .ok (.putfield 83, 3) := by decide +kernel
theorem d_X_rollback_62 : decode prog_1_method_8_code 62 = .ok (.aload_n 0, 1) := by decide +kernel
theorem d_X_rollback_63 : decode prog_1_method_8_code 63 = .ok (.aload_n 2, 1) := by decide +kernel
theorem d_X_rollback_64 : decode prog_1_method_8_code 64 = .ok (.putfield 38, 3) := by decide +kernel
theorem d_X_rollback_67 : decode prog_1_method_8_code 67 = .ok (.aload_n 0, 1) := by decide +kernel
theorem d_X_rollback_68 : decode prog_1_method_8_code 68 = .ok (.getfield 10, 3) := by decide +kernel
theorem d_X_rollback_71 : decode prog_1_method_8_code 71 = .ok (.aload_n 0, 1) := by decide +kernel
theorem d_X_rollback_72 : decode prog_1_method_8_code 72 = .ok (.getfield 38, 3) := by decide +kernel
theorem d_X_rollback_75 : decode prog_1_method_8_code 75 = .ok (.getfield 83, 3) := by decide +kernel
theorem d_X_rollback_78 : decode prog_1_method_8_code 78 = .ok (.invokevirtual 146, 3) := by decide +kernel
theorem d_X_rollback_81 : decode prog_1_method_8_code 81 = .ok (.aload_n 0, 1) := by decide +kernel
theorem d_X_rollback_82 : decode prog_1_method_8_code 82 = .ok (.aload 4, 2) := by decide +kernel
theorem d_X_rollback_84 : decode prog_1_method_8_code 84 = .ok (.invokevirtual 131, 3) := by decide +kernel
theorem d_X_rollback_87 : decode prog_1_method_8_code 87 = .ok (.aload_n 0, 1) := by decide +kernel
theorem d_X_rollback_88 : decode prog_1_method_8_code 88 = .ok (.aload_n 2, 1) := by decide +kernel
theorem d_X_rollback_89 : decode prog_1_method_8_code 89 = .ok (.getfield 105, 3) := by decide +kernel
theorem d_X_rollback_92 : decode prog_1_method_8_code 92 = .ok (.invokevirtual 149, 3) := by decide +kernel
theorem d_X_rollback_95 : decode prog_1_method_8_code 95 = .ok (.aload_n 0, 1) := by decide +kernel
theorem d_X_rollback_96 : decode prog_1_method_8_code 96 = .ok (.invokevirtual 135, 3) := by decide +kernel
theorem d_X_rollback_99 : decode prog_1_method_8_code 99 = .ok (.aload 4, 2) := by decide +kernel
theorem d_X_rollback_101 : decode prog_1_method_8_code 101 = .ok (.getfield 153, 3) := by decide +kernel
theorem d_X_rollback_104 : decode prog_1_method_8_code 104 = .ok (.ireturn, 1) := by decide +kernel
def W_X_rollback : Wl := ([(0, 4), (0, 6), (0, 7), (1, 5), (2, 0), (2, 1), (2, 2), (2, 3), (2, 4), (3, 0), (3, 1), (3, 2), (4, 0), (4, 1), (4, 2), (4, 3), (4, 4), (5, 2), (5, 3), (6, 0), (6, 1), (6, 2), (7, 1), (9, 0), (9, 1), (9, 2)], [66, 67, 68, 70, 71, 72, 73, 74, 103, 104])
def f_X_rollback (E : Nat × Nat) (a0 : Nat) (p1 : Int32) (h : Hp) : Option (Int32 × Hp) :=
  gd (isK h a0 0) (cl (f_X_findVersion a0 p1 h) fun v4 h2 => if v4 = none then (some ((-3 : Int32), h2)) else (gd (isK h2 a0 0) (dr (hpR h2 a0 1) fun a8 => gd (isK h2 a8 1) (cl (f_F_findFreeRow a8 (1 : Int32) h2) fun v13 h11 => if 0 ≤ v13 then (nm (nw h11 2 0 5) fun h16 => gd (isK h16 a0 0) (cv (f_K_init (hpN h11) (hpI h16 a0 6) v13 (1 : Int32) h16) fun h20 => cl (f_X_copyOf v4 h20) fun v25 h23 => gd (isK h23 (hpN h11) 2) (cv (f_K_close (hpN h11) v25 h23) fun h28 => gd (isK h28 (hpN h11) 2) (dr v4 fun a32 => gd (isK h28 a32 7) (nm (wR h28 a32 1 (hpR h28 (hpN h11) 4)) fun h35 => gd (isK h35 a0 0) (nm (wR h35 a0 4 v4) fun h39 => dr (hpR h39 a0 4) fun a42 => gd (isK h39 a42 7) (dr (hpR h39 a0 0) fun a45 => gd (isK h39 a45 5) (cv (f_P_load a45 (hpR h39 a42 1) h39) fun h48 => gd (isK h48 a0 0) (cv (f_X_writeToFile E a0 (some (hpN h11)) h48) fun h52 => gd (isK h52 a32 7) (gd (isK h52 a0 0) (cv (f_X_dropAbove a0 (hpI h52 a32 0) h52) fun h57 => gd (isK h57 a0 0) (cv (f_X_dropUnkept a0 h57) fun h61 => gd (isK h61 (hpN h11) 2) (some ((hpI h61 (hpN h11) 0), h61)))))))))))))) else (some ((-2 : Int32), h11))))))
set_option maxRecDepth 100000 in
set_option maxHeartbeats 4000000 in
theorem zf_X_rollback {l : Launch} {C : Ct} {mi : Nat} {a0 : Nat} {p1 : Int32} {h h' : Hp} {v : Int32} (hf : f_X_rollback (cE C, mi) a0 p1 h = some (v, h')) : Z l C mi m_X_rollback 8 0 [(0, vr (some a0)), (1, vi p1)] [] h (some (vi v)) h' := by
  unfold f_X_rollback at hf
  refine z_aload_n 0 d_X_rollback_0 rfl rfl ?_
  refine z_iload_n 1 d_X_rollback_1 rfl rfl ?_
  obtain ⟨g1, hf⟩ := gd_some hf
  obtain ⟨v4, h2, ec3, hf⟩ := cl_some hf
  refine z_callVx rfl (c_X_findVersion ec3) d_X_rollback_2 cw_X_findVersion lk_X_79 im_X_findVersion se_X_findVersion (kc_K (isK_eq g1) kc_0) ⟨by decide, by decide⟩ (Nat.le_of_ble_eq_true rfl) rfl ?_
  refine z_astore_n (ls2 := [(2, vr v4), (0, vr (some a0)), (1, vi p1)]) d_X_rollback_5 rfl (by decide) rfl ?_
  refine z_aload_n 0 d_X_rollback_6 rfl rfl ?_
  refine z_ifnonnull (tgt := 13) d_X_rollback_7 (by decide) (fun c6 => ?_) (fun c6 => ?_)
  · rw [if_neg c6] at hf
    refine z_aload_n 1 d_X_rollback_13 rfl rfl ?_
    obtain ⟨g7, hf⟩ := gd_some hf
    refine z_getR d_X_rollback_14 (fl_K (isK_eq g7) fl_X_19_0) (fi_K (isK_eq g7) rfl) rfl ?_
    refine z_iconst (v := (1 : Int32)) d_X_rollback_17 (by decide) ?_
    obtain ⟨a8, e9, hf⟩ := dr_some hf
    obtain ⟨g10, hf⟩ := gd_some hf
    obtain ⟨v13, h11, ec12, hf⟩ := cl_some hf
    refine z_callVx e9 (c_F_findFreeRow ec12) d_X_rollback_18 cw_F_findFreeRow lk_X_116 im_F_findFreeRow se_F_findFreeRow (kc_K (isK_eq g10) kc_1) ⟨by decide, by decide⟩ (Nat.le_of_ble_eq_true rfl) rfl ?_
    refine z_istore_n (ls2 := [(3, vi v13), (2, vr v4), (0, vr (some a0)), (1, vi p1)]) d_X_rollback_21 rfl (by decide) rfl ?_
    refine z_iload_n 0 d_X_rollback_22 rfl rfl ?_
    refine z_if_ge (tgt := 29) d_X_rollback_23 (by decide) (fun c15 => ?_) (fun c15 => ?_)
    · rw [if_pos c15] at hf
      obtain ⟨h16, eh17, hf⟩ := nm_some hf
      refine z_new (κ := 2) d_X_rollback_29 rfl (by decide +kernel) ?_
      refine z_hp eh17 ?_
      refine z_dup d_X_rollback_32 rfl ?_
      refine z_aload_n 2 d_X_rollback_33 rfl rfl ?_
      obtain ⟨g19, hf⟩ := gd_some hf
      refine z_getI d_X_rollback_34 (fl_K (isK_eq g19) fl_X_46_0) (fi_K (isK_eq g19) rfl) rfl ?_
      refine z_iload_n 0 d_X_rollback_37 rfl rfl ?_
      refine z_iconst (v := (1 : Int32)) d_X_rollback_38 (by decide) ?_
      obtain ⟨h20, ec21, hf⟩ := cv_some hf
      refine z_callI (c_K_init ec21) d_X_rollback_39 rfl cw_K_init lk_X_121 im_K_init rfl ⟨by decide, by decide⟩ (Nat.le_of_ble_eq_true rfl) rfl ?_
      refine z_astore (ls2 := [(4, vr (some (hpN h11))), (3, vi v13), (2, vr v4), (0, vr (some a0)), (1, vi p1)]) d_X_rollback_42 (by decide) rfl ?_
      refine z_aload 0 d_X_rollback_44 rfl ?_
      refine z_aload_n 2 d_X_rollback_46 rfl rfl ?_
      obtain ⟨v25, h23, ec24, hf⟩ := cl_some hf
      refine z_callS (c_X_copyOf ec24) d_X_rollback_47 cw_X_copyOf lk_X_138 (by decide +kernel) ⟨by decide, by decide⟩ (Nat.le_of_ble_eq_true rfl) rfl ?_
      obtain ⟨g27, hf⟩ := gd_some hf
      obtain ⟨h28, ec29, hf⟩ := cv_some hf
      refine z_callVx rfl (c_K_close ec29) d_X_rollback_50 cw_K_close lk_X_142 im_K_close se_K_close (kc_K (isK_eq g27) kc_2) ⟨by decide, by decide⟩ (Nat.le_of_ble_eq_true rfl) rfl ?_
      refine z_aload_n 2 d_X_rollback_53 rfl rfl ?_
      refine z_aload 0 d_X_rollback_54 rfl ?_
      obtain ⟨g31, hf⟩ := gd_some hf
      refine z_getR d_X_rollback_56 (fl_K (isK_eq g31) fl_X_130_2) (fi_K (isK_eq g31) rfl) rfl ?_
      obtain ⟨a32, e33, hf⟩ := dr_some hf
      obtain ⟨g34, hf⟩ := gd_some hf
      obtain ⟨h35, eh36, hf⟩ := nm_some hf
      refine z_putR d_X_rollback_59 (fl_K (isK_eq g34) fl_X_83_7) (pu_K (isK_eq g34) (fun q hq => by cases (Option.some.inj hq); exact Or.inl rfl)) (fi_K (isK_eq g34) rfl) e33 ?_
      refine z_hp eh36 ?_
      refine z_aload_n 3 d_X_rollback_62 rfl rfl ?_
      refine z_aload_n 2 d_X_rollback_63 rfl rfl ?_
      obtain ⟨g38, hf⟩ := gd_some hf
      obtain ⟨h39, eh40, hf⟩ := nm_some hf
      refine z_putR d_X_rollback_64 (fl_K (isK_eq g38) fl_X_38_0) (pu_K (isK_eq g38) (fun q hq => by cases (Option.some.inj hq); exact Or.inl rfl)) (fi_K (isK_eq g38) rfl) rfl ?_
      refine z_hp eh40 ?_
      refine z_aload_n 3 d_X_rollback_67 rfl rfl ?_
      refine z_getR d_X_rollback_68 (fl_K (isK_eq (isK_wR eh40 g38)) fl_X_10_0) (fi_K (isK_eq (isK_wR eh40 g38)) rfl) rfl ?_
      refine z_aload_n 3 d_X_rollback_71 rfl rfl ?_
      refine z_getR d_X_rollback_72 (fl_K (isK_eq (isK_wR eh40 g38)) fl_X_38_0) (fi_K (isK_eq (isK_wR eh40 g38)) rfl) rfl ?_
      obtain ⟨a42, e43, hf⟩ := dr_some hf
      obtain ⟨g44, hf⟩ := gd_some hf
      refine z_getR d_X_rollback_75 (fl_K (isK_eq g44) fl_X_83_7) (fi_K (isK_eq g44) rfl) e43 ?_
      obtain ⟨a45, e46, hf⟩ := dr_some hf
      obtain ⟨g47, hf⟩ := gd_some hf
      obtain ⟨h48, ec49, hf⟩ := cv_some hf
      refine z_callVx e46 (c_P_load ec49) d_X_rollback_78 cw_P_load lk_X_146 im_P_load se_P_load (kc_K (isK_eq g47) kc_5) ⟨by decide, by decide⟩ (Nat.le_of_ble_eq_true rfl) rfl ?_
      refine z_aload_n 3 d_X_rollback_81 rfl rfl ?_
      refine z_aload 0 d_X_rollback_82 rfl ?_
      obtain ⟨g51, hf⟩ := gd_some hf
      obtain ⟨h52, ec53, hf⟩ := cv_some hf
      refine z_callVx rfl (c_X_writeToFile ec53) d_X_rollback_84 cw_X_writeToFile lk_X_131 im_X_writeToFile se_X_writeToFile (kc_K (isK_eq g51) kc_0) ⟨by decide, by decide⟩ (Nat.le_of_ble_eq_true rfl) rfl ?_
      refine z_aload_n 3 d_X_rollback_87 rfl rfl ?_
      refine z_aload_n 2 d_X_rollback_88 rfl rfl ?_
      obtain ⟨g55, hf⟩ := gd_some hf
      refine z_getI d_X_rollback_89 (fl_K (isK_eq g55) fl_X_105_7) (fi_K (isK_eq g55) rfl) e33 ?_
      obtain ⟨g56, hf⟩ := gd_some hf
      obtain ⟨h57, ec58, hf⟩ := cv_some hf
      refine z_callVx rfl (c_X_dropAbove ec58) d_X_rollback_92 cw_X_dropAbove lk_X_149 im_X_dropAbove se_X_dropAbove (kc_K (isK_eq g56) kc_0) ⟨by decide, by decide⟩ (Nat.le_of_ble_eq_true rfl) rfl ?_
      refine z_aload_n 3 d_X_rollback_95 rfl rfl ?_
      obtain ⟨g60, hf⟩ := gd_some hf
      obtain ⟨h61, ec62, hf⟩ := cv_some hf
      refine z_callVx rfl (c_X_dropUnkept ec62) d_X_rollback_96 cw_X_dropUnkept lk_X_135 im_X_dropUnkept se_X_dropUnkept (kc_K (isK_eq g60) kc_0) ⟨by decide, by decide⟩ (Nat.le_of_ble_eq_true rfl) rfl ?_
      refine z_aload 0 d_X_rollback_99 rfl ?_
      obtain ⟨g64, hf⟩ := gd_some hf
      refine z_getI d_X_rollback_101 (fl_K (isK_eq g64) fl_X_153_2) (fi_K (isK_eq g64) rfl) rfl ?_
      obtain ⟨rfl, rfl⟩ := Prod.mk.inj (Option.some.inj hf)
      exact z_ret d_X_rollback_104 rfl
    · rw [if_neg c15] at hf
      refine z_bipush (v := (-2 : Int32)) d_X_rollback_26 (by decide) ?_
      obtain ⟨rfl, rfl⟩ := Prod.mk.inj (Option.some.inj hf)
      exact z_ret d_X_rollback_28 rfl
  · rw [if_pos c6] at hf
    refine z_bipush (v := (-3 : Int32)) d_X_rollback_10 (by decide) ?_
    obtain ⟨rfl, rfl⟩ := Prod.mk.inj (Option.some.inj hf)
    exact z_ret d_X_rollback_12 rfl
set_option maxRecDepth 100000 in
set_option maxHeartbeats 4000000 in
theorem fr_X_rollback {C : Ct} {mi : Nat} {a0 : Nat} {p1 : Int32} {h h' : Hp} {v : Int32} (hf : f_X_rollback (cE C, mi) a0 p1 h = some (v, h')) : Keep W_X_rollback h h' := by
  unfold f_X_rollback at hf
  obtain ⟨g1, hf⟩ := gd_some hf
  obtain ⟨v4, h2, ec3, hf⟩ := cl_some hf
  have K5 := (Keep.refl W_X_rollback _).trans ((fr_X_findVersion (C := C) (mi := mi) ec3).mono (by decide) (by decide))
  rcases (Classical.em (v4 = none)).symm with c6 | c6
  · rw [if_neg c6] at hf
    obtain ⟨g7, hf⟩ := gd_some hf
    obtain ⟨a8, e9, hf⟩ := dr_some hf
    obtain ⟨g10, hf⟩ := gd_some hf
    obtain ⟨v13, h11, ec12, hf⟩ := cl_some hf
    have K14 := K5.trans ((fr_F_findFreeRow (C := C) (mi := mi) ec12).mono (by decide) (by decide))
    rcases Classical.em (0 ≤ v13) with c15 | c15
    · rw [if_pos c15] at hf
      obtain ⟨h16, eh17, hf⟩ := nm_some hf
      have K18 := K14.trans (kw_N eh17)
      obtain ⟨g19, hf⟩ := gd_some hf
      obtain ⟨h20, ec21, hf⟩ := cv_some hf
      have K22 := K18.trans ((fr_K_init (C := C) (mi := mi) ec21).mono (by decide) (by decide))
      obtain ⟨v25, h23, ec24, hf⟩ := cl_some hf
      have K26 := K22.trans ((fr_X_copyOf (C := C) (mi := mi) ec24).mono (by decide) (by decide))
      obtain ⟨g27, hf⟩ := gd_some hf
      obtain ⟨h28, ec29, hf⟩ := cv_some hf
      have K30 := K26.trans ((fr_K_close (C := C) (mi := mi) ec29).mono (by decide) (by decide))
      obtain ⟨g31, hf⟩ := gd_some hf
      obtain ⟨a32, e33, hf⟩ := dr_some hf
      obtain ⟨g34, hf⟩ := gd_some hf
      obtain ⟨h35, eh36, hf⟩ := nm_some hf
      have K37 := K30.trans (kw_R eh36 (isK_eq g34) (Or.inl (by decide)))
      obtain ⟨g38, hf⟩ := gd_some hf
      obtain ⟨h39, eh40, hf⟩ := nm_some hf
      have K41 := K37.trans (kw_R eh40 (isK_eq g38) (Or.inl (by decide)))
      obtain ⟨a42, e43, hf⟩ := dr_some hf
      obtain ⟨g44, hf⟩ := gd_some hf
      obtain ⟨a45, e46, hf⟩ := dr_some hf
      obtain ⟨g47, hf⟩ := gd_some hf
      obtain ⟨h48, ec49, hf⟩ := cv_some hf
      have K50 := K41.trans ((fr_P_load (C := C) (mi := mi) ec49).mono (by decide) (by decide))
      obtain ⟨g51, hf⟩ := gd_some hf
      obtain ⟨h52, ec53, hf⟩ := cv_some hf
      have K54 := K50.trans ((fr_X_writeToFile (C := C) (mi := mi) ec53).mono (by decide) (by decide))
      obtain ⟨g55, hf⟩ := gd_some hf
      obtain ⟨g56, hf⟩ := gd_some hf
      obtain ⟨h57, ec58, hf⟩ := cv_some hf
      have K59 := K54.trans ((fr_X_dropAbove (C := C) (mi := mi) ec58).mono (by decide) (by decide))
      obtain ⟨g60, hf⟩ := gd_some hf
      obtain ⟨h61, ec62, hf⟩ := cv_some hf
      have K63 := K59.trans ((fr_X_dropUnkept (C := C) (mi := mi) ec62).mono (by decide) (by decide))
      obtain ⟨g64, hf⟩ := gd_some hf
      obtain ⟨rfl, rfl⟩ := Prod.mk.inj (Option.some.inj hf)
      exact K63
    · rw [if_neg c15] at hf
      obtain ⟨rfl, rfl⟩ := Prod.mk.inj (Option.some.inj hf)
      exact K14
  · rw [if_pos c6] at hf
    obtain ⟨rfl, rfl⟩ := Prod.mk.inj (Option.some.inj hf)
    exact K5
theorem c_X_rollback {l : Launch} {C : Ct} {mi : Nat} {a0 : Nat} {p1 : Int32} {h h' : Hp} {v : Int32} (hf : f_X_rollback (cE C, mi) a0 p1 h = some (v, h')) : Mt l C mi m_X_rollback 8 [vr (some a0), vi p1] h (some (vi v)) h' := mt_I (ty := .int) rfl rfl rfl (by decide) (Nat.le_of_ble_eq_true rfl) (zf_X_rollback hf)
-- VersionMaps.pin(I)I
def m_X_pin : Mi := (⟨"VersionMaps", "pin", "(I)I"⟩, prog_1_method_9_code, 3, (Option.some Jvm.ClassFile.FieldType.int), .ireturn)
theorem cw_X_pin : cw_ok m_X_pin 1 := ⟨by decide +kernel, by decide +kernel, by decide +kernel, by decide +kernel⟩
theorem im_X_pin : Cond.instanceMethod m_X_pin.1 ∈ lw_w := by decide +kernel
theorem se_X_pin : Cond.selects "VersionMaps" m_X_pin.1 m_X_pin.1 ∈ lw_w := by decide +kernel
theorem d_X_pin_0 : decode prog_1_method_9_code 0 = .ok (.aload_n 0, 1) := by decide +kernel
theorem d_X_pin_1 : decode prog_1_method_9_code 1 = .ok (.iload_n 1, 1) := by decide +kernel
theorem d_X_pin_2 : decode prog_1_method_9_code 2 = .ok (.invokevirtual 79, 3) := by decide +kernel
theorem d_X_pin_5 : decode prog_1_method_9_code 5 = .ok (.astore_n 2, 1) := by decide +kernel
theorem d_X_pin_6 : decode prog_1_method_9_code 6 = .ok (.aload_n 2, 1) := by decide +kernel
theorem d_X_pin_7 : decode prog_1_method_9_code 7 = .ok (.ifnonnull 6, 3) := by decide +kernel
theorem d_X_pin_10 : decode prog_1_method_9_code 10 = .ok (.bipush (-3), 2) := by decide +kernel
theorem d_X_pin_12 : decode prog_1_method_9_code 12 = .ok (.ireturn, 1) := by decide +kernel
theorem d_X_pin_13 : decode prog_1_method_9_code 13 = .ok (.aload_n 2, 1) := by decide +kernel
theorem d_X_pin_14 : decode prog_1_method_9_code 14 = .ok (.getfield 156, 3) := by decide +kernel
theorem d_X_pin_17 : decode prog_1_method_9_code 17 = .ok (.bipush 9, 2) := by decide +kernel
theorem d_X_pin_19 : decode prog_1_method_9_code 19 = .ok (.if_icmp .lt 6, 3) := by decide +kernel
theorem d_X_pin_22 : decode prog_1_method_9_code 22 = .ok (.bipush (-2), 2) := by decide +kernel
theorem d_X_pin_24 : decode prog_1_method_9_code 24 = .ok (.ireturn, 1) := by decide +kernel
theorem d_X_pin_25 : decode prog_1_method_9_code 25 = .ok (.aload_n 2, 1) := by decide +kernel
theorem d_X_pin_26 : decode prog_1_method_9_code 26 = .ok (.dup, 1) := by decide +kernel
theorem d_X_pin_27 : decode prog_1_method_9_code 27 = .ok (.getfield 156, 3) := by decide +kernel
theorem d_X_pin_30 : decode prog_1_method_9_code 30 = .ok (.iconst 1, 1) := by decide +kernel
theorem d_X_pin_31 : decode prog_1_method_9_code 31 = .ok (.iadd, 1) := by decide +kernel
theorem d_X_pin_32 : decode prog_1_method_9_code 32 = .ok (.putfield 156, 3) := by decide +kernel
theorem d_X_pin_35 : decode prog_1_method_9_code 35 = .ok (.aload_n 2, 1) := by decide +kernel
theorem d_X_pin_36 : decode prog_1_method_9_code 36 = .ok (.getfield 156, 3) := by decide +kernel
theorem d_X_pin_39 : decode prog_1_method_9_code 39 = .ok (.ireturn, 1) := by decide +kernel
def W_X_pin : Wl := ([(7, 2)], [])
def f_X_pin (a0 : Nat) (p1 : Int32) (h : Hp) : Option (Int32 × Hp) :=
  gd (isK h a0 0) (cl (f_X_findVersion a0 p1 h) fun v4 h2 => if v4 = none then (some ((-3 : Int32), h2)) else (dr v4 fun a7 => gd (isK h2 a7 7) (if (hpI h2 a7 2) < (nI 9) then (nm (wI h2 a7 2 ((hpI h2 a7 2) + (1 : Int32))) fun h11 => some ((hpI h11 a7 2), h11)) else (some ((-2 : Int32), h2)))))
set_option maxRecDepth 100000 in
set_option maxHeartbeats 4000000 in
theorem zf_X_pin {l : Launch} {C : Ct} {mi : Nat} {a0 : Nat} {p1 : Int32} {h h' : Hp} {v : Int32} (hf : f_X_pin a0 p1 h = some (v, h')) : Z l C mi m_X_pin 4 0 [(0, vr (some a0)), (1, vi p1)] [] h (some (vi v)) h' := by
  unfold f_X_pin at hf
  refine z_aload_n 0 d_X_pin_0 rfl rfl ?_
  refine z_iload_n 1 d_X_pin_1 rfl rfl ?_
  obtain ⟨g1, hf⟩ := gd_some hf
  obtain ⟨v4, h2, ec3, hf⟩ := cl_some hf
  refine z_callVx rfl (c_X_findVersion ec3) d_X_pin_2 cw_X_findVersion lk_X_79 im_X_findVersion se_X_findVersion (kc_K (isK_eq g1) kc_0) ⟨by decide, by decide⟩ (Nat.le_of_ble_eq_true rfl) rfl ?_
  refine z_astore_n (ls2 := [(2, vr v4), (0, vr (some a0)), (1, vi p1)]) d_X_pin_5 rfl (by decide) rfl ?_
  refine z_aload_n 0 d_X_pin_6 rfl rfl ?_
  refine z_ifnonnull (tgt := 13) d_X_pin_7 (by decide) (fun c6 => ?_) (fun c6 => ?_)
  · rw [if_neg c6] at hf
    refine z_aload_n 0 d_X_pin_13 rfl rfl ?_
    obtain ⟨a7, e8, hf⟩ := dr_some hf
    obtain ⟨g9, hf⟩ := gd_some hf
    refine z_getI d_X_pin_14 (fl_K (isK_eq g9) fl_X_156_7) (fi_K (isK_eq g9) rfl) e8 ?_
    refine z_bipush (v := (nI 9)) d_X_pin_17 (by decide) ?_
    refine z_icmp_lt (tgt := 25) d_X_pin_19 (by decide) (fun c10 => ?_) (fun c10 => ?_)
    · rw [if_pos c10] at hf
      refine z_aload_n 0 d_X_pin_25 rfl rfl ?_
      refine z_dup d_X_pin_26 rfl ?_
      refine z_getI d_X_pin_27 (fl_K (isK_eq g9) fl_X_156_7) (fi_K (isK_eq g9) rfl) e8 ?_
      refine z_iconst (v := (1 : Int32)) d_X_pin_30 (by decide) ?_
      refine z_iadd d_X_pin_31 ?_
      obtain ⟨h11, eh12, hf⟩ := nm_some hf
      refine z_putI d_X_pin_32 (fl_K (isK_eq g9) fl_X_156_7) (pu_K (isK_eq g9) (fun q hq => by cases (Option.some.inj hq); exact Or.inl rfl)) (fi_K (isK_eq g9) rfl) e8 ?_
      refine z_hp eh12 ?_
      refine z_aload_n 0 d_X_pin_35 rfl rfl ?_
      refine z_getI d_X_pin_36 (fl_K (isK_eq (isK_wI eh12 g9)) fl_X_156_7) (fi_K (isK_eq (isK_wI eh12 g9)) rfl) e8 ?_
      obtain ⟨rfl, rfl⟩ := Prod.mk.inj (Option.some.inj hf)
      exact z_ret d_X_pin_39 rfl
    · rw [if_neg c10] at hf
      refine z_bipush (v := (-2 : Int32)) d_X_pin_22 (by decide) ?_
      obtain ⟨rfl, rfl⟩ := Prod.mk.inj (Option.some.inj hf)
      exact z_ret d_X_pin_24 rfl
  · rw [if_pos c6] at hf
    refine z_bipush (v := (-3 : Int32)) d_X_pin_10 (by decide) ?_
    obtain ⟨rfl, rfl⟩ := Prod.mk.inj (Option.some.inj hf)
    exact z_ret d_X_pin_12 rfl
set_option maxRecDepth 100000 in
set_option maxHeartbeats 4000000 in
theorem fr_X_pin {C : Ct} {mi : Nat} {a0 : Nat} {p1 : Int32} {h h' : Hp} {v : Int32} (hf : f_X_pin a0 p1 h = some (v, h')) : Keep W_X_pin h h' := by
  unfold f_X_pin at hf
  obtain ⟨g1, hf⟩ := gd_some hf
  obtain ⟨v4, h2, ec3, hf⟩ := cl_some hf
  have K5 := (Keep.refl W_X_pin _).trans ((fr_X_findVersion (C := C) (mi := mi) ec3).mono (by decide) (by decide))
  rcases (Classical.em (v4 = none)).symm with c6 | c6
  · rw [if_neg c6] at hf
    obtain ⟨a7, e8, hf⟩ := dr_some hf
    obtain ⟨g9, hf⟩ := gd_some hf
    rcases Classical.em ((hpI h2 a7 2) < (nI 9)) with c10 | c10
    · rw [if_pos c10] at hf
      obtain ⟨h11, eh12, hf⟩ := nm_some hf
      have K13 := K5.trans (kw_I eh12 (isK_eq g9) (Or.inl (by decide)))
      obtain ⟨rfl, rfl⟩ := Prod.mk.inj (Option.some.inj hf)
      exact K13
    · rw [if_neg c10] at hf
      obtain ⟨rfl, rfl⟩ := Prod.mk.inj (Option.some.inj hf)
      exact K5
  · rw [if_pos c6] at hf
    obtain ⟨rfl, rfl⟩ := Prod.mk.inj (Option.some.inj hf)
    exact K5
theorem c_X_pin {l : Launch} {C : Ct} {mi : Nat} {a0 : Nat} {p1 : Int32} {h h' : Hp} {v : Int32} (hf : f_X_pin a0 p1 h = some (v, h')) : Mt l C mi m_X_pin 4 [vr (some a0), vi p1] h (some (vi v)) h' := mt_I (ty := .int) rfl rfl rfl (by decide) (Nat.le_of_ble_eq_true rfl) (zf_X_pin hf)
-- VersionMaps.unpin(I)I
def m_X_unpin : Mi := (⟨"VersionMaps", "unpin", "(I)I"⟩, prog_1_method_10_code, 3, (Option.some Jvm.ClassFile.FieldType.int), .ireturn)
theorem cw_X_unpin : cw_ok m_X_unpin 1 := ⟨by decide +kernel, by decide +kernel, by decide +kernel, by decide +kernel⟩
theorem im_X_unpin : Cond.instanceMethod m_X_unpin.1 ∈ lw_w := by decide +kernel
theorem se_X_unpin : Cond.selects "VersionMaps" m_X_unpin.1 m_X_unpin.1 ∈ lw_w := by decide +kernel
theorem d_X_unpin_0 : decode prog_1_method_10_code 0 = .ok (.aload_n 0, 1) := by decide +kernel
theorem d_X_unpin_1 : decode prog_1_method_10_code 1 = .ok (.iload_n 1, 1) := by decide +kernel
theorem d_X_unpin_2 : decode prog_1_method_10_code 2 = .ok (.invokevirtual 79, 3) := by decide +kernel
theorem d_X_unpin_5 : decode prog_1_method_10_code 5 = .ok (.astore_n 2, 1) := by decide +kernel
theorem d_X_unpin_6 : decode prog_1_method_10_code 6 = .ok (.aload_n 2, 1) := by decide +kernel
theorem d_X_unpin_7 : decode prog_1_method_10_code 7 = .ok (.ifnull 10, 3) := by decide +kernel
theorem d_X_unpin_10 : decode prog_1_method_10_code 10 = .ok (.aload_n 2, 1) := by decide +kernel
theorem d_X_unpin_11 : decode prog_1_method_10_code 11 = .ok (.getfield 156, 3) := by decide +kernel
theorem d_X_unpin_14 : decode prog_1_method_10_code 14 = .ok (.ifCond .ne 6, 3) := by decide +kernel
theorem d_X_unpin_17 : decode prog_1_method_10_code 17 = .ok (.bipush (-3), 2) := by decide +kernel
theorem d_X_unpin_19 : decode prog_1_method_10_code 19 = .ok (.ireturn, 1) := by decide +kernel
theorem d_X_unpin_20 : decode prog_1_method_10_code 20 = .ok (.aload_n 2, 1) := by decide +kernel
theorem d_X_unpin_21 : decode prog_1_method_10_code 21 = .ok (.dup, 1) := by decide +kernel
theorem d_X_unpin_22 : decode prog_1_method_10_code 22 = .ok (.getfield 156, 3) := by decide +kernel
theorem d_X_unpin_25 : decode prog_1_method_10_code 25 = .ok (.iconst 1, 1) := by decide +kernel
theorem d_X_unpin_26 : decode prog_1_method_10_code 26 = .ok (.isub, 1) := by decide +kernel
theorem d_X_unpin_27 : decode prog_1_method_10_code 27 = .ok (.putfield 156, 3) := by decide +kernel
theorem d_X_unpin_30 : decode prog_1_method_10_code 30 = .ok (.aload_n 0, 1) := by decide +kernel
theorem d_X_unpin_31 : decode prog_1_method_10_code 31 = .ok (.invokevirtual 135, 3) := by decide +kernel
theorem d_X_unpin_34 : decode prog_1_method_10_code 34 = .ok (.aload_n 2, 1) := by decide +kernel
theorem d_X_unpin_35 : decode prog_1_method_10_code 35 = .ok (.getfield 156, 3) := by decide +kernel
theorem d_X_unpin_38 : decode prog_1_method_10_code 38 = .ok (.ireturn, 1) := by decide +kernel
def W_X_unpin : Wl := ([(0, 7), (3, 2), (4, 2), (6, 2), (7, 2), (9, 1), (9, 2)], [73, 74])
def f_X_unpin (a0 : Nat) (p1 : Int32) (h : Hp) : Option (Int32 × Hp) :=
  gd (isK h a0 0) (cl (f_X_findVersion a0 p1 h) fun v4 h2 => if v4 = none then (some ((-3 : Int32), h2)) else (dr v4 fun a7 => gd (isK h2 a7 7) (if (hpI h2 a7 2) = 0 then (some ((-3 : Int32), h2)) else (nm (wI h2 a7 2 ((hpI h2 a7 2) - (1 : Int32))) fun h11 => gd (isK h11 a0 0) (cv (f_X_dropUnkept a0 h11) fun h15 => gd (isK h15 a7 7) (some ((hpI h15 a7 2), h15)))))))
set_option maxRecDepth 100000 in
set_option maxHeartbeats 4000000 in
theorem zf_X_unpin {l : Launch} {C : Ct} {mi : Nat} {a0 : Nat} {p1 : Int32} {h h' : Hp} {v : Int32} (hf : f_X_unpin a0 p1 h = some (v, h')) : Z l C mi m_X_unpin 5 0 [(0, vr (some a0)), (1, vi p1)] [] h (some (vi v)) h' := by
  unfold f_X_unpin at hf
  refine z_aload_n 0 d_X_unpin_0 rfl rfl ?_
  refine z_iload_n 1 d_X_unpin_1 rfl rfl ?_
  obtain ⟨g1, hf⟩ := gd_some hf
  obtain ⟨v4, h2, ec3, hf⟩ := cl_some hf
  refine z_callVx rfl (c_X_findVersion ec3) d_X_unpin_2 cw_X_findVersion lk_X_79 im_X_findVersion se_X_findVersion (kc_K (isK_eq g1) kc_0) ⟨by decide, by decide⟩ (Nat.le_of_ble_eq_true rfl) rfl ?_
  refine z_astore_n (ls2 := [(2, vr v4), (0, vr (some a0)), (1, vi p1)]) d_X_unpin_5 rfl (by decide) rfl ?_
  refine z_aload_n 0 d_X_unpin_6 rfl rfl ?_
  refine z_ifnull (tgt := 17) d_X_unpin_7 (by decide) (fun c6 => ?_) (fun c6 => ?_)
  · rw [if_pos c6] at hf
    refine z_bipush (v := (-3 : Int32)) d_X_unpin_17 (by decide) ?_
    obtain ⟨rfl, rfl⟩ := Prod.mk.inj (Option.some.inj hf)
    exact z_ret d_X_unpin_19 rfl
  · rw [if_neg c6] at hf
    refine z_aload_n 0 d_X_unpin_10 rfl rfl ?_
    obtain ⟨a7, e8, hf⟩ := dr_some hf
    obtain ⟨g9, hf⟩ := gd_some hf
    refine z_getI d_X_unpin_11 (fl_K (isK_eq g9) fl_X_156_7) (fi_K (isK_eq g9) rfl) e8 ?_
    refine z_if_ne (tgt := 20) d_X_unpin_14 (by decide) (fun c10 => ?_) (fun c10 => ?_)
    · rw [if_neg c10] at hf
      refine z_aload_n 0 d_X_unpin_20 rfl rfl ?_
      refine z_dup d_X_unpin_21 rfl ?_
      refine z_getI d_X_unpin_22 (fl_K (isK_eq g9) fl_X_156_7) (fi_K (isK_eq g9) rfl) e8 ?_
      refine z_iconst (v := (1 : Int32)) d_X_unpin_25 (by decide) ?_
      refine z_isub d_X_unpin_26 ?_
      obtain ⟨h11, eh12, hf⟩ := nm_some hf
      refine z_putI d_X_unpin_27 (fl_K (isK_eq g9) fl_X_156_7) (pu_K (isK_eq g9) (fun q hq => by cases (Option.some.inj hq); exact Or.inl rfl)) (fi_K (isK_eq g9) rfl) e8 ?_
      refine z_hp eh12 ?_
      refine z_aload_n 1 d_X_unpin_30 rfl rfl ?_
      obtain ⟨g14, hf⟩ := gd_some hf
      obtain ⟨h15, ec16, hf⟩ := cv_some hf
      refine z_callVx rfl (c_X_dropUnkept ec16) d_X_unpin_31 cw_X_dropUnkept lk_X_135 im_X_dropUnkept se_X_dropUnkept (kc_K (isK_eq g14) kc_0) ⟨by decide, by decide⟩ (Nat.le_of_ble_eq_true rfl) rfl ?_
      refine z_aload_n 0 d_X_unpin_34 rfl rfl ?_
      obtain ⟨g18, hf⟩ := gd_some hf
      refine z_getI d_X_unpin_35 (fl_K (isK_eq g18) fl_X_156_7) (fi_K (isK_eq g18) rfl) e8 ?_
      obtain ⟨rfl, rfl⟩ := Prod.mk.inj (Option.some.inj hf)
      exact z_ret d_X_unpin_38 rfl
    · rw [if_pos c10] at hf
      refine z_bipush (v := (-3 : Int32)) d_X_unpin_17 (by decide) ?_
      obtain ⟨rfl, rfl⟩ := Prod.mk.inj (Option.some.inj hf)
      exact z_ret d_X_unpin_19 rfl
set_option maxRecDepth 100000 in
set_option maxHeartbeats 4000000 in
theorem fr_X_unpin {C : Ct} {mi : Nat} {a0 : Nat} {p1 : Int32} {h h' : Hp} {v : Int32} (hf : f_X_unpin a0 p1 h = some (v, h')) : Keep W_X_unpin h h' := by
  unfold f_X_unpin at hf
  obtain ⟨g1, hf⟩ := gd_some hf
  obtain ⟨v4, h2, ec3, hf⟩ := cl_some hf
  have K5 := (Keep.refl W_X_unpin _).trans ((fr_X_findVersion (C := C) (mi := mi) ec3).mono (by decide) (by decide))
  rcases Classical.em (v4 = none) with c6 | c6
  · rw [if_pos c6] at hf
    obtain ⟨rfl, rfl⟩ := Prod.mk.inj (Option.some.inj hf)
    exact K5
  · rw [if_neg c6] at hf
    obtain ⟨a7, e8, hf⟩ := dr_some hf
    obtain ⟨g9, hf⟩ := gd_some hf
    rcases (Classical.em ((hpI h2 a7 2) = 0)).symm with c10 | c10
    · rw [if_neg c10] at hf
      obtain ⟨h11, eh12, hf⟩ := nm_some hf
      have K13 := K5.trans (kw_I eh12 (isK_eq g9) (Or.inl (by decide)))
      obtain ⟨g14, hf⟩ := gd_some hf
      obtain ⟨h15, ec16, hf⟩ := cv_some hf
      have K17 := K13.trans ((fr_X_dropUnkept (C := C) (mi := mi) ec16).mono (by decide) (by decide))
      obtain ⟨g18, hf⟩ := gd_some hf
      obtain ⟨rfl, rfl⟩ := Prod.mk.inj (Option.some.inj hf)
      exact K17
    · rw [if_pos c10] at hf
      obtain ⟨rfl, rfl⟩ := Prod.mk.inj (Option.some.inj hf)
      exact K5
theorem c_X_unpin {l : Launch} {C : Ct} {mi : Nat} {a0 : Nat} {p1 : Int32} {h h' : Hp} {v : Int32} (hf : f_X_unpin a0 p1 h = some (v, h')) : Mt l C mi m_X_unpin 5 [vr (some a0), vi p1] h (some (vi v)) h' := mt_I (ty := .int) rfl rfl rfl (by decide) (Nat.le_of_ble_eq_true rfl) (zf_X_unpin hf)
-- VersionMaps.hold(I)I
def m_X_hold : Mi := (⟨"VersionMaps", "hold", "(I)I"⟩, prog_1_method_11_code, 3, (Option.some Jvm.ClassFile.FieldType.int), .ireturn)
theorem cw_X_hold : cw_ok m_X_hold 1 := ⟨by decide +kernel, by decide +kernel, by decide +kernel, by decide +kernel⟩
theorem im_X_hold : Cond.instanceMethod m_X_hold.1 ∈ lw_w := by decide +kernel
theorem se_X_hold : Cond.selects "VersionMaps" m_X_hold.1 m_X_hold.1 ∈ lw_w := by decide +kernel
theorem d_X_hold_0 : decode prog_1_method_11_code 0 = .ok (.iload_n 1, 1) := by decide +kernel
theorem d_X_hold_1 : decode prog_1_method_11_code 1 = .ok (.ifCond .lt 8, 3) := by decide +kernel
theorem d_X_hold_4 : decode prog_1_method_11_code 4 = .ok (.iload_n 1, 1) := by decide +kernel
theorem d_X_hold_5 : decode prog_1_method_11_code 5 = .ok (.iconst 4, 1) := by decide +kernel
theorem d_X_hold_6 : decode prog_1_method_11_code 6 = .ok (.if_icmp .le 5, 3) := by decide +kernel
theorem d_X_hold_9 : decode prog_1_method_11_code 9 = .ok (.iconst (-1), 1) := by decide +kernel
theorem d_X_hold_10 : decode prog_1_method_11_code 10 = .ok (.ireturn, 1) := by decide +kernel
theorem d_X_hold_11 : decode prog_1_method_11_code 11 = .ok (.aload_n 0, 1) := by decide +kernel
theorem d_X_hold_12 : decode prog_1_method_11_code 12 = .ok (.getfield 42, 3) := by decide +kernel
theorem d_X_hold_15 : decode prog_1_method_11_code 15 = .ok (.istore_n 2, 1) := by decide +kernel
theorem d_X_hold_16 : decode prog_1_method_11_code 16 = .ok (.aload_n 0, 1) := by decide +kernel
theorem d_X_hold_17 : decode prog_1_method_11_code 17 = .ok (.iload_n 1, 1) := by decide +kernel
theorem d_X_hold_18 : decode prog_1_method_11_code 18 = .ok (.putfield 42, 3) := by decide +kernel
theorem d_X_hold_21 : decode prog_1_method_11_code 21 = .ok (.aload_n 0, 1) := by decide +kernel
theorem d_X_hold_22 : decode prog_1_method_11_code 22 = .ok (.invokevirtual 135, 3) := by decide +kernel
theorem d_X_hold_25 : decode prog_1_method_11_code 25 = .ok (.iload_n 2, 1) := by decide +kernel
theorem d_X_hold_26 : decode prog_1_method_11_code 26 = .ok (.ireturn, 1) := by decide +kernel
def W_X_hold : Wl := ([(0, 5), (0, 7), (3, 2), (4, 2), (6, 2), (9, 1), (9, 2)], [73, 74])
def f_X_hold (a0 : Nat) (p1 : Int32) (h : Hp) : Option (Int32 × Hp) :=
  if p1 < 0 then (some ((-1 : Int32), h)) else (if p1 ≤ (nI 4) then (gd (isK h a0 0) (nm (wI h a0 5 p1) fun h4 => cv (f_X_dropUnkept a0 h4) fun h7 => some ((hpI h a0 5), h7))) else (some ((-1 : Int32), h)))
set_option maxRecDepth 100000 in
set_option maxHeartbeats 4000000 in
theorem zf_X_hold {l : Launch} {C : Ct} {mi : Nat} {a0 : Nat} {p1 : Int32} {h h' : Hp} {v : Int32} (hf : f_X_hold a0 p1 h = some (v, h')) : Z l C mi m_X_hold 5 0 [(0, vr (some a0)), (1, vi p1)] [] h (some (vi v)) h' := by
  unfold f_X_hold at hf
  refine z_iload_n 1 d_X_hold_0 rfl rfl ?_
  refine z_if_lt (tgt := 9) d_X_hold_1 (by decide) (fun c1 => ?_) (fun c1 => ?_)
  · rw [if_pos c1] at hf
    refine z_iconst (v := (-1 : Int32)) d_X_hold_9 (by decide) ?_
    obtain ⟨rfl, rfl⟩ := Prod.mk.inj (Option.some.inj hf)
    exact z_ret d_X_hold_10 rfl
  · rw [if_neg c1] at hf
    refine z_iload_n 1 d_X_hold_4 rfl rfl ?_
    refine z_iconst (v := (nI 4)) d_X_hold_5 (by decide) ?_
    refine z_icmp_le (tgt := 11) d_X_hold_6 (by decide) (fun c2 => ?_) (fun c2 => ?_)
    · rw [if_pos c2] at hf
      refine z_aload_n 0 d_X_hold_11 rfl rfl ?_
      obtain ⟨g3, hf⟩ := gd_some hf
      refine z_getI d_X_hold_12 (fl_K (isK_eq g3) fl_X_42_0) (fi_K (isK_eq g3) rfl) rfl ?_
      refine z_istore_n (ls2 := [(2, vi (hpI h a0 5)), (0, vr (some a0)), (1, vi p1)]) d_X_hold_15 rfl (by decide) rfl ?_
      refine z_aload_n 1 d_X_hold_16 rfl rfl ?_
      refine z_iload_n 2 d_X_hold_17 rfl rfl ?_
      obtain ⟨h4, eh5, hf⟩ := nm_some hf
      refine z_putI d_X_hold_18 (fl_K (isK_eq g3) fl_X_42_0) (pu_K (isK_eq g3) (fun q hq => by cases (Option.some.inj hq); exact Or.inl rfl)) (fi_K (isK_eq g3) rfl) rfl ?_
      refine z_hp eh5 ?_
      refine z_aload_n 1 d_X_hold_21 rfl rfl ?_
      obtain ⟨h7, ec8, hf⟩ := cv_some hf
      refine z_callVx rfl (c_X_dropUnkept ec8) d_X_hold_22 cw_X_dropUnkept lk_X_135 im_X_dropUnkept se_X_dropUnkept (kc_K (isK_eq (isK_wI eh5 g3)) kc_0) ⟨by decide, by decide⟩ (Nat.le_of_ble_eq_true rfl) rfl ?_
      refine z_iload_n 0 d_X_hold_25 rfl rfl ?_
      obtain ⟨rfl, rfl⟩ := Prod.mk.inj (Option.some.inj hf)
      exact z_ret d_X_hold_26 rfl
    · rw [if_neg c2] at hf
      refine z_iconst (v := (-1 : Int32)) d_X_hold_9 (by decide) ?_
      obtain ⟨rfl, rfl⟩ := Prod.mk.inj (Option.some.inj hf)
      exact z_ret d_X_hold_10 rfl
set_option maxRecDepth 100000 in
set_option maxHeartbeats 4000000 in
theorem fr_X_hold {C : Ct} {mi : Nat} {a0 : Nat} {p1 : Int32} {h h' : Hp} {v : Int32} (hf : f_X_hold a0 p1 h = some (v, h')) : Keep W_X_hold h h' := by
  unfold f_X_hold at hf
  rcases Classical.em (p1 < 0) with c1 | c1
  · rw [if_pos c1] at hf
    obtain ⟨rfl, rfl⟩ := Prod.mk.inj (Option.some.inj hf)
    exact (Keep.refl W_X_hold _)
  · rw [if_neg c1] at hf
    rcases Classical.em (p1 ≤ (nI 4)) with c2 | c2
    · rw [if_pos c2] at hf
      obtain ⟨g3, hf⟩ := gd_some hf
      obtain ⟨h4, eh5, hf⟩ := nm_some hf
      have K6 := (Keep.refl W_X_hold _).trans (kw_I eh5 (isK_eq g3) (Or.inl (by decide)))
      obtain ⟨h7, ec8, hf⟩ := cv_some hf
      have K9 := K6.trans ((fr_X_dropUnkept (C := C) (mi := mi) ec8).mono (by decide) (by decide))
      obtain ⟨rfl, rfl⟩ := Prod.mk.inj (Option.some.inj hf)
      exact K9
    · rw [if_neg c2] at hf
      obtain ⟨rfl, rfl⟩ := Prod.mk.inj (Option.some.inj hf)
      exact (Keep.refl W_X_hold _)
theorem c_X_hold {l : Launch} {C : Ct} {mi : Nat} {a0 : Nat} {p1 : Int32} {h h' : Hp} {v : Int32} (hf : f_X_hold a0 p1 h = some (v, h')) : Mt l C mi m_X_hold 5 [vr (some a0), vi p1] h (some (vi v)) h' := mt_I (ty := .int) rfl rfl rfl (by decide) (Nat.le_of_ble_eq_true rfl) (zf_X_hold hf)
-- VersionMaps.freeDeadChunks()V
def m_X_freeDeadChunks : Mi := (⟨"VersionMaps", "freeDeadChunks", "()V"⟩, prog_1_method_29_code, 3, (Option.none : Option Jvm.ClassFile.FieldType), .return_)
theorem cw_X_freeDeadChunks : cw_ok m_X_freeDeadChunks 0 := ⟨by decide +kernel, by decide +kernel, by decide +kernel, by decide +kernel⟩
theorem im_X_freeDeadChunks : Cond.instanceMethod m_X_freeDeadChunks.1 ∈ lw_w := by decide +kernel
theorem se_X_freeDeadChunks : Cond.selects "VersionMaps" m_X_freeDeadChunks.1 m_X_freeDeadChunks.1 ∈ lw_w := by decide +kernel
theorem d_X_freeDeadChunks_0 : decode prog_1_method_29_code 0 = .ok (.aload_n 0, 1) := by decide +kernel
theorem d_X_freeDeadChunks_1 : decode prog_1_method_29_code 1 = .ok (.getfield 26, 3) := by decide +kernel
theorem d_X_freeDeadChunks_4 : decode prog_1_method_29_code 4 = .ok (.invokevirtual 183, 3) := by decide +kernel
theorem d_X_freeDeadChunks_7 : decode prog_1_method_29_code 7 = .ok (.iconst 1, 1) := by decide +kernel
theorem d_X_freeDeadChunks_8 : decode prog_1_method_29_code 8 = .ok (.isub, 1) := by decide +kernel
theorem d_X_freeDeadChunks_9 : decode prog_1_method_29_code 9 = .ok (.istore_n 1, 1) := by decide +kernel
theorem d_X_freeDeadChunks_10 : decode prog_1_method_29_code 10 = .ok (.iload_n 1, 1) := by decide +kernel
theorem d_X_freeDeadChunks_11 : decode prog_1_method_29_code 11 = .ok (.ifCond .lt 49, 3) := by decide +kernel
theorem d_X_freeDeadChunks_14 : decode prog_1_method_29_code 14 = .ok (.aload_n 0, 1) := by decide +kernel
theorem d_X_freeDeadChunks_15 : decode prog_1_method_29_code 15 = .ok (.getfield 26, 3) := by decide +kernel
theorem d_X_freeDeadChunks_18 : decode prog_1_method_29_code 18 = .ok (.iload_n 1, 1) := by decide +kernel
theorem d_X_freeDeadChunks_19 : decode prog_1_method_29_code 19 = .ok (.invokevirtual 186, 3) := by decide +kernel
theorem d_X_freeDeadChunks_22 : decode prog_1_method_29_code 22 = .ok (.checkcast 119, 3) := by decide +kernel
theorem d_X_freeDeadChunks_25 : decode prog_1_method_29_code 25 = .ok (.astore_n 2, 1) := by decide +kernel
theorem d_X_freeDeadChunks_26 : decode prog_1_method_29_code 26 = .ok (.aload_n 2, 1) := by decide +kernel
theorem d_X_freeDeadChunks_27 : decode prog_1_method_29_code 27 = .ok (.aload_n 0, 1) := by decide +kernel
theorem d_X_freeDeadChunks_28 : decode prog_1_method_29_code 28 = .ok (.getfield 49, 3) := by decide +kernel
theorem d_X_freeDeadChunks_31 : decode prog_1_method_29_code 31 = .ok (.invokevirtual 200, 3) := by decide +kernel
theorem d_X_freeDeadChunks_34 : decode prog_1_method_29_code 34 = .ok (.ifCond .ne 20, 3) := by decide +kernel
theorem d_X_freeDeadChunks_37 : decode prog_1_method_29_code 37 = .ok (.aload_n 0, 1) := by decide +kernel
theorem d_X_freeDeadChunks_38 : decode prog_1_method_29_code 38 = .ok (.getfield 19, 3) := by decide +kernel
theorem d_X_freeDeadChunks_41 : decode prog_1_method_29_code 41 = .ok (.aload_n 2, 1) := by decide +kernel
theorem d_X_freeDeadChunks_42 : decode prog_1_method_29_code 42 = .ok (.invokevirtual 253, 3) := by decide +kernel
theorem d_X_freeDeadChunks_45 : decode prog_1_method_29_code 45 = .ok (.aload_n 0, 1) := by decide +kernel
theorem d_X_freeDeadChunks_46 : decode prog_1_method_29_code 46 = .ok (.getfield 26, 3) := by decide +kernel
theorem d_X_freeDeadChunks_49 : decode prog_1_method_29_code 49 = .ok (.iload_n 1, 1) := by decide +kernel
theorem d_X_freeDeadChunks_50 : decode prog_1_method_29_code 50 = .ok (.invokevirtual 244, 3) := by decide +kernel
theorem d_X_freeDeadChunks_53 : decode prog_1_method_29_code 53 = .ok (.pop, 1) := by decide +kernel
theorem d_X_freeDeadChunks_54 : decode prog_1_method_29_code 54 = .ok (.iinc 1 (-1), 3) := by decide +kernel
theorem d_X_freeDeadChunks_57 : decode prog_1_method_29_code 57 = .ok (.goto (-47), 3) := by decide +kernel
theorem d_X_freeDeadChunks_60 : decode prog_1_method_29_code 60 = .ok (.return_, 1) := by decide +kernel
def W_X_freeDeadChunks : Wl := ([(9, 1), (9, 2)], [70, 73, 74])
def b_X_freeDeadChunks_10 (y0 : Nat) (y1 : Int32) (h : Hp) : Option ((Int32 × Hp) ⊕ (Hp)) :=
  if y1 < 0 then (some (.inr h)) else (gd (isK h y0 0) (dr (hpR h y0 2) fun a11 => gd (isK h a11 9) (cl (f_A_get a11 y1 h) fun v16 h14 => gd (caB h14 v16 2) (gd (isK h14 y0 0) (dr v16 fun a20 => gd (isK h14 a20 2) (cl (f_K_livePages a20 (hpI h14 y0 7) h14) fun v25 h23 => if v25 = 0 then (gd (isK h23 y0 0) (dr (hpR h23 y0 1) fun a29 => gd (isK h23 a29 1) (cv (f_F_release a29 v16 h23) fun h32 => gd (isK h32 y0 0) (dr (hpR h32 y0 2) fun a36 => gd (isK h32 a36 9) (cl (f_A_remove a36 y1 h32) fun v41 h39 => some (.inl ((y1 + (-1 : Int32)), h39))))))) else (some (.inl ((y1 + (-1 : Int32)), h23)))))))))
set_option maxRecDepth 100000 in
set_option maxHeartbeats 4000000 in
theorem zb_X_freeDeadChunks_10 {l : Launch} {C : Ct} {mi : Nat} {y0 : Nat} {y1 : Int32} {h h' : Hp} {q : ((Int32 × Hp) ⊕ (Hp))} (hf : b_X_freeDeadChunks_10 y0 y1 h = some q) (kc : ∀ s, q = .inl s → Z l C mi m_X_freeDeadChunks 3 10 [(0, vr (some y0)), (1, vi s.1)] [] s.2 none h') (ke : ∀ x, q = .inr x → Z l C mi m_X_freeDeadChunks 3 60 [] [] x none h') : Z l C mi m_X_freeDeadChunks 3 10 [(0, vr (some y0)), (1, vi y1)] [] h none h' := by
  unfold b_X_freeDeadChunks_10 at hf
  refine z_iload_n 1 d_X_freeDeadChunks_10 rfl rfl ?_
  refine z_if_lt (tgt := 60) d_X_freeDeadChunks_11 (by decide) (fun c9 => ?_) (fun c9 => ?_)
  · rw [if_pos c9] at hf
    refine z_ls [] rfl ?_
    exact ke h (Option.some.inj hf).symm
  · rw [if_neg c9] at hf
    refine z_aload_n 0 d_X_freeDeadChunks_14 rfl rfl ?_
    obtain ⟨g10, hf⟩ := gd_some hf
    refine z_getR d_X_freeDeadChunks_15 (fl_K (isK_eq g10) fl_X_26_0) (fi_K (isK_eq g10) rfl) rfl ?_
    refine z_iload_n 1 d_X_freeDeadChunks_18 rfl rfl ?_
    obtain ⟨a11, e12, hf⟩ := dr_some hf
    obtain ⟨g13, hf⟩ := gd_some hf
    obtain ⟨v16, h14, ec15, hf⟩ := cl_some hf
    refine z_callVx e12 (c_A_get ec15) d_X_freeDeadChunks_19 cw_A_get lk_X_186 im_A_get se_A_get (kc_K (isK_eq g13) kc_9) ⟨by decide, by decide⟩ (Nat.le_of_ble_eq_true rfl) rfl ?_
    obtain ⟨g18, hf⟩ := gd_some hf
    refine z_cast d_X_freeDeadChunks_22 (nm := "VersionMaps$Chunk") (by decide +kernel) (caB_ok (κ := 2) g18 rfl (by decide +kernel)) ?_
    refine z_astore_n (ls2 := [(2, vr v16), (0, vr (some y0)), (1, vi y1)]) d_X_freeDeadChunks_25 rfl (by decide) rfl ?_
    refine z_aload_n 0 d_X_freeDeadChunks_26 rfl rfl ?_
    refine z_aload_n 1 d_X_freeDeadChunks_27 rfl rfl ?_
    obtain ⟨g19, hf⟩ := gd_some hf
    refine z_getI d_X_freeDeadChunks_28 (fl_K (isK_eq g19) fl_X_49_0) (fi_K (isK_eq g19) rfl) rfl ?_
    obtain ⟨a20, e21, hf⟩ := dr_some hf
    obtain ⟨g22, hf⟩ := gd_some hf
    obtain ⟨v25, h23, ec24, hf⟩ := cl_some hf
    refine z_callVx e21 (c_K_livePages ec24) d_X_freeDeadChunks_31 cw_K_livePages lk_X_200 im_K_livePages se_K_livePages (kc_K (isK_eq g22) kc_2) ⟨by decide, by decide⟩ (Nat.le_of_ble_eq_true rfl) rfl ?_
    refine z_if_ne (tgt := 54) d_X_freeDeadChunks_34 (by decide) (fun c27 => ?_) (fun c27 => ?_)
    · rw [if_neg c27] at hf
      refine z_iinc (ls2 := [(1, vi (y1 + (-1 : Int32))), (2, vr v16), (0, vr (some y0))]) 2 d_X_freeDeadChunks_54 rfl rfl (by decide) rfl ?_
      refine z_goto (tgt := 10) d_X_freeDeadChunks_57 (by decide) ?_
      refine z_ls [2, 0] rfl ?_
      exact kc ((y1 + (-1 : Int32)), h23) (Option.some.inj hf).symm
    · rw [if_pos c27] at hf
      refine z_aload_n 1 d_X_freeDeadChunks_37 rfl rfl ?_
      obtain ⟨g28, hf⟩ := gd_some hf
      refine z_getR d_X_freeDeadChunks_38 (fl_K (isK_eq g28) fl_X_19_0) (fi_K (isK_eq g28) rfl) rfl ?_
      refine z_aload_n 0 d_X_freeDeadChunks_41 rfl rfl ?_
      obtain ⟨a29, e30, hf⟩ := dr_some hf
      obtain ⟨g31, hf⟩ := gd_some hf
      obtain ⟨h32, ec33, hf⟩ := cv_some hf
      refine z_callVx e30 (c_F_release ec33) d_X_freeDeadChunks_42 cw_F_release lk_X_253 im_F_release se_F_release (kc_K (isK_eq g31) kc_1) ⟨by decide, by decide⟩ (Nat.le_of_ble_eq_true rfl) rfl ?_
      refine z_aload_n 1 d_X_freeDeadChunks_45 rfl rfl ?_
      obtain ⟨g35, hf⟩ := gd_some hf
      refine z_getR d_X_freeDeadChunks_46 (fl_K (isK_eq g35) fl_X_26_0) (fi_K (isK_eq g35) rfl) rfl ?_
      refine z_iload_n 2 d_X_freeDeadChunks_49 rfl rfl ?_
      obtain ⟨a36, e37, hf⟩ := dr_some hf
      obtain ⟨g38, hf⟩ := gd_some hf
      obtain ⟨v41, h39, ec40, hf⟩ := cl_some hf
      refine z_callVx e37 (c_A_remove ec40) d_X_freeDeadChunks_50 cw_A_remove lk_X_244 im_A_remove se_A_remove (kc_K (isK_eq g38) kc_9) ⟨by decide, by decide⟩ (Nat.le_of_ble_eq_true rfl) rfl ?_
      refine z_pop d_X_freeDeadChunks_53 rfl ?_
      refine z_iinc (ls2 := [(1, vi (y1 + (-1 : Int32))), (2, vr v16), (0, vr (some y0))]) 2 d_X_freeDeadChunks_54 rfl rfl (by decide) rfl ?_
      refine z_goto (tgt := 10) d_X_freeDeadChunks_57 (by decide) ?_
      refine z_ls [2, 0] rfl ?_
      exact kc ((y1 + (-1 : Int32)), h39) (Option.some.inj hf).symm
set_option maxRecDepth 100000 in
set_option maxHeartbeats 4000000 in
theorem kb_X_freeDeadChunks_10 {C : Ct} {mi : Nat} {y0 : Nat} {y1 : Int32} {h : Hp} {q : ((Int32 × Hp) ⊕ (Hp))} (hf : b_X_freeDeadChunks_10 y0 y1 h = some q) : Keep W_X_freeDeadChunks h (Sum.elim (fun s : Int32 × Hp => s.2) (fun x : Hp => x) q) := by
  unfold b_X_freeDeadChunks_10 at hf
  rcases Classical.em (y1 < 0) with c9 | c9
  · rw [if_pos c9] at hf
    cases (Option.some.inj hf)
    exact (Keep.refl W_X_freeDeadChunks _)
  · rw [if_neg c9] at hf
    obtain ⟨g10, hf⟩ := gd_some hf
    obtain ⟨a11, e12, hf⟩ := dr_some hf
    obtain ⟨g13, hf⟩ := gd_some hf
    obtain ⟨v16, h14, ec15, hf⟩ := cl_some hf
    have K17 := (Keep.refl W_X_freeDeadChunks _).trans ((fr_A_get (C := C) (mi := mi) ec15).mono (by decide) (by decide))
    obtain ⟨g18, hf⟩ := gd_some hf
    obtain ⟨g19, hf⟩ := gd_some hf
    obtain ⟨a20, e21, hf⟩ := dr_some hf
    obtain ⟨g22, hf⟩ := gd_some hf
    obtain ⟨v25, h23, ec24, hf⟩ := cl_some hf
    have K26 := K17.trans ((fr_K_livePages (C := C) (mi := mi) ec24).mono (by decide) (by decide))
    rcases (Classical.em (v25 = 0)).symm with c27 | c27
    · rw [if_neg c27] at hf
      cases (Option.some.inj hf)
      exact K26
    · rw [if_pos c27] at hf
      obtain ⟨g28, hf⟩ := gd_some hf
      obtain ⟨a29, e30, hf⟩ := dr_some hf
      obtain ⟨g31, hf⟩ := gd_some hf
      obtain ⟨h32, ec33, hf⟩ := cv_some hf
      have K34 := K26.trans ((fr_F_release (C := C) (mi := mi) ec33).mono (by decide) (by decide))
      obtain ⟨g35, hf⟩ := gd_some hf
      obtain ⟨a36, e37, hf⟩ := dr_some hf
      obtain ⟨g38, hf⟩ := gd_some hf
      obtain ⟨v41, h39, ec40, hf⟩ := cl_some hf
      have K42 := K34.trans ((fr_A_remove (C := C) (mi := mi) ec40).mono (by decide) (by decide))
      cases (Option.some.inj hf)
      exact K42
def l_X_freeDeadChunks_10 (y0 : Nat) (s : Int32 × Hp) : Option (Hp) := lp (fun s => b_X_freeDeadChunks_10 y0 s.1 s.2) FU s
theorem zzl_X_freeDeadChunks_10 {l : Launch} {C : Ct} {mi : Nat} {y0 : Nat} {h' : Hp} : ∀ (n : Nat) (s : Int32 × Hp) (x : (Hp)), lp (fun s : Int32 × Hp => b_X_freeDeadChunks_10 y0 s.1 s.2) n s = some x → Z l C mi m_X_freeDeadChunks 3 60 [] [] x none h' → Z l C mi m_X_freeDeadChunks 3 10 [(0, vr (some y0)), (1, vi s.1)] [] s.2 none h' := by
  intro n
  induction n with
  | zero => intro s x hl; cases hl
  | succ n ih =>
    intro s x hl ke
    rcases lp_some hl with ⟨s2, hb, hl2⟩ | hb
    · exact zb_X_freeDeadChunks_10 hb (fun s3 e3 => by cases e3; refine z_ls [0, 1] rfl ?_; exact ih s2 x hl2 ke) (fun x e3 => by cases e3)
    · exact zb_X_freeDeadChunks_10 hb (fun s3 e3 => by cases e3) (fun x e3 => by cases e3; exact ke)
theorem zl_X_freeDeadChunks_10 {l : Launch} {C : Ct} {mi : Nat} {y0 : Nat} {h' : Hp} {s : Int32 × Hp} {x : (Hp)} (hl : l_X_freeDeadChunks_10 y0 s = some x) (ke : Z l C mi m_X_freeDeadChunks 3 60 [] [] x none h') : Z l C mi m_X_freeDeadChunks 3 10 [(0, vr (some y0)), (1, vi s.1)] [] s.2 none h' := zzl_X_freeDeadChunks_10 FU s x hl ke
theorem kl_X_freeDeadChunks_10 {C : Ct} {mi : Nat} {y0 : Nat} {s : Int32 × Hp} {q : (Hp)} (hl : l_X_freeDeadChunks_10 y0 s = some q) : Keep W_X_freeDeadChunks s.2 ((fun x : Hp => x) q) := lpk (sh := (fun s : Int32 × Hp => s.2)) (rh := (fun x : Hp => x)) (fun s q hb => kb_X_freeDeadChunks_10 (C := C) (mi := mi) hb) FU s q hl
def f_X_freeDeadChunks (a0 : Nat) (h : Hp) : Option Hp :=
  gd (isK h a0 0) (dr (hpR h a0 2) fun a2 => gd (isK h a2 9) (cl (f_A_size a2 h) fun v7 h5 => bd (l_X_freeDeadChunks_10 a0 ((v7 - (1 : Int32)), h5)) fun x43 => some x43))
set_option maxRecDepth 100000 in
set_option maxHeartbeats 4000000 in
theorem zf_X_freeDeadChunks {l : Launch} {C : Ct} {mi : Nat} {a0 : Nat} {h h' : Hp} (hf : f_X_freeDeadChunks a0 h = some h') : Z l C mi m_X_freeDeadChunks 3 0 [(0, vr (some a0))] [] h none h' := by
  unfold f_X_freeDeadChunks at hf
  refine z_aload_n 0 d_X_freeDeadChunks_0 rfl rfl ?_
  obtain ⟨g1, hf⟩ := gd_some hf
  refine z_getR d_X_freeDeadChunks_1 (fl_K (isK_eq g1) fl_X_26_0) (fi_K (isK_eq g1) rfl) rfl ?_
  obtain ⟨a2, e3, hf⟩ := dr_some hf
  obtain ⟨g4, hf⟩ := gd_some hf
  obtain ⟨v7, h5, ec6, hf⟩ := cl_some hf
  refine z_callVx e3 (c_A_size ec6) d_X_freeDeadChunks_4 cw_A_size lk_X_183 im_A_size se_A_size (kc_K (isK_eq g4) kc_9) ⟨by decide, by decide⟩ (Nat.le_of_ble_eq_true rfl) rfl ?_
  refine z_iconst (v := (1 : Int32)) d_X_freeDeadChunks_7 (by decide) ?_
  refine z_isub d_X_freeDeadChunks_8 ?_
  refine z_istore_n (ls2 := [(1, vi (v7 - (1 : Int32))), (0, vr (some a0))]) d_X_freeDeadChunks_9 rfl (by decide) rfl ?_
  obtain ⟨x43, el44, hf⟩ := bd_some hf
  refine z_ls [1, 0] rfl ?_
  refine zl_X_freeDeadChunks_10 el44 ?_
  cases (Option.some.inj hf)
  exact z_ret d_X_freeDeadChunks_60 rfl
set_option maxRecDepth 100000 in
set_option maxHeartbeats 4000000 in
theorem fr_X_freeDeadChunks {C : Ct} {mi : Nat} {a0 : Nat} {h h' : Hp} (hf : f_X_freeDeadChunks a0 h = some h') : Keep W_X_freeDeadChunks h h' := by
  unfold f_X_freeDeadChunks at hf
  obtain ⟨g1, hf⟩ := gd_some hf
  obtain ⟨a2, e3, hf⟩ := dr_some hf
  obtain ⟨g4, hf⟩ := gd_some hf
  obtain ⟨v7, h5, ec6, hf⟩ := cl_some hf
  have K8 := (Keep.refl W_X_freeDeadChunks _).trans ((fr_A_size (C := C) (mi := mi) ec6).mono (by decide) (by decide))
  obtain ⟨x43, el44, hf⟩ := bd_some hf
  have K45 := K8.trans (kl_X_freeDeadChunks_10 (C := C) (mi := mi) el44)
  cases (Option.some.inj hf)
  exact K45
theorem c_X_freeDeadChunks {l : Launch} {C : Ct} {mi : Nat} {a0 : Nat} {h h' : Hp} (hf : f_X_freeDeadChunks a0 h = some h') : Mt l C mi m_X_freeDeadChunks 3 [vr (some a0)] h none h' := mt_V rfl rfl (by decide) (Nat.le_of_ble_eq_true rfl) (zf_X_freeDeadChunks hf)
-- VersionMaps.sync()I
def m_X_sync : Mi := (⟨"VersionMaps", "sync", "()I"⟩, prog_1_method_12_code, 2, (Option.some Jvm.ClassFile.FieldType.int), .ireturn)
theorem cw_X_sync : cw_ok m_X_sync 0 := ⟨by decide +kernel, by decide +kernel, by decide +kernel, by decide +kernel⟩
theorem im_X_sync : Cond.instanceMethod m_X_sync.1 ∈ lw_w := by decide +kernel
theorem se_X_sync : Cond.selects "VersionMaps" m_X_sync.1 m_X_sync.1 ∈ lw_w := by decide +kernel
theorem d_X_sync_0 : decode prog_1_method_12_code 0 = .ok (.aload_n 0, 1) := by decide +kernel
theorem d_X_sync_1 : decode prog_1_method_12_code 1 = .ok (.getfield 19, 3) := by decide +kernel
theorem d_X_sync_4 : decode prog_1_method_12_code 4 = .ok (.getfield 159, 3) := by decide +kernel
theorem d_X_sync_7 : decode prog_1_method_12_code 7 = .ok (.istore_n 1, 1) := by decide +kernel
theorem d_X_sync_8 : decode prog_1_method_12_code 8 = .ok (.aload_n 0, 1) := by decide +kernel
theorem d_X_sync_9 : decode prog_1_method_12_code 9 = .ok (.getfield 19, 3) := by decide +kernel
theorem d_X_sync_12 : decode prog_1_method_12_code 12 = .ok (.invokevirtual 162, 3) := by decide +kernel
theorem d_X_sync_15 : decode prog_1_method_12_code 15 = .ok (.aload_n 0, 1) := by decide +kernel
theorem d_X_sync_16 : decode prog_1_method_12_code 16 = .ok (.invokevirtual 165, 3) := by decide +kernel
theorem d_X_sync_19 : decode prog_1_method_12_code 19 = .ok (.iload_n 1, 1) := by decide +kernel
theorem d_X_sync_20 : decode prog_1_method_12_code 20 = .ok (.ireturn, 1) := by decide +kernel
def W_X_sync : Wl := ([(1, 5), (9, 1), (9, 2)], [69, 70, 71, 73, 74])
def f_X_sync (a0 : Nat) (h : Hp) : Option (Int32 × Hp) :=
  gd (isK h a0 0) (dr (hpR h a0 1) fun a2 => gd (isK h a2 1) (cv (f_F_settlePending a2 h) fun h5 => gd (isK h5 a0 0) (cv (f_X_freeDeadChunks a0 h5) fun h9 => some ((hpI h a2 5), h9))))
set_option maxRecDepth 100000 in
set_option maxHeartbeats 4000000 in
theorem zf_X_sync {l : Launch} {C : Ct} {mi : Nat} {a0 : Nat} {h h' : Hp} {v : Int32} (hf : f_X_sync a0 h = some (v, h')) : Z l C mi m_X_sync 4 0 [(0, vr (some a0))] [] h (some (vi v)) h' := by
  unfold f_X_sync at hf
  refine z_aload_n 0 d_X_sync_0 rfl rfl ?_
  obtain ⟨g1, hf⟩ := gd_some hf
  refine z_getR d_X_sync_1 (fl_K (isK_eq g1) fl_X_19_0) (fi_K (isK_eq g1) rfl) rfl ?_
  obtain ⟨a2, e3, hf⟩ := dr_some hf
  obtain ⟨g4, hf⟩ := gd_some hf
  refine z_getI d_X_sync_4 (fl_K (isK_eq g4) fl_X_159_1) (fi_K (isK_eq g4) rfl) e3 ?_
  refine z_istore_n (ls2 := [(1, vi (hpI h a2 5)), (0, vr (some a0))]) d_X_sync_7 rfl (by decide) rfl ?_
  refine z_aload_n 1 d_X_sync_8 rfl rfl ?_
  refine z_getR d_X_sync_9 (fl_K (isK_eq g1) fl_X_19_0) (fi_K (isK_eq g1) rfl) rfl ?_
  obtain ⟨h5, ec6, hf⟩ := cv_some hf
  refine z_callVx e3 (c_F_settlePending ec6) d_X_sync_12 cw_F_settlePending lk_X_162 im_F_settlePending se_F_settlePending (kc_K (isK_eq g4) kc_1) ⟨by decide, by decide⟩ (Nat.le_of_ble_eq_true rfl) rfl ?_
  refine z_aload_n 1 d_X_sync_15 rfl rfl ?_
  obtain ⟨g8, hf⟩ := gd_some hf
  obtain ⟨h9, ec10, hf⟩ := cv_some hf
  refine z_callVx rfl (c_X_freeDeadChunks ec10) d_X_sync_16 cw_X_freeDeadChunks lk_X_165 im_X_freeDeadChunks se_X_freeDeadChunks (kc_K (isK_eq g8) kc_0) ⟨by decide, by decide⟩ (Nat.le_of_ble_eq_true rfl) rfl ?_
  refine z_iload_n 0 d_X_sync_19 rfl rfl ?_
  obtain ⟨rfl, rfl⟩ := Prod.mk.inj (Option.some.inj hf)
  exact z_ret d_X_sync_20 rfl
set_option maxRecDepth 100000 in
set_option maxHeartbeats 4000000 in
theorem fr_X_sync {C : Ct} {mi : Nat} {a0 : Nat} {h h' : Hp} {v : Int32} (hf : f_X_sync a0 h = some (v, h')) : Keep W_X_sync h h' := by
  unfold f_X_sync at hf
  obtain ⟨g1, hf⟩ := gd_some hf
  obtain ⟨a2, e3, hf⟩ := dr_some hf
  obtain ⟨g4, hf⟩ := gd_some hf
  obtain ⟨h5, ec6, hf⟩ := cv_some hf
  have K7 := (Keep.refl W_X_sync _).trans ((fr_F_settlePending (C := C) (mi := mi) ec6).mono (by decide) (by decide))
  obtain ⟨g8, hf⟩ := gd_some hf
  obtain ⟨h9, ec10, hf⟩ := cv_some hf
  have K11 := K7.trans ((fr_X_freeDeadChunks (C := C) (mi := mi) ec10).mono (by decide) (by decide))
  obtain ⟨rfl, rfl⟩ := Prod.mk.inj (Option.some.inj hf)
  exact K11
theorem c_X_sync {l : Launch} {C : Ct} {mi : Nat} {a0 : Nat} {h h' : Hp} {v : Int32} (hf : f_X_sync a0 h = some (v, h')) : Mt l C mi m_X_sync 4 [vr (some a0)] h (some (vi v)) h' := mt_I (ty := .int) rfl rfl rfl (by decide) (Nat.le_of_ble_eq_true rfl) (zf_X_sync hf)
-- VersionMaps.findSparsest(I)LVersionMaps$Chunk;
def m_X_findSparsest : Mi := (⟨"VersionMaps", "findSparsest", "(I)LVersionMaps$Chunk;"⟩, prog_1_method_30_code, 8, (Option.some (Jvm.ClassFile.FieldType.object "VersionMaps$Chunk")), .areturn)
theorem cw_X_findSparsest : cw_ok m_X_findSparsest 1 := ⟨by decide +kernel, by decide +kernel, by decide +kernel, by decide +kernel⟩
theorem im_X_findSparsest : Cond.instanceMethod m_X_findSparsest.1 ∈ lw_w := by decide +kernel
theorem se_X_findSparsest : Cond.selects "VersionMaps" m_X_findSparsest.1 m_X_findSparsest.1 ∈ lw_w := by decide +kernel
theorem d_X_findSparsest_0 : decode prog_1_method_30_code 0 = .ok (.aconst_null, 1) := by decide +kernel
theorem d_X_findSparsest_1 : decode prog_1_method_30_code 1 = .ok (.astore_n 2, 1) := by decide +kernel
theorem d_X_findSparsest_2 : decode prog_1_method_30_code 2 = .ok (.iload_n 1, 1) := by decide +kernel
theorem d_X_findSparsest_3 : decode prog_1_method_30_code 3 = .ok (.istore_n 3, 1) := by decide +kernel
theorem d_X_findSparsest_4 : decode prog_1_method_30_code 4 = .ok (.iconst 0, 1) := by decide +kernel
theorem d_X_findSparsest_5 : decode prog_1_method_30_code 5 = .ok (.istore 4, 2) := by decide +kernel
theorem d_X_findSparsest_7 : decode prog_1_method_30_code 7 = .ok (.iload 4, 2) := by decide +kernel
theorem d_X_findSparsest_9 : decode prog_1_method_30_code 9 = .ok (.aload_n 0, 1) := by decide +kernel
theorem d_X_findSparsest_10 : decode prog_1_method_30_code 10 = .ok (.getfield 26, 3) := by decide +kernel
theorem d_X_findSparsest_13 : decode prog_1_method_30_code 13 = .ok (.invokevirtual 183, 3) := by decide +kernel
theorem d_X_findSparsest_16 : decode prog_1_method_30_code 16 = .ok (.if_icmp .ge 83, 3) := by decide +kernel
theorem d_X_findSparsest_19 : decode prog_1_method_30_code 19 = .ok (.aload_n 0, 1) := by decide +kernel
theorem d_X_findSparsest_20 : decode prog_1_method_30_code 20 = .ok (.getfield 26, 3) := by decide +kernel
theorem d_X_findSparsest_23 : decode prog_1_method_30_code 23 = .ok (.iload 4, 2) := by decide +kernel
theorem d_X_findSparsest_25 : decode prog_1_method_30_code 25 = .ok (.invokevirtual 186, 3) := by decide +kernel
theorem d_X_findSparsest_28 : decode prog_1_method_30_code 28 = .ok (.checkcast 119, 3) := by decide +kernel
theorem d_X_findSparsest_31 : decode prog_1_method_30_code 31 = .ok (.astore 5, 2) := by decide +kernel
theorem d_X_findSparsest_33 : decode prog_1_method_30_code 33 = .ok (.aload 5, 2) := by decide +kernel
theorem d_X_findSparsest_35 : decode prog_1_method_30_code 35 = .ok (.aload_n 0, 1) := by decide +kernel
theorem d_X_findSparsest_36 : decode prog_1_method_30_code 36 = .ok (.getfield 49, 3) := by decide +kernel
theorem d_X_findSparsest_39 : decode prog_1_method_30_code 39 = .ok (.invokevirtual 200, 3) := by decide +kernel
theorem d_X_findSparsest_42 : decode prog_1_method_30_code 42 = .ok (.istore 6, 2) := by decide +kernel
theorem d_X_findSparsest_44 : decode prog_1_method_30_code 44 = .ok (.iload 6, 2) := by decide +kernel
theorem d_X_findSparsest_46 : decode prog_1_method_30_code 46 = .ok (.ifCond .eq 47, 3) := by decide +kernel
theorem d_X_findSparsest_49 : decode prog_1_method_30_code 49 = .ok (.aload 5, 2) := by decide +kernel
theorem d_X_findSparsest_51 : decode prog_1_method_30_code 51 = .ok (.getfield 130, 3) := by decide +kernel
theorem d_X_findSparsest_54 : decode prog_1_method_30_code 54 = .ok (.aload_n 0, 1) := by decide +kernel
theorem d_X_findSparsest_55 : decode prog_1_method_30_code 55 = .ok (.getfield 38, 3) := by decide +kernel
theorem d_X_findSparsest_58 : decode prog_1_method_30_code 58 = .ok (.getfield 83, 3) := by decide +kernel
theorem d_X_findSparsest_61 : decode prog_1_method_30_code 61 = .ok (.if_acmp .ne 6, 3) := by decide +kernel
theorem d_X_findSparsest_64 : decode prog_1_method_30_code 64 = .ok (.goto 29, 3) := by decide +kernel
theorem d_X_findSparsest_67 : decode prog_1_method_30_code 67 = .ok (.bipush 64, 2) := by decide +kernel
theorem d_X_findSparsest_69 : decode prog_1_method_30_code 69 = .ok (.iload 6, 2) := by decide +kernel
theorem d_X_findSparsest_71 : decode prog_1_method_30_code 71 = .ok (.imul, 1) := by decide +kernel
theorem d_X_findSparsest_72 : decode prog_1_method_30_code 72 = .ok (.aload 5, 2) := by decide +kernel
theorem d_X_findSparsest_74 : decode prog_1_method_30_code 74 = .ok (.getfield 196, 3) := by decide +kernel
theorem d_X_findSparsest_77 : decode prog_1_method_30_code 77 = .ok (.arraylength, 1) := by decide +kernel
theorem d_X_findSparsest_78 : decode prog_1_method_30_code 78 = .ok (.idiv, 1) := by decide +kernel
theorem d_X_findSparsest_79 : decode prog_1_method_30_code 79 = .ok (.istore 7, 2) := by decide +kernel
theorem d_X_findSparsest_81 : decode prog_1_method_30_code 81 = .ok (.iload 7, 2) := by decide +kernel
theorem d_X_findSparsest_83 : decode prog_1_method_30_code 83 = .ok (.iload_n 3, 1) := by decide +kernel
theorem d_X_findSparsest_84 : decode prog_1_method_30_code 84 = .ok (.if_icmp .ge 9, 3) := by decide +kernel
theorem d_X_findSparsest_87 : decode prog_1_method_30_code 87 = .ok (.iload 7, 2) := by decide +kernel
theorem d_X_findSparsest_89 : decode prog_1_method_30_code 89 = .ok (.istore_n 3, 1) := by decide +kernel
theorem d_X_findSparsest_90 : decode prog_1_method_30_code 90 = .ok (.aload 5, 2) := by decide +kernel
theorem d_X_findSparsest_92 : decode prog_1_method_30_code 92 = .ok (.astore_n 2, 1) := by decide +kernel
theorem d_X_findSparsest_93 : decode prog_1_method_30_code 93 = .ok (.iinc 4 1, 3) := by decide +kernel
theorem d_X_findSparsest_96 : decode prog_1_method_30_code 96 = .ok (.goto (-89), 3) := by decide +kernel
theorem d_X_findSparsest_99 : decode prog_1_method_30_code 99 = .ok (.aload_n 2, 1) := by decide +kernel
theorem d_X_findSparsest_100 : decode prog_1_method_30_code 100 = .ok (.areturn, 1) := by decide +kernel
def W_X_findSparsest : Wl := ([], [])
def b_X_findSparsest_7 (y0 : Nat) (y2 : Option Nat) (y3 : Int32) (y4 : Int32) (h : Hp) : Option ((Option Nat × Int32 × Int32 × Hp) ⊕ (Option Nat × Hp)) :=
  gd (isK h y0 0) (dr (hpR h y0 2) fun a2 => gd (isK h a2 9) (cl (f_A_size a2 h) fun v7 h5 => if v7 ≤ y4 then (some (.inr (y2, h5))) else (gd (isK h5 y0 0) (dr (hpR h5 y0 2) fun a11 => gd (isK h5 a11 9) (cl (f_A_get a11 y4 h5) fun v16 h14 => gd (caB h14 v16 2) (gd (isK h14 y0 0) (dr v16 fun a20 => gd (isK h14 a20 2) (cl (f_K_livePages a20 (hpI h14 y0 7) h14) fun v25 h23 => if v25 = 0 then (some (.inl (y2, y3, (y4 + (1 : Int32)), h23))) else (gd (isK h23 a20 2) (gd (isK h23 y0 0) (dr (hpR h23 y0 4) fun a30 => gd (isK h23 a30 7) (if (hpR h23 a20 4) = (hpR h23 a30 1) then (some (.inl (y2, y3, (y4 + (1 : Int32)), h23))) else (dr (hpR h23 a20 2) fun a34 => gd (isK h23 a34 103) (gd (!decide ((Int32.ofNat (hpL h23 a34)) = 0)) (if y3 ≤ (((nI 64) * v25) / (Int32.ofNat (hpL h23 a34))) then (some (.inl (y2, y3, (y4 + (1 : Int32)), h23))) else (some (.inl (v16, (((nI 64) * v25) / (Int32.ofNat (hpL h23 a34))), (y4 + (1 : Int32)), h23))))))))))))))))))
set_option maxRecDepth 100000 in
set_option maxHeartbeats 4000000 in
theorem zb_X_findSparsest_7 {l : Launch} {C : Ct} {mi : Nat} {y0 : Nat} {y2 : Option Nat} {y3 : Int32} {y4 : Int32} {h h' : Hp} {v : Option Nat} {q : ((Option Nat × Int32 × Int32 × Hp) ⊕ (Option Nat × Hp))} (hf : b_X_findSparsest_7 y0 y2 y3 y4 h = some q) (kc : ∀ s, q = .inl s → Z l C mi m_X_findSparsest 3 7 [(0, vr (some y0)), (2, vr s.1), (3, vi s.2.1), (4, vi s.2.2.1)] [] s.2.2.2 (some (vr v)) h') (ke : ∀ x, q = .inr x → Z l C mi m_X_findSparsest 3 99 [(2, vr x.1)] [] x.2 (some (vr v)) h') : Z l C mi m_X_findSparsest 3 7 [(0, vr (some y0)), (2, vr y2), (3, vi y3), (4, vi y4)] [] h (some (vr v)) h' := by
  unfold b_X_findSparsest_7 at hf
  refine z_iload 3 d_X_findSparsest_7 rfl ?_
  refine z_aload_n 0 d_X_findSparsest_9 rfl rfl ?_
  obtain ⟨g1, hf⟩ := gd_some hf
  refine z_getR d_X_findSparsest_10 (fl_K (isK_eq g1) fl_X_26_0) (fi_K (isK_eq g1) rfl) rfl ?_
  obtain ⟨a2, e3, hf⟩ := dr_some hf
  obtain ⟨g4, hf⟩ := gd_some hf
  obtain ⟨v7, h5, ec6, hf⟩ := cl_some hf
  refine z_callVx e3 (c_A_size ec6) d_X_findSparsest_13 cw_A_size lk_X_183 im_A_size se_A_size (kc_K (isK_eq g4) kc_9) ⟨by decide, by decide⟩ (Nat.le_of_ble_eq_true rfl) rfl ?_
  refine z_icmp_ge (tgt := 99) d_X_findSparsest_16 (by decide) (fun c9 => ?_) (fun c9 => ?_)
  · rw [if_pos c9] at hf
    refine z_ls [1] rfl ?_
    exact ke (y2, h5) (Option.some.inj hf).symm
  · rw [if_neg c9] at hf
    refine z_aload_n 0 d_X_findSparsest_19 rfl rfl ?_
    obtain ⟨g10, hf⟩ := gd_some hf
    refine z_getR d_X_findSparsest_20 (fl_K (isK_eq g10) fl_X_26_0) (fi_K (isK_eq g10) rfl) rfl ?_
    refine z_iload 3 d_X_findSparsest_23 rfl ?_
    obtain ⟨a11, e12, hf⟩ := dr_some hf
    obtain ⟨g13, hf⟩ := gd_some hf
    obtain ⟨v16, h14, ec15, hf⟩ := cl_some hf
    refine z_callVx e12 (c_A_get ec15) d_X_findSparsest_25 cw_A_get lk_X_186 im_A_get se_A_get (kc_K (isK_eq g13) kc_9) ⟨by decide, by decide⟩ (Nat.le_of_ble_eq_true rfl) rfl ?_
    obtain ⟨g18, hf⟩ := gd_some hf
    refine z_cast d_X_findSparsest_28 (nm := "VersionMaps$Chunk") (by decide +kernel) (caB_ok (κ := 2) g18 rfl (by decide +kernel)) ?_
    refine z_astore (ls2 := [(5, vr v16), (0, vr (some y0)), (2, vr y2), (3, vi y3), (4, vi y4)]) d_X_findSparsest_31 (by decide) rfl ?_
    refine z_aload 0 d_X_findSparsest_33 rfl ?_
    refine z_aload_n 1 d_X_findSparsest_35 rfl rfl ?_
    obtain ⟨g19, hf⟩ := gd_some hf
    refine z_getI d_X_findSparsest_36 (fl_K (isK_eq g19) fl_X_49_0) (fi_K (isK_eq g19) rfl) rfl ?_
    obtain ⟨a20, e21, hf⟩ := dr_some hf
    obtain ⟨g22, hf⟩ := gd_some hf
    obtain ⟨v25, h23, ec24, hf⟩ := cl_some hf
    refine z_callVx e21 (c_K_livePages ec24) d_X_findSparsest_39 cw_K_livePages lk_X_200 im_K_livePages se_K_livePages (kc_K (isK_eq g22) kc_2) ⟨by decide, by decide⟩ (Nat.le_of_ble_eq_true rfl) rfl ?_
    refine z_istore (ls2 := [(6, vi v25), (5, vr v16), (0, vr (some y0)), (2, vr y2), (3, vi y3), (4, vi y4)]) d_X_findSparsest_42 (by decide) rfl ?_
    refine z_iload 0 d_X_findSparsest_44 rfl ?_
    refine z_if_eq (tgt := 93) d_X_findSparsest_46 (by decide) (fun c27 => ?_) (fun c27 => ?_)
    · rw [if_pos c27] at hf
      refine z_iinc (ls2 := [(4, vi (y4 + (1 : Int32))), (6, vi v25), (5, vr v16), (0, vr (some y0)), (2, vr y2), (3, vi y3)]) 5 d_X_findSparsest_93 rfl rfl (by decide) rfl ?_
      refine z_goto (tgt := 7) d_X_findSparsest_96 (by decide) ?_
      refine z_ls [3, 4, 5, 0] rfl ?_
      exact kc (y2, y3, (y4 + (1 : Int32)), h23) (Option.some.inj hf).symm
    · rw [if_neg c27] at hf
      refine z_aload 1 d_X_findSparsest_49 rfl ?_
      obtain ⟨g28, hf⟩ := gd_some hf
      refine z_getR d_X_findSparsest_51 (fl_K (isK_eq g28) fl_X_130_2) (fi_K (isK_eq g28) rfl) e21 ?_
      refine z_aload_n 2 d_X_findSparsest_54 rfl rfl ?_
      obtain ⟨g29, hf⟩ := gd_some hf
      refine z_getR d_X_findSparsest_55 (fl_K (isK_eq g29) fl_X_38_0) (fi_K (isK_eq g29) rfl) rfl ?_
      obtain ⟨a30, e31, hf⟩ := dr_some hf
      obtain ⟨g32, hf⟩ := gd_some hf
      refine z_getR d_X_findSparsest_58 (fl_K (isK_eq g32) fl_X_83_7) (fi_K (isK_eq g32) rfl) e31 ?_
      refine z_acmp_ne (tgt := 67) d_X_findSparsest_61 (by decide) (fun c33 => ?_) (fun c33 => ?_)
      · rw [if_neg c33] at hf
        refine z_bipush (v := (nI 64)) d_X_findSparsest_67 (by decide) ?_
        refine z_iload 0 d_X_findSparsest_69 rfl ?_
        refine z_imul d_X_findSparsest_71 ?_
        refine z_aload 1 d_X_findSparsest_72 rfl ?_
        refine z_getR d_X_findSparsest_74 (fl_K (isK_eq g28) fl_X_196_2) (fi_K (isK_eq g28) rfl) e21 ?_
        obtain ⟨a34, e35, hf⟩ := dr_some hf
        obtain ⟨g36, hf⟩ := gd_some hf
        refine z_alen d_X_findSparsest_77 e35 (by rw [isK_eq g36]; decide) ?_
        obtain ⟨g37, hf⟩ := gd_some hf
        refine z_idiv d_X_findSparsest_78 (by simpa using g37) ?_
        refine z_istore (ls2 := [(7, vi (((nI 64) * v25) / (Int32.ofNat (hpL h23 a34)))), (6, vi v25), (5, vr v16), (0, vr (some y0)), (2, vr y2), (3, vi y3), (4, vi y4)]) d_X_findSparsest_79 (by decide) rfl ?_
        refine z_iload 0 d_X_findSparsest_81 rfl ?_
        refine z_iload_n 5 d_X_findSparsest_83 rfl rfl ?_
        refine z_icmp_ge (tgt := 93) d_X_findSparsest_84 (by decide) (fun c38 => ?_) (fun c38 => ?_)
        · rw [if_pos c38] at hf
          refine z_iinc (ls2 := [(4, vi (y4 + (1 : Int32))), (7, vi (((nI 64) * v25) / (Int32.ofNat (hpL h23 a34)))), (6, vi v25), (5, vr v16), (0, vr (some y0)), (2, vr y2), (3, vi y3)]) 6 d_X_findSparsest_93 rfl rfl (by decide) rfl ?_
          refine z_goto (tgt := 7) d_X_findSparsest_96 (by decide) ?_
          refine z_ls [4, 5, 6, 0] rfl ?_
          exact kc (y2, y3, (y4 + (1 : Int32)), h23) (Option.some.inj hf).symm
        · rw [if_neg c38] at hf
          refine z_iload 0 d_X_findSparsest_87 rfl ?_
          refine z_istore_n (ls2 := [(3, vi (((nI 64) * v25) / (Int32.ofNat (hpL h23 a34)))), (7, vi (((nI 64) * v25) / (Int32.ofNat (hpL h23 a34)))), (6, vi v25), (5, vr v16), (0, vr (some y0)), (2, vr y2), (4, vi y4)]) d_X_findSparsest_89 rfl (by decide) rfl ?_
          refine z_aload 3 d_X_findSparsest_90 rfl ?_
          refine z_astore_n (ls2 := [(2, vr v16), (3, vi (((nI 64) * v25) / (Int32.ofNat (hpL h23 a34)))), (7, vi (((nI 64) * v25) / (Int32.ofNat (hpL h23 a34)))), (6, vi v25), (5, vr v16), (0, vr (some y0)), (4, vi y4)]) d_X_findSparsest_92 rfl (by decide) rfl ?_
          refine z_iinc (ls2 := [(4, vi (y4 + (1 : Int32))), (2, vr v16), (3, vi (((nI 64) * v25) / (Int32.ofNat (hpL h23 a34)))), (7, vi (((nI 64) * v25) / (Int32.ofNat (hpL h23 a34)))), (6, vi v25), (5, vr v16), (0, vr (some y0))]) 6 d_X_findSparsest_93 rfl rfl (by decide) rfl ?_
          refine z_goto (tgt := 7) d_X_findSparsest_96 (by decide) ?_
          refine z_ls [6, 1, 2, 0] rfl ?_
          exact kc (v16, (((nI 64) * v25) / (Int32.ofNat (hpL h23 a34))), (y4 + (1 : Int32)), h23) (Option.some.inj hf).symm
      · rw [if_pos c33] at hf
        refine z_goto (tgt := 93) d_X_findSparsest_64 (by decide) ?_
        refine z_iinc (ls2 := [(4, vi (y4 + (1 : Int32))), (6, vi v25), (5, vr v16), (0, vr (some y0)), (2, vr y2), (3, vi y3)]) 5 d_X_findSparsest_93 rfl rfl (by decide) rfl ?_
        refine z_goto (tgt := 7) d_X_findSparsest_96 (by decide) ?_
        refine z_ls [3, 4, 5, 0] rfl ?_
        exact kc (y2, y3, (y4 + (1 : Int32)), h23) (Option.some.inj hf).symm
set_option maxRecDepth 100000 in
set_option maxHeartbeats 4000000 in
theorem kb_X_findSparsest_7 {C : Ct} {mi : Nat} {y0 : Nat} {y2 : Option Nat} {y3 : Int32} {y4 : Int32} {h : Hp} {q : ((Option Nat × Int32 × Int32 × Hp) ⊕ (Option Nat × Hp))} (hf : b_X_findSparsest_7 y0 y2 y3 y4 h = some q) : Keep W_X_findSparsest h (Sum.elim (fun s : Option Nat × Int32 × Int32 × Hp => s.2.2.2) (fun x : Option Nat × Hp => x.2) q) := by
  unfold b_X_findSparsest_7 at hf
  obtain ⟨g1, hf⟩ := gd_some hf
  obtain ⟨a2, e3, hf⟩ := dr_some hf
  obtain ⟨g4, hf⟩ := gd_some hf
  obtain ⟨v7, h5, ec6, hf⟩ := cl_some hf
  have K8 := (Keep.refl W_X_findSparsest _).trans ((fr_A_size (C := C) (mi := mi) ec6).mono (by decide) (by decide))
  rcases Classical.em (v7 ≤ y4) with c9 | c9
  · rw [if_pos c9] at hf
    cases (Option.some.inj hf)
    exact K8
  · rw [if_neg c9] at hf
    obtain ⟨g10, hf⟩ := gd_some hf
    obtain ⟨a11, e12, hf⟩ := dr_some hf
    obtain ⟨g13, hf⟩ := gd_some hf
    obtain ⟨v16, h14, ec15, hf⟩ := cl_some hf
    have K17 := K8.trans ((fr_A_get (C := C) (mi := mi) ec15).mono (by decide) (by decide))
    obtain ⟨g18, hf⟩ := gd_some hf
    obtain ⟨g19, hf⟩ := gd_some hf
    obtain ⟨a20, e21, hf⟩ := dr_some hf
    obtain ⟨g22, hf⟩ := gd_some hf
    obtain ⟨v25, h23, ec24, hf⟩ := cl_some hf
    have K26 := K17.trans ((fr_K_livePages (C := C) (mi := mi) ec24).mono (by decide) (by decide))
    rcases Classical.em (v25 = 0) with c27 | c27
    · rw [if_pos c27] at hf
      cases (Option.some.inj hf)
      exact K26
    · rw [if_neg c27] at hf
      obtain ⟨g28, hf⟩ := gd_some hf
      obtain ⟨g29, hf⟩ := gd_some hf
      obtain ⟨a30, e31, hf⟩ := dr_some hf
      obtain ⟨g32, hf⟩ := gd_some hf
      rcases (Classical.em ((hpR h23 a20 4) = (hpR h23 a30 1))).symm with c33 | c33
      · rw [if_neg c33] at hf
        obtain ⟨a34, e35, hf⟩ := dr_some hf
        obtain ⟨g36, hf⟩ := gd_some hf
        obtain ⟨g37, hf⟩ := gd_some hf
        rcases Classical.em (y3 ≤ (((nI 64) * v25) / (Int32.ofNat (hpL h23 a34)))) with c38 | c38
        · rw [if_pos c38] at hf
          cases (Option.some.inj hf)
          exact K26
        · rw [if_neg c38] at hf
          cases (Option.some.inj hf)
          exact K26
      · rw [if_pos c33] at hf
        cases (Option.some.inj hf)
        exact K26
def l_X_findSparsest_7 (y0 : Nat) (s : Option Nat × Int32 × Int32 × Hp) : Option (Option Nat × Hp) := lp (fun s => b_X_findSparsest_7 y0 s.1 s.2.1 s.2.2.1 s.2.2.2) FU s
theorem zzl_X_findSparsest_7 {l : Launch} {C : Ct} {mi : Nat} {y0 : Nat} {h' : Hp} {v : Option Nat} : ∀ (n : Nat) (s : Option Nat × Int32 × Int32 × Hp) (x : (Option Nat × Hp)), lp (fun s : Option Nat × Int32 × Int32 × Hp => b_X_findSparsest_7 y0 s.1 s.2.1 s.2.2.1 s.2.2.2) n s = some x → Z l C mi m_X_findSparsest 3 99 [(2, vr x.1)] [] x.2 (some (vr v)) h' → Z l C mi m_X_findSparsest 3 7 [(0, vr (some y0)), (2, vr s.1), (3, vi s.2.1), (4, vi s.2.2.1)] [] s.2.2.2 (some (vr v)) h' := by
  intro n
  induction n with
  | zero => intro s x hl; cases hl
  | succ n ih =>
    intro s x hl ke
    rcases lp_some hl with ⟨s2, hb, hl2⟩ | hb
    · exact zb_X_findSparsest_7 hb (fun s3 e3 => by cases e3; refine z_ls [0, 1, 2, 3] rfl ?_; exact ih s2 x hl2 ke) (fun x e3 => by cases e3)
    · exact zb_X_findSparsest_7 hb (fun s3 e3 => by cases e3) (fun x e3 => by cases e3; exact ke)
theorem zl_X_findSparsest_7 {l : Launch} {C : Ct} {mi : Nat} {y0 : Nat} {h' : Hp} {v : Option Nat} {s : Option Nat × Int32 × Int32 × Hp} {x : (Option Nat × Hp)} (hl : l_X_findSparsest_7 y0 s = some x) (ke : Z l C mi m_X_findSparsest 3 99 [(2, vr x.1)] [] x.2 (some (vr v)) h') : Z l C mi m_X_findSparsest 3 7 [(0, vr (some y0)), (2, vr s.1), (3, vi s.2.1), (4, vi s.2.2.1)] [] s.2.2.2 (some (vr v)) h' := zzl_X_findSparsest_7 FU s x hl ke
theorem kl_X_findSparsest_7 {C : Ct} {mi : Nat} {y0 : Nat} {s : Option Nat × Int32 × Int32 × Hp} {q : (Option Nat × Hp)} (hl : l_X_findSparsest_7 y0 s = some q) : Keep W_X_findSparsest s.2.2.2 ((fun x : Option Nat × Hp => x.2) q) := lpk (sh := (fun s : Option Nat × Int32 × Int32 × Hp => s.2.2.2)) (rh := (fun x : Option Nat × Hp => x.2)) (fun s q hb => kb_X_findSparsest_7 (C := C) (mi := mi) hb) FU s q hl
def f_X_findSparsest (a0 : Nat) (p1 : Int32) (h : Hp) : Option (Option Nat × Hp) :=
  bd (l_X_findSparsest_7 a0 (none, p1, (0 : Int32), h)) fun x39 => some (x39.1, x39.2)
set_option maxRecDepth 100000 in
set_option maxHeartbeats 4000000 in
theorem zf_X_findSparsest {l : Launch} {C : Ct} {mi : Nat} {a0 : Nat} {p1 : Int32} {h h' : Hp} {v : Option Nat} (hf : f_X_findSparsest a0 p1 h = some (v, h')) : Z l C mi m_X_findSparsest 3 0 [(0, vr (some a0)), (1, vi p1)] [] h (some (vr v)) h' := by
  unfold f_X_findSparsest at hf
  refine z_aconst_null d_X_findSparsest_0 ?_
  refine z_astore_n (ls2 := [(2, vr none), (0, vr (some a0)), (1, vi p1)]) d_X_findSparsest_1 rfl (by decide) rfl ?_
  refine z_iload_n 2 d_X_findSparsest_2 rfl rfl ?_
  refine z_istore_n (ls2 := [(3, vi p1), (2, vr none), (0, vr (some a0)), (1, vi p1)]) d_X_findSparsest_3 rfl (by decide) rfl ?_
  refine z_iconst (v := (0 : Int32)) d_X_findSparsest_4 (by decide) ?_
  refine z_istore (ls2 := [(4, vi (0 : Int32)), (3, vi p1), (2, vr none), (0, vr (some a0)), (1, vi p1)]) d_X_findSparsest_5 (by decide) rfl ?_
  obtain ⟨x39, el40, hf⟩ := bd_some hf
  refine z_ls [3, 2, 1, 0] rfl ?_
  refine zl_X_findSparsest_7 el40 ?_
  refine z_aload_n 0 d_X_findSparsest_99 rfl rfl ?_
  obtain ⟨rfl, rfl⟩ := Prod.mk.inj (Option.some.inj hf)
  exact z_ret d_X_findSparsest_100 rfl
set_option maxRecDepth 100000 in
set_option maxHeartbeats 4000000 in
theorem fr_X_findSparsest {C : Ct} {mi : Nat} {a0 : Nat} {p1 : Int32} {h h' : Hp} {v : Option Nat} (hf : f_X_findSparsest a0 p1 h = some (v, h')) : Keep W_X_findSparsest h h' := by
  unfold f_X_findSparsest at hf
  obtain ⟨x39, el40, hf⟩ := bd_some hf
  have K41 := (Keep.refl W_X_findSparsest _).trans (kl_X_findSparsest_7 (C := C) (mi := mi) el40)
  obtain ⟨rfl, rfl⟩ := Prod.mk.inj (Option.some.inj hf)
  exact K41
theorem c_X_findSparsest {l : Launch} {C : Ct} {mi : Nat} {a0 : Nat} {p1 : Int32} {h h' : Hp} {v : Option Nat} (hf : f_X_findSparsest a0 p1 h = some (v, h')) : Mt l C mi m_X_findSparsest 3 [vr (some a0), vi p1] h (some (vr v)) h' := mt_R rfl (Or.inl ⟨_, rfl⟩) rfl (by decide) (Nat.le_of_ble_eq_true rfl) (zf_X_findSparsest hf)
-- VersionMaps.compact(I)I
def m_X_compact : Mi := (⟨"VersionMaps", "compact", "(I)I"⟩, prog_1_method_13_code, 3, (Option.some Jvm.ClassFile.FieldType.int), .ireturn)
theorem cw_X_compact : cw_ok m_X_compact 1 := ⟨by decide +kernel, by decide +kernel, by decide +kernel, by decide +kernel⟩
theorem im_X_compact : Cond.instanceMethod m_X_compact.1 ∈ lw_w := by decide +kernel
theorem se_X_compact : Cond.selects "VersionMaps" m_X_compact.1 m_X_compact.1 ∈ lw_w := by decide +kernel
theorem d_X_compact_0 : decode prog_1_method_13_code 0 = .ok (.iload_n 1, 1) := by decide +kernel
theorem d_X_compact_1 : decode prog_1_method_13_code 1 = .ok (.iconst 1, 1) := by decide +kernel
theorem d_X_compact_2 : decode prog_1_method_13_code 2 = .ok (.if_icmp .lt 9, 3) := by decide +kernel
theorem d_X_compact_5 : decode prog_1_method_13_code 5 = .ok (.iload_n 1, 1) := by decide +kernel
theorem d_X_compact_6 : decode prog_1_method_13_code 6 = .ok (.bipush 64, 2) := by decide +kernel
theorem d_X_compact_8 : decode prog_1_method_13_code 8 = .ok (.if_icmp .le 5, 3) := by decide +kernel
theorem d_X_compact_11 : decode prog_1_method_13_code 11 = .ok (.iconst (-1), 1) := by decide +kernel
theorem d_X_compact_12 : decode prog_1_method_13_code 12 = .ok (.ireturn, 1) := by decide +kernel
theorem d_X_compact_13 : decode prog_1_method_13_code 13 = .ok (.aload_n 0, 1) := by decide +kernel
theorem d_X_compact_14 : decode prog_1_method_13_code 14 = .ok (.iload_n 1, 1) := by decide +kernel
theorem d_X_compact_15 : decode prog_1_method_13_code 15 = .ok (.invokevirtual 168, 3) := by decide +kernel
theorem d_X_compact_18 : decode prog_1_method_13_code 18 = .ok (.astore_n 2, 1) := by decide +kernel
theorem d_X_compact_19 : decode prog_1_method_13_code 19 = .ok (.aload_n 2, 1) := by decide +kernel
theorem d_X_compact_20 : decode prog_1_method_13_code 20 = .ok (.ifnull 13, 3) := by decide +kernel
theorem d_X_compact_23 : decode prog_1_method_13_code 23 = .ok (.aload_n 0, 1) := by decide +kernel
theorem d_X_compact_24 : decode prog_1_method_13_code 24 = .ok (.getfield 38, 3) := by decide +kernel
theorem d_X_compact_27 : decode prog_1_method_13_code 27 = .ok (.getfield 83, 3) := by decide +kernel
theorem d_X_compact_30 : decode prog_1_method_13_code 30 = .ok (.ifnonnull 6, 3) := by decide +kernel
theorem d_X_compact_33 : decode prog_1_method_13_code 33 = .ok (.bipush (-3), 2) := by decide +kernel
theorem d_X_compact_35 : decode prog_1_method_13_code 35 = .ok (.ireturn, 1) := by decide +kernel
theorem d_X_compact_36 : decode prog_1_method_13_code 36 = .ok (.aload_n 0, 1) := by decide +kernel
theorem d_X_compact_37 : decode prog_1_method_13_code 37 = .ok (.getfield 10, 3) := by decide +kernel
theorem d_X_compact_40 : decode prog_1_method_13_code 40 = .ok (.aload_n 2, 1) := by decide +kernel
theorem d_X_compact_41 : decode prog_1_method_13_code 41 = .ok (.aload_n 0, 1) := by decide +kernel
theorem d_X_compact_42 : decode prog_1_method_13_code 42 = .ok (.getfield 38, 3) := by decide +kernel
theorem d_X_compact_45 : decode prog_1_method_13_code 45 = .ok (.getfield 83, 3) := by decide +kernel
theorem d_X_compact_48 : decode prog_1_method_13_code 48 = .ok (.invokevirtual 172, 3) := by decide +kernel
theorem d_X_compact_51 : decode prog_1_method_13_code 51 = .ok (.ireturn, 1) := by decide +kernel
def W_X_compact : Wl := ([(5, 2), (5, 3)], [])
def f_X_compact (a0 : Nat) (p1 : Int32) (h : Hp) : Option (Int32 × Hp) :=
  if p1 < (1 : Int32) then (some ((-1 : Int32), h)) else (if p1 ≤ (nI 64) then (gd (isK h a0 0) (cl (f_X_findSparsest a0 p1 h) fun v6 h4 => if v6 = none then (some ((-3 : Int32), h4)) else (gd (isK h4 a0 0) (dr (hpR h4 a0 4) fun a10 => gd (isK h4 a10 7) (if (hpR h4 a10 1) = none then (some ((-3 : Int32), h4)) else (dr (hpR h4 a0 0) fun a14 => gd (isK h4 a14 5) (cl (f_P_touchPagesIn a14 v6 (hpR h4 a10 1) h4) fun v19 h17 => some (v19, h17)))))))) else (some ((-1 : Int32), h)))
set_option maxRecDepth 100000 in
set_option maxHeartbeats 4000000 in
theorem zf_X_compact {l : Launch} {C : Ct} {mi : Nat} {a0 : Nat} {p1 : Int32} {h h' : Hp} {v : Int32} (hf : f_X_compact a0 p1 h = some (v, h')) : Z l C mi m_X_compact 4 0 [(0, vr (some a0)), (1, vi p1)] [] h (some (vi v)) h' := by
  unfold f_X_compact at hf
  refine z_iload_n 1 d_X_compact_0 rfl rfl ?_
  refine z_iconst (v := (1 : Int32)) d_X_compact_1 (by decide) ?_
  refine z_icmp_lt (tgt := 11) d_X_compact_2 (by decide) (fun c1 => ?_) (fun c1 => ?_)
  · rw [if_pos c1] at hf
    refine z_iconst (v := (-1 : Int32)) d_X_compact_11 (by decide) ?_
    obtain ⟨rfl, rfl⟩ := Prod.mk.inj (Option.some.inj hf)
    exact z_ret d_X_compact_12 rfl
  · rw [if_neg c1] at hf
    refine z_iload_n 1 d_X_compact_5 rfl rfl ?_
    refine z_bipush (v := (nI 64)) d_X_compact_6 (by decide) ?_
    refine z_icmp_le (tgt := 13) d_X_compact_8 (by decide) (fun c2 => ?_) (fun c2 => ?_)
    · rw [if_pos c2] at hf
      refine z_aload_n 0 d_X_compact_13 rfl rfl ?_
      refine z_iload_n 1 d_X_compact_14 rfl rfl ?_
      obtain ⟨g3, hf⟩ := gd_some hf
      obtain ⟨v6, h4, ec5, hf⟩ := cl_some hf
      refine z_callVx rfl (c_X_findSparsest ec5) d_X_compact_15 cw_X_findSparsest lk_X_168 im_X_findSparsest se_X_findSparsest (kc_K (isK_eq g3) kc_0) ⟨by decide, by decide⟩ (Nat.le_of_ble_eq_true rfl) rfl ?_
      refine z_astore_n (ls2 := [(2, vr v6), (0, vr (some a0)), (1, vi p1)]) d_X_compact_18 rfl (by decide) rfl ?_
      refine z_aload_n 0 d_X_compact_19 rfl rfl ?_
      refine z_ifnull (tgt := 33) d_X_compact_20 (by decide) (fun c8 => ?_) (fun c8 => ?_)
      · rw [if_pos c8] at hf
        refine z_bipush (v := (-3 : Int32)) d_X_compact_33 (by decide) ?_
        obtain ⟨rfl, rfl⟩ := Prod.mk.inj (Option.some.inj hf)
        exact z_ret d_X_compact_35 rfl
      · rw [if_neg c8] at hf
        refine z_aload_n 1 d_X_compact_23 rfl rfl ?_
        obtain ⟨g9, hf⟩ := gd_some hf
        refine z_getR d_X_compact_24 (fl_K (isK_eq g9) fl_X_38_0) (fi_K (isK_eq g9) rfl) rfl ?_
        obtain ⟨a10, e11, hf⟩ := dr_some hf
        obtain ⟨g12, hf⟩ := gd_some hf
        refine z_getR d_X_compact_27 (fl_K (isK_eq g12) fl_X_83_7) (fi_K (isK_eq g12) rfl) e11 ?_
        refine z_ifnonnull (tgt := 36) d_X_compact_30 (by decide) (fun c13 => ?_) (fun c13 => ?_)
        · rw [if_neg c13] at hf
          refine z_aload_n 1 d_X_compact_36 rfl rfl ?_
          refine z_getR d_X_compact_37 (fl_K (isK_eq g9) fl_X_10_0) (fi_K (isK_eq g9) rfl) rfl ?_
          refine z_aload_n 0 d_X_compact_40 rfl rfl ?_
          refine z_aload_n 1 d_X_compact_41 rfl rfl ?_
          refine z_getR d_X_compact_42 (fl_K (isK_eq g9) fl_X_38_0) (fi_K (isK_eq g9) rfl) rfl ?_
          refine z_getR d_X_compact_45 (fl_K (isK_eq g12) fl_X_83_7) (fi_K (isK_eq g12) rfl) e11 ?_
          obtain ⟨a14, e15, hf⟩ := dr_some hf
          obtain ⟨g16, hf⟩ := gd_some hf
          obtain ⟨v19, h17, ec18, hf⟩ := cl_some hf
          refine z_callVx e15 (c_P_touchPagesIn ec18) d_X_compact_48 cw_P_touchPagesIn lk_X_172 im_P_touchPagesIn se_P_touchPagesIn (kc_K (isK_eq g16) kc_5) ⟨by decide, by decide⟩ (Nat.le_of_ble_eq_true rfl) rfl ?_
          obtain ⟨rfl, rfl⟩ := Prod.mk.inj (Option.some.inj hf)
          exact z_ret d_X_compact_51 rfl
        · rw [if_pos c13] at hf
          refine z_bipush (v := (-3 : Int32)) d_X_compact_33 (by decide) ?_
          obtain ⟨rfl, rfl⟩ := Prod.mk.inj (Option.some.inj hf)
          exact z_ret d_X_compact_35 rfl
    · rw [if_neg c2] at hf
      refine z_iconst (v := (-1 : Int32)) d_X_compact_11 (by decide) ?_
      obtain ⟨rfl, rfl⟩ := Prod.mk.inj (Option.some.inj hf)
      exact z_ret d_X_compact_12 rfl
set_option maxRecDepth 100000 in
set_option maxHeartbeats 4000000 in
theorem fr_X_compact {C : Ct} {mi : Nat} {a0 : Nat} {p1 : Int32} {h h' : Hp} {v : Int32} (hf : f_X_compact a0 p1 h = some (v, h')) : Keep W_X_compact h h' := by
  unfold f_X_compact at hf
  rcases Classical.em (p1 < (1 : Int32)) with c1 | c1
  · rw [if_pos c1] at hf
    obtain ⟨rfl, rfl⟩ := Prod.mk.inj (Option.some.inj hf)
    exact (Keep.refl W_X_compact _)
  · rw [if_neg c1] at hf
    rcases Classical.em (p1 ≤ (nI 64)) with c2 | c2
    · rw [if_pos c2] at hf
      obtain ⟨g3, hf⟩ := gd_some hf
      obtain ⟨v6, h4, ec5, hf⟩ := cl_some hf
      have K7 := (Keep.refl W_X_compact _).trans ((fr_X_findSparsest (C := C) (mi := mi) ec5).mono (by decide) (by decide))
      rcases Classical.em (v6 = none) with c8 | c8
      · rw [if_pos c8] at hf
        obtain ⟨rfl, rfl⟩ := Prod.mk.inj (Option.some.inj hf)
        exact K7
      · rw [if_neg c8] at hf
        obtain ⟨g9, hf⟩ := gd_some hf
        obtain ⟨a10, e11, hf⟩ := dr_some hf
        obtain ⟨g12, hf⟩ := gd_some hf
        rcases (Classical.em ((hpR h4 a10 1) = none)).symm with c13 | c13
        · rw [if_neg c13] at hf
          obtain ⟨a14, e15, hf⟩ := dr_some hf
          obtain ⟨g16, hf⟩ := gd_some hf
          obtain ⟨v19, h17, ec18, hf⟩ := cl_some hf
          have K20 := K7.trans ((fr_P_touchPagesIn (C := C) (mi := mi) ec18).mono (by decide) (by decide))
          obtain ⟨rfl, rfl⟩ := Prod.mk.inj (Option.some.inj hf)
          exact K20
        · rw [if_pos c13] at hf
          obtain ⟨rfl, rfl⟩ := Prod.mk.inj (Option.some.inj hf)
          exact K7
    · rw [if_neg c2] at hf
      obtain ⟨rfl, rfl⟩ := Prod.mk.inj (Option.some.inj hf)
      exact (Keep.refl W_X_compact _)
theorem c_X_compact {l : Launch} {C : Ct} {mi : Nat} {a0 : Nat} {p1 : Int32} {h h' : Hp} {v : Int32} (hf : f_X_compact a0 p1 h = some (v, h')) : Mt l C mi m_X_compact 4 [vr (some a0), vi p1] h (some (vi v)) h' := mt_I (ty := .int) rfl rfl rfl (by decide) (Nat.le_of_ble_eq_true rfl) (zf_X_compact hf)
-- VersionMaps.reopen()V
def m_X_reopen : Mi := (⟨"VersionMaps", "reopen", "()V"⟩, prog_1_method_31_code, 3, (Option.none : Option Jvm.ClassFile.FieldType), .return_)
theorem cw_X_reopen : cw_ok m_X_reopen 0 := ⟨by decide +kernel, by decide +kernel, by decide +kernel, by decide +kernel⟩
theorem im_X_reopen : Cond.instanceMethod m_X_reopen.1 ∈ lw_w := by decide +kernel
theorem se_X_reopen : Cond.selects "VersionMaps" m_X_reopen.1 m_X_reopen.1 ∈ lw_w := by decide +kernel
theorem d_X_reopen_0 : decode prog_1_method_31_code 0 = .ok (.aload_n 0, 1) := by decide +kernel
theorem d_X_reopen_1 : decode prog_1_method_31_code 1 = .ok (.getfield 19, 3) := by decide +kernel
theorem d_X_reopen_4 : decode prog_1_method_31_code 4 = .ok (.invokevirtual 256, 3) := by decide +kernel
theorem d_X_reopen_7 : decode prog_1_method_31_code 7 = .ok (.astore_n 1, 1) := by decide +kernel
theorem d_X_reopen_8 : decode prog_1_method_31_code 8 = .ok (.aload_n 1, 1) := by decide +kernel
theorem d_X_reopen_9 : decode prog_1_method_31_code 9 = .ok (.ifnonnull 7, 3) := by decide +kernel
theorem d_X_reopen_12 : decode prog_1_method_31_code 12 = .ok (.aconst_null, 1) := by decide +kernel
theorem d_X_reopen_13 : decode prog_1_method_31_code 13 = .ok (.goto 7, 3) := by decide +kernel
theorem d_X_reopen_16 : decode prog_1_method_31_code 16 = .ok (.aload_n 1, 1) := by decide +kernel
theorem d_X_reopen_17 : decode prog_1_method_31_code 17 = .ok (.getfield 130, 3) := by decide +kernel
theorem d_X_reopen_20 : decode prog_1_method_31_code 20 = .ok (.astore_n 2, 1) := by decide +kernel
theorem d_X_reopen_21 : decode prog_1_method_31_code 21 = .ok (.aload_n 0, 1) := by decide +kernel
theorem d_X_reopen_22 : decode prog_1_method_31_code 22 = .ok (.new 33, 3) := by decide +kernel
theorem d_X_reopen_25 : decode prog_1_method_31_code 25 = .ok (.dup, 1) := by decide +kernel
theorem d_X_reopen_26 : decode prog_1_method_31_code 26 = .ok (.aload_n 2, 1) := by decide +kernel
theorem d_X_reopen_27 : decode prog_1_method_31_code 27 = .ok (.ifnonnull 7, 3) := by decide +kernel
theorem d_X_reopen_30 : decode prog_1_method_31_code 30 = .ok (.iconst 0, 1) := by decide +kernel
theorem d_X_reopen_31 : decode prog_1_method_31_code 31 = .ok (.goto 7, 3) := by decide +kernel
theorem d_X_reopen_34 : decode prog_1_method_31_code 34 = .ok (.aload_n 2, 1) := by decide +kernel
theorem d_X_reopen_35 : decode prog_1_method_31_code 35 = .ok (.getfield 203, 3) := by decide +kernel
theorem d_X_reopen_38 : decode prog_1_method_31_code 38 = .ok (.aload_n 2, 1) := by decide +kernel
theorem d_X_reopen_39 : decode prog_1_method_31_code 39 = .ok (.invokespecial 35, 3) := by decide +kernel
theorem d_X_reopen_42 : decode prog_1_method_31_code 42 = .ok (.putfield 38, 3) := by decide +kernel
theorem d_X_reopen_45 : decode prog_1_method_31_code 45 = .ok (.aload_n 0, 1) := by decide +kernel
theorem d_X_reopen_46 : decode prog_1_method_31_code 46 = .ok (.getfield 30, 3) := by decide +kernel
theorem d_X_reopen_49 : decode prog_1_method_31_code 49 = .ok (.invokevirtual 260, 3) := by decide +kernel
theorem d_X_reopen_52 : decode prog_1_method_31_code 52 = .ok (.aload_n 0, 1) := by decide +kernel
theorem d_X_reopen_53 : decode prog_1_method_31_code 53 = .ok (.getfield 30, 3) := by decide +kernel
theorem d_X_reopen_56 : decode prog_1_method_31_code 56 = .ok (.aload_n 0, 1) := by decide +kernel
theorem d_X_reopen_57 : decode prog_1_method_31_code 57 = .ok (.getfield 38, 3) := by decide +kernel
theorem d_X_reopen_60 : decode prog_1_method_31_code 60 = .ok (.invokevirtual 52, 3) := by decide +kernel
theorem d_X_reopen_63 : decode prog_1_method_31_code 63 = .ok (.pop, 1) := by decide +kernel
theorem d_X_reopen_64 : decode prog_1_method_31_code 64 = .ok (.aload_n 0, 1) := by decide +kernel
theorem d_X_reopen_65 : decode prog_1_method_31_code 65 = .ok (.getfield 10, 3) := by decide +kernel
theorem d_X_reopen_68 : decode prog_1_method_31_code 68 = .ok (.aload_n 2, 1) := by decide +kernel
theorem d_X_reopen_69 : decode prog_1_method_31_code 69 = .ok (.invokevirtual 146, 3) := by decide +kernel
theorem d_X_reopen_72 : decode prog_1_method_31_code 72 = .ok (.aload_n 0, 1) := by decide +kernel
theorem d_X_reopen_73 : decode prog_1_method_31_code 73 = .ok (.invokevirtual 247, 3) := by decide +kernel
theorem d_X_reopen_76 : decode prog_1_method_31_code 76 = .ok (.aload_n 0, 1) := by decide +kernel
theorem d_X_reopen_77 : decode prog_1_method_31_code 77 = .ok (.invokevirtual 165, 3) := by decide +kernel
theorem d_X_reopen_80 : decode prog_1_method_31_code 80 = .ok (.aload_n 0, 1) := by decide +kernel
theorem d_X_reopen_81 : decode prog_1_method_31_code 81 = .ok (.aload_n 0, 1) := by decide +kernel
theorem d_X_reopen_82 : decode prog_1_method_31_code 82 = .ok (.getfield 19, 3) := by decide +kernel
theorem d_X_reopen_85 : decode prog_1_method_31_code 85 = .ok (.invokevirtual 263, 3) := by decide +kernel
theorem d_X_reopen_88 : decode prog_1_method_31_code 88 = .ok (.iconst 1, 1) := by decide +kernel
theorem d_X_reopen_89 : decode prog_1_method_31_code 89 = .ok (.iadd, 1) := by decide +kernel
theorem d_X_reopen_90 : decode prog_1_method_31_code 90 = .ok (.putfield 46, 3) := by decide +kernel
theorem d_X_reopen_93 : decode prog_1_method_31_code 93 = .ok (.return_, 1) := by decide +kernel
def W_X_reopen : Wl := ([(0, 4), (0, 6), (0, 7), (3, 2), (4, 2), (5, 2), (5, 3), (6, 2), (7, 0), (7, 1), (7, 2), (9, 0), (9, 1), (9, 2)], [66, 67, 70, 73, 74])
def j_X_reopen_38_M (E : Nat × Nat) (y0 : Nat) (y2 : Option Nat) (w0 : Int32) (w1 : Nat) (w2 : Nat) (w3 : Nat) (h : Hp) : Option Hp :=
  cv (f_V_init w1 w0 y2 h) fun h20 => gd (isK h20 w3 0) (nm (wR h20 w3 4 (some w2)) fun h24 => gd (isK h24 y0 0) (dr (hpR h24 y0 3) fun a28 => gd (isK h24 a28 9) (cv (f_A_clear a28 h24) fun h31 => gd (isK h31 y0 0) (dr (hpR h31 y0 3) fun a35 => gd (isK h31 a35 9) (cl (f_A_add1 E a35 (hpR h31 y0 4) h31) fun v40 h38 => gd (isK h38 y0 0) (dr (hpR h38 y0 0) fun a43 => gd (isK h38 a43 5) (cv (f_P_load a43 y2 h38) fun h46 => gd (isK h46 y0 0) (cv (f_X_markLivePages y0 h46) fun h50 => gd (isK h50 y0 0) (cv (f_X_freeDeadChunks y0 h50) fun h54 => gd (isK h54 y0 0) (dr (hpR h54 y0 1) fun a58 => gd (isK h54 a58 1) (cl (f_F_greatestId a58 h54) fun v63 h61 => gd (isK h61 y0 0) (nm (wI h61 y0 6 (v63 + (1 : Int32))) fun h66 => some h66))))))))))))
set_option maxRecDepth 100000 in
set_option maxHeartbeats 4000000 in
theorem zj_X_reopen_38_M {l : Launch} {C : Ct} {mi : Nat} {y0 : Nat} {y2 : Option Nat} {w0 : Int32} {w1 : Nat} {w2 : Nat} {w3 : Nat} {h h' : Hp} (hf : j_X_reopen_38_M (cE C, mi) y0 y2 w0 w1 w2 w3 h = some h') : Z l C mi m_X_reopen 7 38 [(0, vr (some y0)), (2, vr y2)] [vi w0, vr (some w1), vr (some w2), vr (some w3)] h none h' := by
  unfold j_X_reopen_38_M at hf
  refine z_aload_n 1 d_X_reopen_38 rfl rfl ?_
  obtain ⟨h20, ec21, hf⟩ := cv_some hf
  refine z_callI (c_V_init ec21) d_X_reopen_39 rfl cw_V_init lk_X_35 im_V_init rfl ⟨by decide, by decide⟩ (Nat.le_of_ble_eq_true rfl) rfl ?_
  obtain ⟨g23, hf⟩ := gd_some hf
  obtain ⟨h24, eh25, hf⟩ := nm_some hf
  refine z_putR d_X_reopen_42 (fl_K (isK_eq g23) fl_X_38_0) (pu_K (isK_eq g23) (fun q hq => by cases (Option.some.inj hq); exact Or.inl rfl)) (fi_K (isK_eq g23) rfl) rfl ?_
  refine z_hp eh25 ?_
  refine z_aload_n 0 d_X_reopen_45 rfl rfl ?_
  obtain ⟨g27, hf⟩ := gd_some hf
  refine z_getR d_X_reopen_46 (fl_K (isK_eq g27) fl_X_30_0) (fi_K (isK_eq g27) rfl) rfl ?_
  obtain ⟨a28, e29, hf⟩ := dr_some hf
  obtain ⟨g30, hf⟩ := gd_some hf
  obtain ⟨h31, ec32, hf⟩ := cv_some hf
  refine z_callVx e29 (c_A_clear ec32) d_X_reopen_49 cw_A_clear lk_X_260 im_A_clear se_A_clear (kc_K (isK_eq g30) kc_9) ⟨by decide, by decide⟩ (Nat.le_of_ble_eq_true rfl) rfl ?_
  refine z_aload_n 0 d_X_reopen_52 rfl rfl ?_
  obtain ⟨g34, hf⟩ := gd_some hf
  refine z_getR d_X_reopen_53 (fl_K (isK_eq g34) fl_X_30_0) (fi_K (isK_eq g34) rfl) rfl ?_
  refine z_aload_n 0 d_X_reopen_56 rfl rfl ?_
  refine z_getR d_X_reopen_57 (fl_K (isK_eq g34) fl_X_38_0) (fi_K (isK_eq g34) rfl) rfl ?_
  obtain ⟨a35, e36, hf⟩ := dr_some hf
  obtain ⟨g37, hf⟩ := gd_some hf
  obtain ⟨v40, h38, ec39, hf⟩ := cl_some hf
  refine z_callVx e36 (c_A_add1 ec39) d_X_reopen_60 cw_A_add1 lk_X_52 im_A_add1 se_A_add1 (kc_K (isK_eq g37) kc_9) ⟨by decide, by decide⟩ (Nat.le_of_ble_eq_true rfl) rfl ?_
  refine z_pop d_X_reopen_63 rfl ?_
  refine z_aload_n 0 d_X_reopen_64 rfl rfl ?_
  obtain ⟨g42, hf⟩ := gd_some hf
  refine z_getR d_X_reopen_65 (fl_K (isK_eq g42) fl_X_10_0) (fi_K (isK_eq g42) rfl) rfl ?_
  refine z_aload_n 1 d_X_reopen_68 rfl rfl ?_
  obtain ⟨a43, e44, hf⟩ := dr_some hf
  obtain ⟨g45, hf⟩ := gd_some hf
  obtain ⟨h46, ec47, hf⟩ := cv_some hf
  refine z_callVx e44 (c_P_load ec47) d_X_reopen_69 cw_P_load lk_X_146 im_P_load se_P_load (kc_K (isK_eq g45) kc_5) ⟨by decide, by decide⟩ (Nat.le_of_ble_eq_true rfl) rfl ?_
  refine z_aload_n 0 d_X_reopen_72 rfl rfl ?_
  obtain ⟨g49, hf⟩ := gd_some hf
  obtain ⟨h50, ec51, hf⟩ := cv_some hf
  refine z_callVx rfl (c_X_markLivePages ec51) d_X_reopen_73 cw_X_markLivePages lk_X_247 im_X_markLivePages se_X_markLivePages (kc_K (isK_eq g49) kc_0) ⟨by decide, by decide⟩ (Nat.le_of_ble_eq_true rfl) rfl ?_
  refine z_aload_n 0 d_X_reopen_76 rfl rfl ?_
  obtain ⟨g53, hf⟩ := gd_some hf
  obtain ⟨h54, ec55, hf⟩ := cv_some hf
  refine z_callVx rfl (c_X_freeDeadChunks ec55) d_X_reopen_77 cw_X_freeDeadChunks lk_X_165 im_X_freeDeadChunks se_X_freeDeadChunks (kc_K (isK_eq g53) kc_0) ⟨by decide, by decide⟩ (Nat.le_of_ble_eq_true rfl) rfl ?_
  refine z_aload_n 0 d_X_reopen_80 rfl rfl ?_
  refine z_aload_n 0 d_X_reopen_81 rfl rfl ?_
  obtain ⟨g57, hf⟩ := gd_some hf
  refine z_getR d_X_reopen_82 (fl_K (isK_eq g57) fl_X_19_0) (fi_K (isK_eq g57) rfl) rfl ?_
  obtain ⟨a58, e59, hf⟩ := dr_some hf
  obtain ⟨g60, hf⟩ := gd_some hf
  obtain ⟨v63, h61, ec62, hf⟩ := cl_some hf
  refine z_callVx e59 (c_F_greatestId ec62) d_X_reopen_85 cw_F_greatestId lk_X_263 im_F_greatestId se_F_greatestId (kc_K (isK_eq g60) kc_1) ⟨by decide, by decide⟩ (Nat.le_of_ble_eq_true rfl) rfl ?_
  refine z_iconst (v := (1 : Int32)) d_X_reopen_88 (by decide) ?_
  refine z_iadd d_X_reopen_89 ?_
  obtain ⟨g65, hf⟩ := gd_some hf
  obtain ⟨h66, eh67, hf⟩ := nm_some hf
  refine z_putI d_X_reopen_90 (fl_K (isK_eq g65) fl_X_46_0) (pu_K (isK_eq g65) (fun q hq => by cases (Option.some.inj hq); exact Or.inl rfl)) (fi_K (isK_eq g65) rfl) rfl ?_
  refine z_hp eh67 ?_
  cases (Option.some.inj hf)
  exact z_ret d_X_reopen_93 rfl
set_option maxRecDepth 100000 in
set_option maxHeartbeats 4000000 in
theorem kj_X_reopen_38_M {C : Ct} {mi : Nat} {y0 : Nat} {y2 : Option Nat} {w0 : Int32} {w1 : Nat} {w2 : Nat} {w3 : Nat} {h h' : Hp} (hf : j_X_reopen_38_M (cE C, mi) y0 y2 w0 w1 w2 w3 h = some h') : Keep W_X_reopen h h' := by
  unfold j_X_reopen_38_M at hf
  obtain ⟨h20, ec21, hf⟩ := cv_some hf
  have K22 := (Keep.refl W_X_reopen _).trans ((fr_V_init (C := C) (mi := mi) ec21).mono (by decide) (by decide))
  obtain ⟨g23, hf⟩ := gd_some hf
  obtain ⟨h24, eh25, hf⟩ := nm_some hf
  have K26 := K22.trans (kw_R eh25 (isK_eq g23) (Or.inl (by decide)))
  obtain ⟨g27, hf⟩ := gd_some hf
  obtain ⟨a28, e29, hf⟩ := dr_some hf
  obtain ⟨g30, hf⟩ := gd_some hf
  obtain ⟨h31, ec32, hf⟩ := cv_some hf
  have K33 := K26.trans ((fr_A_clear (C := C) (mi := mi) ec32).mono (by decide) (by decide))
  obtain ⟨g34, hf⟩ := gd_some hf
  obtain ⟨a35, e36, hf⟩ := dr_some hf
  obtain ⟨g37, hf⟩ := gd_some hf
  obtain ⟨v40, h38, ec39, hf⟩ := cl_some hf
  have K41 := K33.trans ((fr_A_add1 (C := C) (mi := mi) ec39).mono (by decide) (by decide))
  obtain ⟨g42, hf⟩ := gd_some hf
  obtain ⟨a43, e44, hf⟩ := dr_some hf
  obtain ⟨g45, hf⟩ := gd_some hf
  obtain ⟨h46, ec47, hf⟩ := cv_some hf
  have K48 := K41.trans ((fr_P_load (C := C) (mi := mi) ec47).mono (by decide) (by decide))
  obtain ⟨g49, hf⟩ := gd_some hf
  obtain ⟨h50, ec51, hf⟩ := cv_some hf
  have K52 := K48.trans ((fr_X_markLivePages (C := C) (mi := mi) ec51).mono (by decide) (by decide))
  obtain ⟨g53, hf⟩ := gd_some hf
  obtain ⟨h54, ec55, hf⟩ := cv_some hf
  have K56 := K52.trans ((fr_X_freeDeadChunks (C := C) (mi := mi) ec55).mono (by decide) (by decide))
  obtain ⟨g57, hf⟩ := gd_some hf
  obtain ⟨a58, e59, hf⟩ := dr_some hf
  obtain ⟨g60, hf⟩ := gd_some hf
  obtain ⟨v63, h61, ec62, hf⟩ := cl_some hf
  have K64 := K56.trans ((fr_F_greatestId (C := C) (mi := mi) ec62).mono (by decide) (by decide))
  obtain ⟨g65, hf⟩ := gd_some hf
  obtain ⟨h66, eh67, hf⟩ := nm_some hf
  have K68 := K64.trans (kw_I eh67 (isK_eq g65) (Or.inl (by decide)))
  cases (Option.some.inj hf)
  exact K68
def j_X_reopen_20_M (E : Nat × Nat) (y0 : Nat) (w0 : Option Nat) (h : Hp) : Option Hp :=
  nm (nw h 7 0 3) fun h13 => if w0 = none then (j_X_reopen_38_M E y0 w0 (0 : Int32) (hpN h) (hpN h) y0 h13) else (dr w0 fun a17 => gd (isK h13 a17 4) (j_X_reopen_38_M E y0 w0 (hpI h13 a17 3) (hpN h) (hpN h) y0 h13))
set_option maxRecDepth 100000 in
set_option maxHeartbeats 4000000 in
theorem zj_X_reopen_20_M {l : Launch} {C : Ct} {mi : Nat} {y0 : Nat} {w0 : Option Nat} {h h' : Hp} (hf : j_X_reopen_20_M (cE C, mi) y0 w0 h = some h') : Z l C mi m_X_reopen 7 20 [(0, vr (some y0))] [vr w0] h none h' := by
  unfold j_X_reopen_20_M at hf
  refine z_astore_n (ls2 := [(2, vr w0), (0, vr (some y0))]) d_X_reopen_20 rfl (by decide) rfl ?_
  refine z_aload_n 1 d_X_reopen_21 rfl rfl ?_
  obtain ⟨h13, eh14, hf⟩ := nm_some hf
  refine z_new (κ := 7) d_X_reopen_22 rfl (by decide +kernel) ?_
  refine z_hp eh14 ?_
  refine z_dup d_X_reopen_25 rfl ?_
  refine z_aload_n 0 d_X_reopen_26 rfl rfl ?_
  refine z_ifnonnull (tgt := 34) d_X_reopen_27 (by decide) (fun c16 => ?_) (fun c16 => ?_)
  · rw [if_neg c16] at hf
    refine z_aload_n 0 d_X_reopen_34 rfl rfl ?_
    obtain ⟨a17, e18, hf⟩ := dr_some hf
    obtain ⟨g19, hf⟩ := gd_some hf
    refine z_getI d_X_reopen_35 (fl_K (isK_eq g19) fl_X_203_4) (fi_K (isK_eq g19) rfl) e18 ?_
    refine z_ls [1, 0] rfl ?_
    exact zj_X_reopen_38_M hf
  · rw [if_pos c16] at hf
    refine z_iconst (v := (0 : Int32)) d_X_reopen_30 (by decide) ?_
    refine z_goto (tgt := 38) d_X_reopen_31 (by decide) ?_
    refine z_ls [1, 0] rfl ?_
    exact zj_X_reopen_38_M hf
set_option maxRecDepth 100000 in
set_option maxHeartbeats 4000000 in
theorem kj_X_reopen_20_M {C : Ct} {mi : Nat} {y0 : Nat} {w0 : Option Nat} {h h' : Hp} (hf : j_X_reopen_20_M (cE C, mi) y0 w0 h = some h') : Keep W_X_reopen h h' := by
  unfold j_X_reopen_20_M at hf
  obtain ⟨h13, eh14, hf⟩ := nm_some hf
  have K15 := (Keep.refl W_X_reopen _).trans (kw_N eh14)
  rcases (Classical.em (w0 = none)).symm with c16 | c16
  · rw [if_neg c16] at hf
    obtain ⟨a17, e18, hf⟩ := dr_some hf
    obtain ⟨g19, hf⟩ := gd_some hf
    exact K15.trans (kj_X_reopen_38_M (C := C) (mi := mi) hf)
  · rw [if_pos c16] at hf
    exact K15.trans (kj_X_reopen_38_M (C := C) (mi := mi) hf)
def f_X_reopen (E : Nat × Nat) (a0 : Nat) (h : Hp) : Option Hp :=
  gd (isK h a0 0) (dr (hpR h a0 1) fun a2 => gd (isK h a2 1) (cl (f_F_newestReadable a2 h) fun v7 h5 => if v7 = none then (j_X_reopen_20_M E a0 none h5) else (dr v7 fun a10 => gd (isK h5 a10 2) (j_X_reopen_20_M E a0 (hpR h5 a10 4) h5))))
set_option maxRecDepth 100000 in
set_option maxHeartbeats 4000000 in
theorem zf_X_reopen {l : Launch} {C : Ct} {mi : Nat} {a0 : Nat} {h h' : Hp} (hf : f_X_reopen (cE C, mi) a0 h = some h') : Z l C mi m_X_reopen 7 0 [(0, vr (some a0))] [] h none h' := by
  unfold f_X_reopen at hf
  refine z_aload_n 0 d_X_reopen_0 rfl rfl ?_
  obtain ⟨g1, hf⟩ := gd_some hf
  refine z_getR d_X_reopen_1 (fl_K (isK_eq g1) fl_X_19_0) (fi_K (isK_eq g1) rfl) rfl ?_
  obtain ⟨a2, e3, hf⟩ := dr_some hf
  obtain ⟨g4, hf⟩ := gd_some hf
  obtain ⟨v7, h5, ec6, hf⟩ := cl_some hf
  refine z_callVx e3 (c_F_newestReadable ec6) d_X_reopen_4 cw_F_newestReadable lk_X_256 im_F_newestReadable se_F_newestReadable (kc_K (isK_eq g4) kc_1) ⟨by decide, by decide⟩ (Nat.le_of_ble_eq_true rfl) rfl ?_
  refine z_astore_n (ls2 := [(1, vr v7), (0, vr (some a0))]) d_X_reopen_7 rfl (by decide) rfl ?_
  refine z_aload_n 0 d_X_reopen_8 rfl rfl ?_
  refine z_ifnonnull (tgt := 16) d_X_reopen_9 (by decide) (fun c9 => ?_) (fun c9 => ?_)
  · rw [if_neg c9] at hf
    refine z_aload_n 0 d_X_reopen_16 rfl rfl ?_
    obtain ⟨a10, e11, hf⟩ := dr_some hf
    obtain ⟨g12, hf⟩ := gd_some hf
    refine z_getR d_X_reopen_17 (fl_K (isK_eq g12) fl_X_130_2) (fi_K (isK_eq g12) rfl) e11 ?_
    refine z_ls [1] rfl ?_
    exact zj_X_reopen_20_M hf
  · rw [if_pos c9] at hf
    refine z_aconst_null d_X_reopen_12 ?_
    refine z_goto (tgt := 20) d_X_reopen_13 (by decide) ?_
    refine z_ls [1] rfl ?_
    exact zj_X_reopen_20_M hf
set_option maxRecDepth 100000 in
set_option maxHeartbeats 4000000 in
theorem fr_X_reopen {C : Ct} {mi : Nat} {a0 : Nat} {h h' : Hp} (hf : f_X_reopen (cE C, mi) a0 h = some h') : Keep W_X_reopen h h' := by
  unfold f_X_reopen at hf
  obtain ⟨g1, hf⟩ := gd_some hf
  obtain ⟨a2, e3, hf⟩ := dr_some hf
  obtain ⟨g4, hf⟩ := gd_some hf
  obtain ⟨v7, h5, ec6, hf⟩ := cl_some hf
  have K8 := (Keep.refl W_X_reopen _).trans ((fr_F_newestReadable (C := C) (mi := mi) ec6).mono (by decide) (by decide))
  rcases (Classical.em (v7 = none)).symm with c9 | c9
  · rw [if_neg c9] at hf
    obtain ⟨a10, e11, hf⟩ := dr_some hf
    obtain ⟨g12, hf⟩ := gd_some hf
    exact K8.trans (kj_X_reopen_20_M (C := C) (mi := mi) hf)
  · rw [if_pos c9] at hf
    exact K8.trans (kj_X_reopen_20_M (C := C) (mi := mi) hf)
theorem c_X_reopen {l : Launch} {C : Ct} {mi : Nat} {a0 : Nat} {h h' : Hp} (hf : f_X_reopen (cE C, mi) a0 h = some h') : Mt l C mi m_X_reopen 7 [vr (some a0)] h none h' := mt_V rfl rfl (by decide) (Nat.le_of_ble_eq_true rfl) (zf_X_reopen hf)
-- VersionMaps.crash(II)I
def m_X_crash : Mi := (⟨"VersionMaps", "crash", "(II)I"⟩, prog_1_method_14_code, 3, (Option.some Jvm.ClassFile.FieldType.int), .ireturn)
theorem cw_X_crash : cw_ok m_X_crash 2 := ⟨by decide +kernel, by decide +kernel, by decide +kernel, by decide +kernel⟩
theorem im_X_crash : Cond.instanceMethod m_X_crash.1 ∈ lw_w := by decide +kernel
theorem se_X_crash : Cond.selects "VersionMaps" m_X_crash.1 m_X_crash.1 ∈ lw_w := by decide +kernel
theorem d_X_crash_0 : decode prog_1_method_14_code 0 = .ok (.iload_n 1, 1) := by decide +kernel
theorem d_X_crash_1 : decode prog_1_method_14_code 1 = .ok (.ifCond .lt 24, 3) := by decide +kernel
theorem d_X_crash_4 : decode prog_1_method_14_code 4 = .ok (.iload_n 1, 1) := by decide +kernel
theorem d_X_crash_5 : decode prog_1_method_14_code 5 = .ok (.aload_n 0, 1) := by decide +kernel
theorem d_X_crash_6 : decode prog_1_method_14_code 6 = .ok (.getfield 19, 3) := by decide +kernel
theorem d_X_crash_9 : decode prog_1_method_14_code 9 = .ok (.getfield 159, 3) := by decide +kernel
theorem d_X_crash_12 : decode prog_1_method_14_code 12 = .ok (.if_icmp .gt 13, 3) := by decide +kernel
theorem d_X_crash_15 : decode prog_1_method_14_code 15 = .ok (.iload_n 2, 1) := by decide +kernel
theorem d_X_crash_16 : decode prog_1_method_14_code 16 = .ok (.ifCond .lt 9, 3) := by decide +kernel
theorem d_X_crash_19 : decode prog_1_method_14_code 19 = .ok (.iload_n 2, 1) := by decide +kernel
theorem d_X_crash_20 : decode prog_1_method_14_code 20 = .ok (.ldc 176, 2) := by decide +kernel
theorem d_X_crash_22 : decode prog_1_method_14_code 22 = .ok (.if_icmp .le 5, 3) := by decide +kernel
theorem d_X_crash_25 : decode prog_1_method_14_code 25 = .ok (.iconst (-1), 1) := by decide +kernel
theorem d_X_crash_26 : decode prog_1_method_14_code 26 = .ok (.ireturn, 1) := by decide +kernel
theorem d_X_crash_27 : decode prog_1_method_14_code 27 = .ok (.aload_n 0, 1) := by decide +kernel
theorem d_X_crash_28 : decode prog_1_method_14_code 28 = .ok (.getfield 19, 3) := by decide +kernel
theorem d_X_crash_31 : decode prog_1_method_14_code 31 = .ok (.iload_n 1, 1) := by decide +kernel
theorem d_X_crash_32 : decode prog_1_method_14_code 32 = .ok (.iload_n 2, 1) := by decide +kernel
theorem d_X_crash_33 : decode prog_1_method_14_code 33 = .ok (.invokevirtual 177, 3) := by decide +kernel
theorem d_X_crash_36 : decode prog_1_method_14_code 36 = .ok (.aload_n 0, 1) := by decide +kernel
theorem d_X_crash_37 : decode prog_1_method_14_code 37 = .ok (.invokevirtual 180, 3) := by decide +kernel
theorem d_X_crash_40 : decode prog_1_method_14_code 40 = .ok (.aload_n 0, 1) := by decide +kernel
theorem d_X_crash_41 : decode prog_1_method_14_code 41 = .ok (.getfield 38, 3) := by decide +kernel
theorem d_X_crash_44 : decode prog_1_method_14_code 44 = .ok (.getfield 105, 3) := by decide +kernel
theorem d_X_crash_47 : decode prog_1_method_14_code 47 = .ok (.ireturn, 1) := by decide +kernel
def W_X_crash : Wl := ([(0, 4), (0, 6), (0, 7), (1, 5), (3, 2), (4, 2), (5, 2), (5, 3), (6, 2), (7, 0), (7, 1), (7, 2), (9, 0), (9, 1), (9, 2)], [66, 67, 68, 69, 70, 71, 73, 74])
def f_X_crash (E : Nat × Nat) (a0 : Nat) (p1 : Int32) (p2 : Int32) (h : Hp) : Option (Int32 × Hp) :=
  if p1 < 0 then (some ((-1 : Int32), h)) else (gd (isK h a0 0) (dr (hpR h a0 1) fun a3 => gd (isK h a3 1) (if (hpI h a3 5) < p1 then (some ((-1 : Int32), h)) else (if p2 < 0 then (some ((-1 : Int32), h)) else (if p2 ≤ (nI 65535) then (cv (f_F_losePending a3 p1 p2 h) fun h9 => gd (isK h9 a0 0) (cv (f_X_reopen E a0 h9) fun h13 => gd (isK h13 a0 0) (dr (hpR h13 a0 4) fun a17 => gd (isK h13 a17 7) (some ((hpI h13 a17 0), h13))))) else (some ((-1 : Int32), h)))))))
set_option maxRecDepth 100000 in
set_option maxHeartbeats 4000000 in
theorem zf_X_crash {l : Launch} {C : Ct} {mi : Nat} {a0 : Nat} {p1 : Int32} {p2 : Int32} {h h' : Hp} {v : Int32} (hf : f_X_crash (cE C, mi) a0 p1 p2 h = some (v, h')) : Z l C mi m_X_crash 8 0 [(0, vr (some a0)), (1, vi p1), (2, vi p2)] [] h (some (vi v)) h' := by
  unfold f_X_crash at hf
  refine z_iload_n 1 d_X_crash_0 rfl rfl ?_
  refine z_if_lt (tgt := 25) d_X_crash_1 (by decide) (fun c1 => ?_) (fun c1 => ?_)
  · rw [if_pos c1] at hf
    refine z_iconst (v := (-1 : Int32)) d_X_crash_25 (by decide) ?_
    obtain ⟨rfl, rfl⟩ := Prod.mk.inj (Option.some.inj hf)
    exact z_ret d_X_crash_26 rfl
  · rw [if_neg c1] at hf
    refine z_iload_n 1 d_X_crash_4 rfl rfl ?_
    refine z_aload_n 0 d_X_crash_5 rfl rfl ?_
    obtain ⟨g2, hf⟩ := gd_some hf
    refine z_getR d_X_crash_6 (fl_K (isK_eq g2) fl_X_19_0) (fi_K (isK_eq g2) rfl) rfl ?_
    obtain ⟨a3, e4, hf⟩ := dr_some hf
    obtain ⟨g5, hf⟩ := gd_some hf
    refine z_getI d_X_crash_9 (fl_K (isK_eq g5) fl_X_159_1) (fi_K (isK_eq g5) rfl) e4 ?_
    refine z_icmp_gt (tgt := 25) d_X_crash_12 (by decide) (fun c6 => ?_) (fun c6 => ?_)
    · rw [if_pos c6] at hf
      refine z_iconst (v := (-1 : Int32)) d_X_crash_25 (by decide) ?_
      obtain ⟨rfl, rfl⟩ := Prod.mk.inj (Option.some.inj hf)
      exact z_ret d_X_crash_26 rfl
    · rw [if_neg c6] at hf
      refine z_iload_n 2 d_X_crash_15 rfl rfl ?_
      refine z_if_lt (tgt := 25) d_X_crash_16 (by decide) (fun c7 => ?_) (fun c7 => ?_)
      · rw [if_pos c7] at hf
        refine z_iconst (v := (-1 : Int32)) d_X_crash_25 (by decide) ?_
        obtain ⟨rfl, rfl⟩ := Prod.mk.inj (Option.some.inj hf)
        exact z_ret d_X_crash_26 rfl
      · rw [if_neg c7] at hf
        refine z_iload_n 2 d_X_crash_19 rfl rfl ?_
        refine z_ldc (v := (nI 65535)) d_X_crash_20 (by decide +kernel) ?_
        refine z_icmp_le (tgt := 27) d_X_crash_22 (by decide) (fun c8 => ?_) (fun c8 => ?_)
        · rw [if_pos c8] at hf
          refine z_aload_n 0 d_X_crash_27 rfl rfl ?_
          refine z_getR d_X_crash_28 (fl_K (isK_eq g2) fl_X_19_0) (fi_K (isK_eq g2) rfl) rfl ?_
          refine z_iload_n 1 d_X_crash_31 rfl rfl ?_
          refine z_iload_n 2 d_X_crash_32 rfl rfl ?_
          obtain ⟨h9, ec10, hf⟩ := cv_some hf
          refine z_callVx e4 (c_F_losePending ec10) d_X_crash_33 cw_F_losePending lk_X_177 im_F_losePending se_F_losePending (kc_K (isK_eq g5) kc_1) ⟨by decide, by decide⟩ (Nat.le_of_ble_eq_true rfl) rfl ?_
          refine z_aload_n 0 d_X_crash_36 rfl rfl ?_
          obtain ⟨g12, hf⟩ := gd_some hf
          obtain ⟨h13, ec14, hf⟩ := cv_some hf
          refine z_callVx rfl (c_X_reopen ec14) d_X_crash_37 cw_X_reopen lk_X_180 im_X_reopen se_X_reopen (kc_K (isK_eq g12) kc_0) ⟨by decide, by decide⟩ (Nat.le_of_ble_eq_true rfl) rfl ?_
          refine z_aload_n 0 d_X_crash_40 rfl rfl ?_
          obtain ⟨g16, hf⟩ := gd_some hf
          refine z_getR d_X_crash_41 (fl_K (isK_eq g16) fl_X_38_0) (fi_K (isK_eq g16) rfl) rfl ?_
          obtain ⟨a17, e18, hf⟩ := dr_some hf
          obtain ⟨g19, hf⟩ := gd_some hf
          refine z_getI d_X_crash_44 (fl_K (isK_eq g19) fl_X_105_7) (fi_K (isK_eq g19) rfl) e18 ?_
          obtain ⟨rfl, rfl⟩ := Prod.mk.inj (Option.some.inj hf)
          exact z_ret d_X_crash_47 rfl
        · rw [if_neg c8] at hf
          refine z_iconst (v := (-1 : Int32)) d_X_crash_25 (by decide) ?_
          obtain ⟨rfl, rfl⟩ := Prod.mk.inj (Option.some.inj hf)
          exact z_ret d_X_crash_26 rfl
set_option maxRecDepth 100000 in
set_option maxHeartbeats 4000000 in
theorem fr_X_crash {C : Ct} {mi : Nat} {a0 : Nat} {p1 : Int32} {p2 : Int32} {h h' : Hp} {v : Int32} (hf : f_X_crash (cE C, mi) a0 p1 p2 h = some (v, h')) : Keep W_X_crash h h' := by
  unfold f_X_crash at hf
  rcases Classical.em (p1 < 0) with c1 | c1
  · rw [if_pos c1] at hf
    obtain ⟨rfl, rfl⟩ := Prod.mk.inj (Option.some.inj hf)
    exact (Keep.refl W_X_crash _)
  · rw [if_neg c1] at hf
    obtain ⟨g2, hf⟩ := gd_some hf
    obtain ⟨a3, e4, hf⟩ := dr_some hf
    obtain ⟨g5, hf⟩ := gd_some hf
    rcases Classical.em ((hpI h a3 5) < p1) with c6 | c6
    · rw [if_pos c6] at hf
      obtain ⟨rfl, rfl⟩ := Prod.mk.inj (Option.some.inj hf)
      exact (Keep.refl W_X_crash _)
    · rw [if_neg c6] at hf
      rcases Classical.em (p2 < 0) with c7 | c7
      · rw [if_pos c7] at hf
        obtain ⟨rfl, rfl⟩ := Prod.mk.inj (Option.some.inj hf)
        exact (Keep.refl W_X_crash _)
      · rw [if_neg c7] at hf
        rcases Classical.em (p2 ≤ (nI 65535)) with c8 | c8
        · rw [if_pos c8] at hf
          obtain ⟨h9, ec10, hf⟩ := cv_some hf
          have K11 := (Keep.refl W_X_crash _).trans ((fr_F_losePending (C := C) (mi := mi) ec10).mono (by decide) (by decide))
          obtain ⟨g12, hf⟩ := gd_some hf
          obtain ⟨h13, ec14, hf⟩ := cv_some hf
          have K15 := K11.trans ((fr_X_reopen (C := C) (mi := mi) ec14).mono (by decide) (by decide))
          obtain ⟨g16, hf⟩ := gd_some hf
          obtain ⟨a17, e18, hf⟩ := dr_some hf
          obtain ⟨g19, hf⟩ := gd_some hf
          obtain ⟨rfl, rfl⟩ := Prod.mk.inj (Option.some.inj hf)
          exact K15
        · rw [if_neg c8] at hf
          obtain ⟨rfl, rfl⟩ := Prod.mk.inj (Option.some.inj hf)
          exact (Keep.refl W_X_crash _)
theorem c_X_crash {l : Launch} {C : Ct} {mi : Nat} {a0 : Nat} {p1 : Int32} {p2 : Int32} {h h' : Hp} {v : Int32} (hf : f_X_crash (cE C, mi) a0 p1 p2 h = some (v, h')) : Mt l C mi m_X_crash 8 [vr (some a0), vi p1, vi p2] h (some (vi v)) h' := mt_I (ty := .int) rfl rfl rfl (by decide) (Nat.le_of_ble_eq_true rfl) (zf_X_crash hf)
-- VersionMaps.chunk(II)I
def m_X_chunk : Mi := (⟨"VersionMaps", "chunk", "(II)I"⟩, prog_1_method_15_code, 4, (Option.some Jvm.ClassFile.FieldType.int), .ireturn)
theorem cw_X_chunk : cw_ok m_X_chunk 2 := ⟨by decide +kernel, by decide +kernel, by decide +kernel, by decide +kernel⟩
theorem im_X_chunk : Cond.instanceMethod m_X_chunk.1 ∈ lw_w := by decide +kernel
theorem se_X_chunk : Cond.selects "VersionMaps" m_X_chunk.1 m_X_chunk.1 ∈ lw_w := by decide +kernel
theorem d_X_chunk_0 : decode prog_1_method_15_code 0 = .ok (.iload_n 1, 1) := by decide +kernel
theorem d_X_chunk_1 : decode prog_1_method_15_code 1 = .ok (.ifCond .lt 14, 3) := by decide +kernel
theorem d_X_chunk_4 : decode prog_1_method_15_code 4 = .ok (.iload_n 1, 1) := by decide +kernel
theorem d_X_chunk_5 : decode prog_1_method_15_code 5 = .ok (.aload_n 0, 1) := by decide +kernel
theorem d_X_chunk_6 : decode prog_1_method_15_code 6 = .ok (.getfield 26, 3) := by decide +kernel
theorem d_X_chunk_9 : decode prog_1_method_15_code 9 = .ok (.invokevirtual 183, 3) := by decide +kernel
theorem d_X_chunk_12 : decode prog_1_method_15_code 12 = .ok (.if_icmp .lt 5, 3) := by decide +kernel
theorem d_X_chunk_15 : decode prog_1_method_15_code 15 = .ok (.iconst (-1), 1) := by decide +kernel
theorem d_X_chunk_16 : decode prog_1_method_15_code 16 = .ok (.ireturn, 1) := by decide +kernel
theorem d_X_chunk_17 : decode prog_1_method_15_code 17 = .ok (.aload_n 0, 1) := by decide +kernel
theorem d_X_chunk_18 : decode prog_1_method_15_code 18 = .ok (.getfield 26, 3) := by decide +kernel
theorem d_X_chunk_21 : decode prog_1_method_15_code 21 = .ok (.iload_n 1, 1) := by decide +kernel
theorem d_X_chunk_22 : decode prog_1_method_15_code 22 = .ok (.invokevirtual 186, 3) := by decide +kernel
theorem d_X_chunk_25 : decode prog_1_method_15_code 25 = .ok (.checkcast 119, 3) := by decide +kernel
theorem d_X_chunk_28 : decode prog_1_method_15_code 28 = .ok (.astore_n 3, 1) := by decide +kernel
theorem d_X_chunk_29 : decode prog_1_method_15_code 29 = .ok (.iload_n 2, 1) := by decide +kernel
theorem d_X_chunk_30 : decode prog_1_method_15_code 30 = .ok (.tableswitch 76 0 5 #[38, 43, 48, 53, 59, 68], 38) := by decide +kernel
theorem d_X_chunk_68 : decode prog_1_method_15_code 68 = .ok (.aload_n 3, 1) := by decide +kernel
theorem d_X_chunk_69 : decode prog_1_method_15_code 69 = .ok (.getfield 153, 3) := by decide +kernel
theorem d_X_chunk_72 : decode prog_1_method_15_code 72 = .ok (.ireturn, 1) := by decide +kernel
theorem d_X_chunk_73 : decode prog_1_method_15_code 73 = .ok (.aload_n 3, 1) := by decide +kernel
theorem d_X_chunk_74 : decode prog_1_method_15_code 74 = .ok (.getfield 190, 3) := by decide +kernel
theorem d_X_chunk_77 : decode prog_1_method_15_code 77 = .ok (.ireturn, 1) := by decide +kernel
theorem d_X_chunk_78 : decode prog_1_method_15_code 78 = .ok (.aload_n 3, 1) := by decide +kernel
theorem d_X_chunk_79 : decode prog_1_method_15_code 79 = .ok (.invokevirtual 193, 3) := by decide +kernel
theorem d_X_chunk_82 : decode prog_1_method_15_code 82 = .ok (.ireturn, 1) := by decide +kernel
theorem d_X_chunk_83 : decode prog_1_method_15_code 83 = .ok (.aload_n 3, 1) := by decide +kernel
theorem d_X_chunk_84 : decode prog_1_method_15_code 84 = .ok (.getfield 196, 3) := by decide +kernel
theorem d_X_chunk_87 : decode prog_1_method_15_code 87 = .ok (.arraylength, 1) := by decide +kernel
theorem d_X_chunk_88 : decode prog_1_method_15_code 88 = .ok (.ireturn, 1) := by decide +kernel
theorem d_X_chunk_89 : decode prog_1_method_15_code 89 = .ok (.aload_n 3, 1) := by decide +kernel
theorem d_X_chunk_90 : decode prog_1_method_15_code 90 = .ok (.aload_n 0, 1) := by decide +kernel
theorem d_X_chunk_91 : decode prog_1_method_15_code 91 = .ok (.getfield 49, 3) := by decide +kernel
theorem d_X_chunk_94 : decode prog_1_method_15_code 94 = .ok (.invokevirtual 200, 3) := by decide +kernel
theorem d_X_chunk_97 : decode prog_1_method_15_code 97 = .ok (.ireturn, 1) := by decide +kernel
theorem d_X_chunk_98 : decode prog_1_method_15_code 98 = .ok (.aload_n 3, 1) := by decide +kernel
theorem d_X_chunk_99 : decode prog_1_method_15_code 99 = .ok (.getfield 130, 3) := by decide +kernel
theorem d_X_chunk_102 : decode prog_1_method_15_code 102 = .ok (.getfield 203, 3) := by decide +kernel
theorem d_X_chunk_105 : decode prog_1_method_15_code 105 = .ok (.ireturn, 1) := by decide +kernel
theorem d_X_chunk_106 : decode prog_1_method_15_code 106 = .ok (.iconst (-1), 1) := by decide +kernel
theorem d_X_chunk_107 : decode prog_1_method_15_code 107 = .ok (.ireturn, 1) := by decide +kernel
def W_X_chunk : Wl := ([], [])
def f_X_chunk (a0 : Nat) (p1 : Int32) (p2 : Int32) (h : Hp) : Option (Int32 × Hp) :=
  if p1 < 0 then (some ((-1 : Int32), h)) else (gd (isK h a0 0) (dr (hpR h a0 2) fun a3 => gd (isK h a3 9) (cl (f_A_size a3 h) fun v8 h6 => if p1 < v8 then (gd (isK h6 a0 0) (dr (hpR h6 a0 2) fun a12 => gd (isK h6 a12 9) (cl (f_A_get a12 p1 h6) fun v17 h15 => gd (caB h15 v17 2) (if p2 = (0 : Int32) then (dr v17 fun a21 => gd (isK h15 a21 2) (some ((hpI h15 a21 0), h15))) else if p2 = (1 : Int32) then (dr v17 fun a25 => gd (isK h15 a25 2) (some ((hpI h15 a25 1), h15))) else if p2 = (nI 2) then (dr v17 fun a29 => gd (isK h15 a29 2) (cl (f_K_blockCount a29 h15) fun v34 h32 => some (v34, h32))) else if p2 = (nI 3) then (dr v17 fun a37 => gd (isK h15 a37 2) (dr (hpR h15 a37 2) fun a40 => gd (isK h15 a40 103) (some ((Int32.ofNat (hpL h15 a40)), h15)))) else if p2 = (nI 4) then (gd (isK h15 a0 0) (dr v17 fun a45 => gd (isK h15 a45 2) (cl (f_K_livePages a45 (hpI h15 a0 7) h15) fun v50 h48 => some (v50, h48)))) else if p2 = (nI 5) then (dr v17 fun a53 => gd (isK h15 a53 2) (dr (hpR h15 a53 4) fun a56 => gd (isK h15 a56 4) (some ((hpI h15 a56 3), h15)))) else (some ((-1 : Int32), h15)))))) else (some ((-1 : Int32), h6)))))
set_option maxRecDepth 100000 in
set_option maxHeartbeats 4000000 in
theorem zf_X_chunk {l : Launch} {C : Ct} {mi : Nat} {a0 : Nat} {p1 : Int32} {p2 : Int32} {h h' : Hp} {v : Int32} (hf : f_X_chunk a0 p1 p2 h = some (v, h')) : Z l C mi m_X_chunk 3 0 [(0, vr (some a0)), (1, vi p1), (2, vi p2)] [] h (some (vi v)) h' := by
  unfold f_X_chunk at hf
  refine z_iload_n 1 d_X_chunk_0 rfl rfl ?_
  refine z_if_lt (tgt := 15) d_X_chunk_1 (by decide) (fun c1 => ?_) (fun c1 => ?_)
  · rw [if_pos c1] at hf
    refine z_iconst (v := (-1 : Int32)) d_X_chunk_15 (by decide) ?_
    obtain ⟨rfl, rfl⟩ := Prod.mk.inj (Option.some.inj hf)
    exact z_ret d_X_chunk_16 rfl
  · rw [if_neg c1] at hf
    refine z_iload_n 1 d_X_chunk_4 rfl rfl ?_
    refine z_aload_n 0 d_X_chunk_5 rfl rfl ?_
    obtain ⟨g2, hf⟩ := gd_some hf
    refine z_getR d_X_chunk_6 (fl_K (isK_eq g2) fl_X_26_0) (fi_K (isK_eq g2) rfl) rfl ?_
    obtain ⟨a3, e4, hf⟩ := dr_some hf
    obtain ⟨g5, hf⟩ := gd_some hf
    obtain ⟨v8, h6, ec7, hf⟩ := cl_some hf
    refine z_callVx e4 (c_A_size ec7) d_X_chunk_9 cw_A_size lk_X_183 im_A_size se_A_size (kc_K (isK_eq g5) kc_9) ⟨by decide, by decide⟩ (Nat.le_of_ble_eq_true rfl) rfl ?_
    refine z_icmp_lt (tgt := 17) d_X_chunk_12 (by decide) (fun c10 => ?_) (fun c10 => ?_)
    · rw [if_pos c10] at hf
      refine z_aload_n 0 d_X_chunk_17 rfl rfl ?_
      obtain ⟨g11, hf⟩ := gd_some hf
      refine z_getR d_X_chunk_18 (fl_K (isK_eq g11) fl_X_26_0) (fi_K (isK_eq g11) rfl) rfl ?_
      refine z_iload_n 1 d_X_chunk_21 rfl rfl ?_
      obtain ⟨a12, e13, hf⟩ := dr_some hf
      obtain ⟨g14, hf⟩ := gd_some hf
      obtain ⟨v17, h15, ec16, hf⟩ := cl_some hf
      refine z_callVx e13 (c_A_get ec16) d_X_chunk_22 cw_A_get lk_X_186 im_A_get se_A_get (kc_K (isK_eq g14) kc_9) ⟨by decide, by decide⟩ (Nat.le_of_ble_eq_true rfl) rfl ?_
      obtain ⟨g19, hf⟩ := gd_some hf
      refine z_cast d_X_chunk_25 (nm := "VersionMaps$Chunk") (by decide +kernel) (caB_ok (κ := 2) g19 rfl (by decide +kernel)) ?_
      refine z_astore_n (ls2 := [(3, vr v17), (0, vr (some a0)), (1, vi p1), (2, vi p2)]) d_X_chunk_28 rfl (by decide) rfl ?_
      refine z_iload_n 3 d_X_chunk_29 rfl rfl ?_
      by_cases c20 : p2 = (0 : Int32)
      · rw [if_pos c20] at hf
        refine z_tabIn (off := 38) (tgt := 68) d_X_chunk_30 (by rw [c20]; decide) (by rw [c20]; decide) (by rw [c20]; rfl) (by decide) ?_
        refine z_aload_n 0 d_X_chunk_68 rfl rfl ?_
        obtain ⟨a21, e22, hf⟩ := dr_some hf
        obtain ⟨g23, hf⟩ := gd_some hf
        refine z_getI d_X_chunk_69 (fl_K (isK_eq g23) fl_X_153_2) (fi_K (isK_eq g23) rfl) e22 ?_
        obtain ⟨rfl, rfl⟩ := Prod.mk.inj (Option.some.inj hf)
        exact z_ret d_X_chunk_72 rfl
      rw [if_neg c20] at hf
      by_cases c24 : p2 = (1 : Int32)
      · rw [if_pos c24] at hf
        refine z_tabIn (off := 43) (tgt := 73) d_X_chunk_30 (by rw [c24]; decide) (by rw [c24]; decide) (by rw [c24]; rfl) (by decide) ?_
        refine z_aload_n 0 d_X_chunk_73 rfl rfl ?_
        obtain ⟨a25, e26, hf⟩ := dr_some hf
        obtain ⟨g27, hf⟩ := gd_some hf
        refine z_getI d_X_chunk_74 (fl_K (isK_eq g27) fl_X_190_2) (fi_K (isK_eq g27) rfl) e26 ?_
        obtain ⟨rfl, rfl⟩ := Prod.mk.inj (Option.some.inj hf)
        exact z_ret d_X_chunk_77 rfl
      rw [if_neg c24] at hf
      by_cases c28 : p2 = (nI 2)
      · rw [if_pos c28] at hf
        refine z_tabIn (off := 48) (tgt := 78) d_X_chunk_30 (by rw [c28]; decide) (by rw [c28]; decide) (by rw [c28]; rfl) (by decide) ?_
        refine z_aload_n 0 d_X_chunk_78 rfl rfl ?_
        obtain ⟨a29, e30, hf⟩ := dr_some hf
        obtain ⟨g31, hf⟩ := gd_some hf
        obtain ⟨v34, h32, ec33, hf⟩ := cl_some hf
        refine z_callVx e30 (c_K_blockCount ec33) d_X_chunk_79 cw_K_blockCount lk_X_193 im_K_blockCount se_K_blockCount (kc_K (isK_eq g31) kc_2) ⟨by decide, by decide⟩ (Nat.le_of_ble_eq_true rfl) rfl ?_
        obtain ⟨rfl, rfl⟩ := Prod.mk.inj (Option.some.inj hf)
        exact z_ret d_X_chunk_82 rfl
      rw [if_neg c28] at hf
      by_cases c36 : p2 = (nI 3)
      · rw [if_pos c36] at hf
        refine z_tabIn (off := 53) (tgt := 83) d_X_chunk_30 (by rw [c36]; decide) (by rw [c36]; decide) (by rw [c36]; rfl) (by decide) ?_
        refine z_aload_n 0 d_X_chunk_83 rfl rfl ?_
        obtain ⟨a37, e38, hf⟩ := dr_some hf
        obtain ⟨g39, hf⟩ := gd_some hf
        refine z_getR d_X_chunk_84 (fl_K (isK_eq g39) fl_X_196_2) (fi_K (isK_eq g39) rfl) e38 ?_
        obtain ⟨a40, e41, hf⟩ := dr_some hf
        obtain ⟨g42, hf⟩ := gd_some hf
        refine z_alen d_X_chunk_87 e41 (by rw [isK_eq g42]; decide) ?_
        obtain ⟨rfl, rfl⟩ := Prod.mk.inj (Option.some.inj hf)
        exact z_ret d_X_chunk_88 rfl
      rw [if_neg c36] at hf
      by_cases c43 : p2 = (nI 4)
      · rw [if_pos c43] at hf
        refine z_tabIn (off := 59) (tgt := 89) d_X_chunk_30 (by rw [c43]; decide) (by rw [c43]; decide) (by rw [c43]; rfl) (by decide) ?_
        refine z_aload_n 0 d_X_chunk_89 rfl rfl ?_
        refine z_aload_n 1 d_X_chunk_90 rfl rfl ?_
        obtain ⟨g44, hf⟩ := gd_some hf
        refine z_getI d_X_chunk_91 (fl_K (isK_eq g44) fl_X_49_0) (fi_K (isK_eq g44) rfl) rfl ?_
        obtain ⟨a45, e46, hf⟩ := dr_some hf
        obtain ⟨g47, hf⟩ := gd_some hf
        obtain ⟨v50, h48, ec49, hf⟩ := cl_some hf
        refine z_callVx e46 (c_K_livePages ec49) d_X_chunk_94 cw_K_livePages lk_X_200 im_K_livePages se_K_livePages (kc_K (isK_eq g47) kc_2) ⟨by decide, by decide⟩ (Nat.le_of_ble_eq_true rfl) rfl ?_
        obtain ⟨rfl, rfl⟩ := Prod.mk.inj (Option.some.inj hf)
        exact z_ret d_X_chunk_97 rfl
      rw [if_neg c43] at hf
      by_cases c52 : p2 = (nI 5)
      · rw [if_pos c52] at hf
        refine z_tabIn (off := 68) (tgt := 98) d_X_chunk_30 (by rw [c52]; decide) (by rw [c52]; decide) (by rw [c52]; rfl) (by decide) ?_
        refine z_aload_n 0 d_X_chunk_98 rfl rfl ?_
        obtain ⟨a53, e54, hf⟩ := dr_some hf
        obtain ⟨g55, hf⟩ := gd_some hf
        refine z_getR d_X_chunk_99 (fl_K (isK_eq g55) fl_X_130_2) (fi_K (isK_eq g55) rfl) e54 ?_
        obtain ⟨a56, e57, hf⟩ := dr_some hf
        obtain ⟨g58, hf⟩ := gd_some hf
        refine z_getI d_X_chunk_102 (fl_K (isK_eq g58) fl_X_203_4) (fi_K (isK_eq g58) rfl) e57 ?_
        obtain ⟨rfl, rfl⟩ := Prod.mk.inj (Option.some.inj hf)
        exact z_ret d_X_chunk_105 rfl
      rw [if_neg c52] at hf
      refine z_tabOut (tgt := 106) d_X_chunk_30 (ts_out 6 (by decide) (fun j hj => ?_)) (by decide) ?_
      · have hj2 : j = 0 ∨ j = 1 ∨ j = 2 ∨ j = 3 ∨ j = 4 ∨ j = 5 := by omega
        rcases hj2 with e | e | e | e | e | e
        · subst e; exact c20
        · subst e; exact c24
        · subst e; exact c28
        · subst e; exact c36
        · subst e; exact c43
        · subst e; exact c52
      refine z_iconst (v := (-1 : Int32)) d_X_chunk_106 (by decide) ?_
      obtain ⟨rfl, rfl⟩ := Prod.mk.inj (Option.some.inj hf)
      exact z_ret d_X_chunk_107 rfl
    · rw [if_neg c10] at hf
      refine z_iconst (v := (-1 : Int32)) d_X_chunk_15 (by decide) ?_
      obtain ⟨rfl, rfl⟩ := Prod.mk.inj (Option.some.inj hf)
      exact z_ret d_X_chunk_16 rfl
set_option maxRecDepth 100000 in
set_option maxHeartbeats 4000000 in
theorem fr_X_chunk {C : Ct} {mi : Nat} {a0 : Nat} {p1 : Int32} {p2 : Int32} {h h' : Hp} {v : Int32} (hf : f_X_chunk a0 p1 p2 h = some (v, h')) : Keep W_X_chunk h h' := by
  unfold f_X_chunk at hf
  rcases Classical.em (p1 < 0) with c1 | c1
  · rw [if_pos c1] at hf
    obtain ⟨rfl, rfl⟩ := Prod.mk.inj (Option.some.inj hf)
    exact (Keep.refl W_X_chunk _)
  · rw [if_neg c1] at hf
    obtain ⟨g2, hf⟩ := gd_some hf
    obtain ⟨a3, e4, hf⟩ := dr_some hf
    obtain ⟨g5, hf⟩ := gd_some hf
    obtain ⟨v8, h6, ec7, hf⟩ := cl_some hf
    have K9 := (Keep.refl W_X_chunk _).trans ((fr_A_size (C := C) (mi := mi) ec7).mono (by decide) (by decide))
    rcases Classical.em (p1 < v8) with c10 | c10
    · rw [if_pos c10] at hf
      obtain ⟨g11, hf⟩ := gd_some hf
      obtain ⟨a12, e13, hf⟩ := dr_some hf
      obtain ⟨g14, hf⟩ := gd_some hf
      obtain ⟨v17, h15, ec16, hf⟩ := cl_some hf
      have K18 := K9.trans ((fr_A_get (C := C) (mi := mi) ec16).mono (by decide) (by decide))
      obtain ⟨g19, hf⟩ := gd_some hf
      by_cases c20 : p2 = (0 : Int32)
      · rw [if_pos c20] at hf
        obtain ⟨a21, e22, hf⟩ := dr_some hf
        obtain ⟨g23, hf⟩ := gd_some hf
        obtain ⟨rfl, rfl⟩ := Prod.mk.inj (Option.some.inj hf)
        exact K18
      rw [if_neg c20] at hf
      by_cases c24 : p2 = (1 : Int32)
      · rw [if_pos c24] at hf
        obtain ⟨a25, e26, hf⟩ := dr_some hf
        obtain ⟨g27, hf⟩ := gd_some hf
        obtain ⟨rfl, rfl⟩ := Prod.mk.inj (Option.some.inj hf)
        exact K18
      rw [if_neg c24] at hf
      by_cases c28 : p2 = (nI 2)
      · rw [if_pos c28] at hf
        obtain ⟨a29, e30, hf⟩ := dr_some hf
        obtain ⟨g31, hf⟩ := gd_some hf
        obtain ⟨v34, h32, ec33, hf⟩ := cl_some hf
        have K35 := K18.trans ((fr_K_blockCount (C := C) (mi := mi) ec33).mono (by decide) (by decide))
        obtain ⟨rfl, rfl⟩ := Prod.mk.inj (Option.some.inj hf)
        exact K35
      rw [if_neg c28] at hf
      by_cases c36 : p2 = (nI 3)
      · rw [if_pos c36] at hf
        obtain ⟨a37, e38, hf⟩ := dr_some hf
        obtain ⟨g39, hf⟩ := gd_some hf
        obtain ⟨a40, e41, hf⟩ := dr_some hf
        obtain ⟨g42, hf⟩ := gd_some hf
        obtain ⟨rfl, rfl⟩ := Prod.mk.inj (Option.some.inj hf)
        exact K18
      rw [if_neg c36] at hf
      by_cases c43 : p2 = (nI 4)
      · rw [if_pos c43] at hf
        obtain ⟨g44, hf⟩ := gd_some hf
        obtain ⟨a45, e46, hf⟩ := dr_some hf
        obtain ⟨g47, hf⟩ := gd_some hf
        obtain ⟨v50, h48, ec49, hf⟩ := cl_some hf
        have K51 := K18.trans ((fr_K_livePages (C := C) (mi := mi) ec49).mono (by decide) (by decide))
        obtain ⟨rfl, rfl⟩ := Prod.mk.inj (Option.some.inj hf)
        exact K51
      rw [if_neg c43] at hf
      by_cases c52 : p2 = (nI 5)
      · rw [if_pos c52] at hf
        obtain ⟨a53, e54, hf⟩ := dr_some hf
        obtain ⟨g55, hf⟩ := gd_some hf
        obtain ⟨a56, e57, hf⟩ := dr_some hf
        obtain ⟨g58, hf⟩ := gd_some hf
        obtain ⟨rfl, rfl⟩ := Prod.mk.inj (Option.some.inj hf)
        exact K18
      rw [if_neg c52] at hf
      obtain ⟨rfl, rfl⟩ := Prod.mk.inj (Option.some.inj hf)
      exact K18
    · rw [if_neg c10] at hf
      obtain ⟨rfl, rfl⟩ := Prod.mk.inj (Option.some.inj hf)
      exact K9
theorem c_X_chunk {l : Launch} {C : Ct} {mi : Nat} {a0 : Nat} {p1 : Int32} {p2 : Int32} {h h' : Hp} {v : Int32} (hf : f_X_chunk a0 p1 p2 h = some (v, h')) : Mt l C mi m_X_chunk 3 [vr (some a0), vi p1, vi p2] h (some (vi v)) h' := mt_I (ty := .int) rfl rfl rfl (by decide) (Nat.le_of_ble_eq_true rfl) (zf_X_chunk hf)
-- VersionMaps.block(II)I
def m_X_block : Mi := (⟨"VersionMaps", "block", "(II)I"⟩, prog_1_method_16_code, 4, (Option.some Jvm.ClassFile.FieldType.int), .ireturn)
theorem cw_X_block : cw_ok m_X_block 2 := ⟨by decide +kernel, by decide +kernel, by decide +kernel, by decide +kernel⟩
theorem im_X_block : Cond.instanceMethod m_X_block.1 ∈ lw_w := by decide +kernel
theorem se_X_block : Cond.selects "VersionMaps" m_X_block.1 m_X_block.1 ∈ lw_w := by decide +kernel
theorem d_X_block_0 : decode prog_1_method_16_code 0 = .ok (.iload_n 1, 1) := by decide +kernel
theorem d_X_block_1 : decode prog_1_method_16_code 1 = .ok (.ifCond .lt 9, 3) := by decide +kernel
theorem d_X_block_4 : decode prog_1_method_16_code 4 = .ok (.iload_n 1, 1) := by decide +kernel
theorem d_X_block_5 : decode prog_1_method_16_code 5 = .ok (.bipush 32, 2) := by decide +kernel
theorem d_X_block_7 : decode prog_1_method_16_code 7 = .ok (.if_icmp .lt 5, 3) := by decide +kernel
theorem d_X_block_10 : decode prog_1_method_16_code 10 = .ok (.iconst (-1), 1) := by decide +kernel
theorem d_X_block_11 : decode prog_1_method_16_code 11 = .ok (.ireturn, 1) := by decide +kernel
theorem d_X_block_12 : decode prog_1_method_16_code 12 = .ok (.aload_n 0, 1) := by decide +kernel
theorem d_X_block_13 : decode prog_1_method_16_code 13 = .ok (.getfield 19, 3) := by decide +kernel
theorem d_X_block_16 : decode prog_1_method_16_code 16 = .ok (.getfield 206, 3) := by decide +kernel
theorem d_X_block_19 : decode prog_1_method_16_code 19 = .ok (.iload_n 1, 1) := by decide +kernel
theorem d_X_block_20 : decode prog_1_method_16_code 20 = .ok (.aaload, 1) := by decide +kernel
theorem d_X_block_21 : decode prog_1_method_16_code 21 = .ok (.astore_n 3, 1) := by decide +kernel
theorem d_X_block_22 : decode prog_1_method_16_code 22 = .ok (.iload_n 2, 1) := by decide +kernel
theorem d_X_block_23 : decode prog_1_method_16_code 23 = .ok (.tableswitch 93 0 3 #[29, 47, 60, 75], 29) := by decide +kernel
theorem d_X_block_52 : decode prog_1_method_16_code 52 = .ok (.aload_n 0, 1) := by decide +kernel
theorem d_X_block_53 : decode prog_1_method_16_code 53 = .ok (.getfield 19, 3) := by decide +kernel
theorem d_X_block_56 : decode prog_1_method_16_code 56 = .ok (.getfield 210, 3) := by decide +kernel
theorem d_X_block_59 : decode prog_1_method_16_code 59 = .ok (.iload_n 1, 1) := by decide +kernel
theorem d_X_block_60 : decode prog_1_method_16_code 60 = .ok (.baload, 1) := by decide +kernel
theorem d_X_block_61 : decode prog_1_method_16_code 61 = .ok (.ifCond .eq 7, 3) := by decide +kernel
theorem d_X_block_64 : decode prog_1_method_16_code 64 = .ok (.iconst 1, 1) := by decide +kernel
theorem d_X_block_65 : decode prog_1_method_16_code 65 = .ok (.goto 4, 3) := by decide +kernel
theorem d_X_block_68 : decode prog_1_method_16_code 68 = .ok (.iconst 0, 1) := by decide +kernel
theorem d_X_block_69 : decode prog_1_method_16_code 69 = .ok (.ireturn, 1) := by decide +kernel
theorem d_X_block_70 : decode prog_1_method_16_code 70 = .ok (.aload_n 3, 1) := by decide +kernel
theorem d_X_block_71 : decode prog_1_method_16_code 71 = .ok (.ifnonnull 7, 3) := by decide +kernel
theorem d_X_block_74 : decode prog_1_method_16_code 74 = .ok (.iconst 0, 1) := by decide +kernel
theorem d_X_block_75 : decode prog_1_method_16_code 75 = .ok (.goto 7, 3) := by decide +kernel
theorem d_X_block_78 : decode prog_1_method_16_code 78 = .ok (.aload_n 3, 1) := by decide +kernel
theorem d_X_block_79 : decode prog_1_method_16_code 79 = .ok (.getfield 153, 3) := by decide +kernel
theorem d_X_block_82 : decode prog_1_method_16_code 82 = .ok (.ireturn, 1) := by decide +kernel
theorem d_X_block_83 : decode prog_1_method_16_code 83 = .ok (.aload_n 3, 1) := by decide +kernel
theorem d_X_block_84 : decode prog_1_method_16_code 84 = .ok (.ifnonnull 7, 3) := by decide +kernel
theorem d_X_block_87 : decode prog_1_method_16_code 87 = .ok (.iconst 0, 1) := by decide +kernel
theorem d_X_block_88 : decode prog_1_method_16_code 88 = .ok (.goto 9, 3) := by decide +kernel
theorem d_X_block_91 : decode prog_1_method_16_code 91 = .ok (.iload_n 1, 1) := by decide +kernel
theorem d_X_block_92 : decode prog_1_method_16_code 92 = .ok (.aload_n 3, 1) := by decide +kernel
theorem d_X_block_93 : decode prog_1_method_16_code 93 = .ok (.getfield 190, 3) := by decide +kernel
theorem d_X_block_96 : decode prog_1_method_16_code 96 = .ok (.isub, 1) := by decide +kernel
theorem d_X_block_97 : decode prog_1_method_16_code 97 = .ok (.ireturn, 1) := by decide +kernel
theorem d_X_block_98 : decode prog_1_method_16_code 98 = .ok (.aload_n 0, 1) := by decide +kernel
theorem d_X_block_99 : decode prog_1_method_16_code 99 = .ok (.getfield 19, 3) := by decide +kernel
theorem d_X_block_102 : decode prog_1_method_16_code 102 = .ok (.getfield 214, 3) := by decide +kernel
theorem d_X_block_105 : decode prog_1_method_16_code 105 = .ok (.iload_n 1, 1) := by decide +kernel
theorem d_X_block_106 : decode prog_1_method_16_code 106 = .ok (.baload, 1) := by decide +kernel
theorem d_X_block_107 : decode prog_1_method_16_code 107 = .ok (.ifCond .eq 7, 3) := by decide +kernel
theorem d_X_block_110 : decode prog_1_method_16_code 110 = .ok (.iconst 1, 1) := by decide +kernel
theorem d_X_block_111 : decode prog_1_method_16_code 111 = .ok (.goto 4, 3) := by decide +kernel
theorem d_X_block_114 : decode prog_1_method_16_code 114 = .ok (.iconst 0, 1) := by decide +kernel
theorem d_X_block_115 : decode prog_1_method_16_code 115 = .ok (.ireturn, 1) := by decide +kernel
theorem d_X_block_116 : decode prog_1_method_16_code 116 = .ok (.iconst (-1), 1) := by decide +kernel
theorem d_X_block_117 : decode prog_1_method_16_code 117 = .ok (.ireturn, 1) := by decide +kernel
def W_X_block : Wl := ([], [])
def f_X_block (a0 : Nat) (p1 : Int32) (p2 : Int32) (h : Hp) : Option (Int32 × Hp) :=
  if p1 < 0 then (some ((-1 : Int32), h)) else (if p1 < (nI 32) then (gd (isK h a0 0) (dr (hpR h a0 1) fun a4 => gd (isK h a4 1) (dr (hpR h a4 0) fun a7 => gd (isK h a7 68) (gd (inb p1 (hpL h a7)) (if p2 = (0 : Int32) then (dr (hpR h a4 2) fun a12 => gd (isK h a12 70) (gd (inb p1 (hpL h a12)) (if (hpI h a12 p1.toNatClampNeg) = 0 then (some ((0 : Int32), h)) else (some ((1 : Int32), h))))) else if p2 = (1 : Int32) then (if (hpR h a7 p1.toNatClampNeg) = none then (some ((0 : Int32), h)) else (dr (hpR h a7 p1.toNatClampNeg) fun a19 => gd (isK h a19 2) (some ((hpI h a19 0), h)))) else if p2 = (nI 2) then (if (hpR h a7 p1.toNatClampNeg) = none then (some ((0 : Int32), h)) else (dr (hpR h a7 p1.toNatClampNeg) fun a24 => gd (isK h a24 2) (some ((p1 - (hpI h a24 1)), h)))) else if p2 = (nI 3) then (dr (hpR h a4 3) fun a28 => gd (isK h a28 71) (gd (inb p1 (hpL h a28)) (if (hpI h a28 p1.toNatClampNeg) = 0 then (some ((0 : Int32), h)) else (some ((1 : Int32), h))))) else (some ((-1 : Int32), h))))))) else (some ((-1 : Int32), h)))
set_option maxRecDepth 100000 in
set_option maxHeartbeats 4000000 in
theorem zf_X_block {l : Launch} {C : Ct} {mi : Nat} {a0 : Nat} {p1 : Int32} {p2 : Int32} {h h' : Hp} {v : Int32} (hf : f_X_block a0 p1 p2 h = some (v, h')) : Z l C mi m_X_block 0 0 [(0, vr (some a0)), (1, vi p1), (2, vi p2)] [] h (some (vi v)) h' := by
  unfold f_X_block at hf
  refine z_iload_n 1 d_X_block_0 rfl rfl ?_
  refine z_if_lt (tgt := 10) d_X_block_1 (by decide) (fun c1 => ?_) (fun c1 => ?_)
  · rw [if_pos c1] at hf
    refine z_iconst (v := (-1 : Int32)) d_X_block_10 (by decide) ?_
    obtain ⟨rfl, rfl⟩ := Prod.mk.inj (Option.some.inj hf)
    exact z_ret d_X_block_11 rfl
  · rw [if_neg c1] at hf
    refine z_iload_n 1 d_X_block_4 rfl rfl ?_
    refine z_bipush (v := (nI 32)) d_X_block_5 (by decide) ?_
    refine z_icmp_lt (tgt := 12) d_X_block_7 (by decide) (fun c2 => ?_) (fun c2 => ?_)
    · rw [if_pos c2] at hf
      refine z_aload_n 0 d_X_block_12 rfl rfl ?_
      obtain ⟨g3, hf⟩ := gd_some hf
      refine z_getR d_X_block_13 (fl_K (isK_eq g3) fl_X_19_0) (fi_K (isK_eq g3) rfl) rfl ?_
      obtain ⟨a4, e5, hf⟩ := dr_some hf
      obtain ⟨g6, hf⟩ := gd_some hf
      refine z_getR d_X_block_16 (fl_K (isK_eq g6) fl_X_206_1) (fi_K (isK_eq g6) rfl) e5 ?_
      refine z_iload_n 1 d_X_block_19 rfl rfl ?_
      obtain ⟨a7, e8, hf⟩ := dr_some hf
      obtain ⟨g9, hf⟩ := gd_some hf
      obtain ⟨g10, hf⟩ := gd_some hf
      refine z_aald d_X_block_20 e8 (by rw [isK_eq g9]; decide) (by rw [isK_eq g9]; decide) (inb_vp g10) ?_
      refine z_astore_n (ls2 := [(3, vr (hpR h a7 p1.toNatClampNeg)), (0, vr (some a0)), (1, vi p1), (2, vi p2)]) d_X_block_21 rfl (by decide) rfl ?_
      refine z_iload_n 3 d_X_block_22 rfl rfl ?_
      by_cases c11 : p2 = (0 : Int32)
      · rw [if_pos c11] at hf
        refine z_tabIn (off := 29) (tgt := 52) d_X_block_23 (by rw [c11]; decide) (by rw [c11]; decide) (by rw [c11]; rfl) (by decide) ?_
        refine z_aload_n 1 d_X_block_52 rfl rfl ?_
        refine z_getR d_X_block_53 (fl_K (isK_eq g3) fl_X_19_0) (fi_K (isK_eq g3) rfl) rfl ?_
        refine z_getR d_X_block_56 (fl_K (isK_eq g6) fl_X_210_1) (fi_K (isK_eq g6) rfl) e5 ?_
        refine z_iload_n 2 d_X_block_59 rfl rfl ?_
        obtain ⟨a12, e13, hf⟩ := dr_some hf
        obtain ⟨g14, hf⟩ := gd_some hf
        obtain ⟨g15, hf⟩ := gd_some hf
        refine z_zald d_X_block_60 e13 (by rw [isK_eq g14]; decide) (by rw [isK_eq g14]; rfl) (inb_vp g15) ?_
        refine z_if_eq (tgt := 68) d_X_block_61 (by decide) (fun c16 => ?_) (fun c16 => ?_)
        · rw [if_pos c16] at hf
          refine z_iconst (v := (0 : Int32)) d_X_block_68 (by decide) ?_
          obtain ⟨rfl, rfl⟩ := Prod.mk.inj (Option.some.inj hf)
          exact z_ret d_X_block_69 rfl
        · rw [if_neg c16] at hf
          refine z_iconst (v := (1 : Int32)) d_X_block_64 (by decide) ?_
          refine z_goto (tgt := 69) d_X_block_65 (by decide) ?_
          obtain ⟨rfl, rfl⟩ := Prod.mk.inj (Option.some.inj hf)
          exact z_ret d_X_block_69 rfl
      rw [if_neg c11] at hf
      by_cases c17 : p2 = (1 : Int32)
      · rw [if_pos c17] at hf
        refine z_tabIn (off := 47) (tgt := 70) d_X_block_23 (by rw [c17]; decide) (by rw [c17]; decide) (by rw [c17]; rfl) (by decide) ?_
        refine z_aload_n 0 d_X_block_70 rfl rfl ?_
        refine z_ifnonnull (tgt := 78) d_X_block_71 (by decide) (fun c18 => ?_) (fun c18 => ?_)
        · rw [if_neg c18] at hf
          refine z_aload_n 0 d_X_block_78 rfl rfl ?_
          obtain ⟨a19, e20, hf⟩ := dr_some hf
          obtain ⟨g21, hf⟩ := gd_some hf
          refine z_getI d_X_block_79 (fl_K (isK_eq g21) fl_X_153_2) (fi_K (isK_eq g21) rfl) e20 ?_
          obtain ⟨rfl, rfl⟩ := Prod.mk.inj (Option.some.inj hf)
          exact z_ret d_X_block_82 rfl
        · rw [if_pos c18] at hf
          refine z_iconst (v := (0 : Int32)) d_X_block_74 (by decide) ?_
          refine z_goto (tgt := 82) d_X_block_75 (by decide) ?_
          obtain ⟨rfl, rfl⟩ := Prod.mk.inj (Option.some.inj hf)
          exact z_ret d_X_block_82 rfl
      rw [if_neg c17] at hf
      by_cases c22 : p2 = (nI 2)
      · rw [if_pos c22] at hf
        refine z_tabIn (off := 60) (tgt := 83) d_X_block_23 (by rw [c22]; decide) (by rw [c22]; decide) (by rw [c22]; rfl) (by decide) ?_
        refine z_aload_n 0 d_X_block_83 rfl rfl ?_
        refine z_ifnonnull (tgt := 91) d_X_block_84 (by decide) (fun c23 => ?_) (fun c23 => ?_)
        · rw [if_neg c23] at hf
          refine z_iload_n 2 d_X_block_91 rfl rfl ?_
          refine z_aload_n 0 d_X_block_92 rfl rfl ?_
          obtain ⟨a24, e25, hf⟩ := dr_some hf
          obtain ⟨g26, hf⟩ := gd_some hf
          refine z_getI d_X_block_93 (fl_K (isK_eq g26) fl_X_190_2) (fi_K (isK_eq g26) rfl) e25 ?_
          refine z_isub d_X_block_96 ?_
          obtain ⟨rfl, rfl⟩ := Prod.mk.inj (Option.some.inj hf)
          exact z_ret d_X_block_97 rfl
        · rw [if_pos c23] at hf
          refine z_iconst (v := (0 : Int32)) d_X_block_87 (by decide) ?_
          refine z_goto (tgt := 97) d_X_block_88 (by decide) ?_
          obtain ⟨rfl, rfl⟩ := Prod.mk.inj (Option.some.inj hf)
          exact z_ret d_X_block_97 rfl
      rw [if_neg c22] at hf
      by_cases c27 : p2 = (nI 3)
      · rw [if_pos c27] at hf
        refine z_tabIn (off := 75) (tgt := 98) d_X_block_23 (by rw [c27]; decide) (by rw [c27]; decide) (by rw [c27]; rfl) (by decide) ?_
        refine z_aload_n 1 d_X_block_98 rfl rfl ?_
        refine z_getR d_X_block_99 (fl_K (isK_eq g3) fl_X_19_0) (fi_K (isK_eq g3) rfl) rfl ?_
        refine z_getR d_X_block_102 (fl_K (isK_eq g6) fl_X_214_1) (fi_K (isK_eq g6) rfl) e5 ?_
        refine z_iload_n 2 d_X_block_105 rfl rfl ?_
        obtain ⟨a28, e29, hf⟩ := dr_some hf
        obtain ⟨g30, hf⟩ := gd_some hf
        obtain ⟨g31, hf⟩ := gd_some hf
        refine z_zald d_X_block_106 e29 (by rw [isK_eq g30]; decide) (by rw [isK_eq g30]; rfl) (inb_vp g31) ?_
        refine z_if_eq (tgt := 114) d_X_block_107 (by decide) (fun c32 => ?_) (fun c32 => ?_)
        · rw [if_pos c32] at hf
          refine z_iconst (v := (0 : Int32)) d_X_block_114 (by decide) ?_
          obtain ⟨rfl, rfl⟩ := Prod.mk.inj (Option.some.inj hf)
          exact z_ret d_X_block_115 rfl
        · rw [if_neg c32] at hf
          refine z_iconst (v := (1 : Int32)) d_X_block_110 (by decide) ?_
          refine z_goto (tgt := 115) d_X_block_111 (by decide) ?_
          obtain ⟨rfl, rfl⟩ := Prod.mk.inj (Option.some.inj hf)
          exact z_ret d_X_block_115 rfl
      rw [if_neg c27] at hf
      refine z_tabOut (tgt := 116) d_X_block_23 (ts_out 4 (by decide) (fun j hj => ?_)) (by decide) ?_
      · have hj2 : j = 0 ∨ j = 1 ∨ j = 2 ∨ j = 3 := by omega
        rcases hj2 with e | e | e | e
        · subst e; exact c11
        · subst e; exact c17
        · subst e; exact c22
        · subst e; exact c27
      refine z_iconst (v := (-1 : Int32)) d_X_block_116 (by decide) ?_
      obtain ⟨rfl, rfl⟩ := Prod.mk.inj (Option.some.inj hf)
      exact z_ret d_X_block_117 rfl
    · rw [if_neg c2] at hf
      refine z_iconst (v := (-1 : Int32)) d_X_block_10 (by decide) ?_
      obtain ⟨rfl, rfl⟩ := Prod.mk.inj (Option.some.inj hf)
      exact z_ret d_X_block_11 rfl
set_option maxRecDepth 100000 in
set_option maxHeartbeats 4000000 in
theorem fr_X_block {C : Ct} {mi : Nat} {a0 : Nat} {p1 : Int32} {p2 : Int32} {h h' : Hp} {v : Int32} (hf : f_X_block a0 p1 p2 h = some (v, h')) : Keep W_X_block h h' := by
  unfold f_X_block at hf
  rcases Classical.em (p1 < 0) with c1 | c1
  · rw [if_pos c1] at hf
    obtain ⟨rfl, rfl⟩ := Prod.mk.inj (Option.some.inj hf)
    exact (Keep.refl W_X_block _)
  · rw [if_neg c1] at hf
    rcases Classical.em (p1 < (nI 32)) with c2 | c2
    · rw [if_pos c2] at hf
      obtain ⟨g3, hf⟩ := gd_some hf
      obtain ⟨a4, e5, hf⟩ := dr_some hf
      obtain ⟨g6, hf⟩ := gd_some hf
      obtain ⟨a7, e8, hf⟩ := dr_some hf
      obtain ⟨g9, hf⟩ := gd_some hf
      obtain ⟨g10, hf⟩ := gd_some hf
      by_cases c11 : p2 = (0 : Int32)
      · rw [if_pos c11] at hf
        obtain ⟨a12, e13, hf⟩ := dr_some hf
        obtain ⟨g14, hf⟩ := gd_some hf
        obtain ⟨g15, hf⟩ := gd_some hf
        rcases Classical.em ((hpI h a12 p1.toNatClampNeg) = 0) with c16 | c16
        · rw [if_pos c16] at hf
          obtain ⟨rfl, rfl⟩ := Prod.mk.inj (Option.some.inj hf)
          exact (Keep.refl W_X_block _)
        · rw [if_neg c16] at hf
          obtain ⟨rfl, rfl⟩ := Prod.mk.inj (Option.some.inj hf)
          exact (Keep.refl W_X_block _)
      rw [if_neg c11] at hf
      by_cases c17 : p2 = (1 : Int32)
      · rw [if_pos c17] at hf
        rcases (Classical.em ((hpR h a7 p1.toNatClampNeg) = none)).symm with c18 | c18
        · rw [if_neg c18] at hf
          obtain ⟨a19, e20, hf⟩ := dr_some hf
          obtain ⟨g21, hf⟩ := gd_some hf
          obtain ⟨rfl, rfl⟩ := Prod.mk.inj (Option.some.inj hf)
          exact (Keep.refl W_X_block _)
        · rw [if_pos c18] at hf
          obtain ⟨rfl, rfl⟩ := Prod.mk.inj (Option.some.inj hf)
          exact (Keep.refl W_X_block _)
      rw [if_neg c17] at hf
      by_cases c22 : p2 = (nI 2)
      · rw [if_pos c22] at hf
        rcases (Classical.em ((hpR h a7 p1.toNatClampNeg) = none)).symm with c23 | c23
        · rw [if_neg c23] at hf
          obtain ⟨a24, e25, hf⟩ := dr_some hf
          obtain ⟨g26, hf⟩ := gd_some hf
          obtain ⟨rfl, rfl⟩ := Prod.mk.inj (Option.some.inj hf)
          exact (Keep.refl W_X_block _)
        · rw [if_pos c23] at hf
          obtain ⟨rfl, rfl⟩ := Prod.mk.inj (Option.some.inj hf)
          exact (Keep.refl W_X_block _)
      rw [if_neg c22] at hf
      by_cases c27 : p2 = (nI 3)
      · rw [if_pos c27] at hf
        obtain ⟨a28, e29, hf⟩ := dr_some hf
        obtain ⟨g30, hf⟩ := gd_some hf
        obtain ⟨g31, hf⟩ := gd_some hf
        rcases Classical.em ((hpI h a28 p1.toNatClampNeg) = 0) with c32 | c32
        · rw [if_pos c32] at hf
          obtain ⟨rfl, rfl⟩ := Prod.mk.inj (Option.some.inj hf)
          exact (Keep.refl W_X_block _)
        · rw [if_neg c32] at hf
          obtain ⟨rfl, rfl⟩ := Prod.mk.inj (Option.some.inj hf)
          exact (Keep.refl W_X_block _)
      rw [if_neg c27] at hf
      obtain ⟨rfl, rfl⟩ := Prod.mk.inj (Option.some.inj hf)
      exact (Keep.refl W_X_block _)
    · rw [if_neg c2] at hf
      obtain ⟨rfl, rfl⟩ := Prod.mk.inj (Option.some.inj hf)
      exact (Keep.refl W_X_block _)
theorem c_X_block {l : Launch} {C : Ct} {mi : Nat} {a0 : Nat} {p1 : Int32} {p2 : Int32} {h h' : Hp} {v : Int32} (hf : f_X_block a0 p1 p2 h = some (v, h')) : Mt l C mi m_X_block 0 [vr (some a0), vi p1, vi p2] h (some (vi v)) h' := mt_I (ty := .int) rfl rfl rfl (by decide) (Nat.le_of_ble_eq_true rfl) (zf_X_block hf)
-- VersionMaps.kept(I)I
def m_X_kept : Mi := (⟨"VersionMaps", "kept", "(I)I"⟩, prog_1_method_17_code, 2, (Option.some Jvm.ClassFile.FieldType.int), .ireturn)
theorem cw_X_kept : cw_ok m_X_kept 1 := ⟨by decide +kernel, by decide +kernel, by decide +kernel, by decide +kernel⟩
theorem im_X_kept : Cond.instanceMethod m_X_kept.1 ∈ lw_w := by decide +kernel
theorem se_X_kept : Cond.selects "VersionMaps" m_X_kept.1 m_X_kept.1 ∈ lw_w := by decide +kernel
theorem d_X_kept_0 : decode prog_1_method_17_code 0 = .ok (.iload_n 1, 1) := by decide +kernel
theorem d_X_kept_1 : decode prog_1_method_17_code 1 = .ok (.ifCond .lt 14, 3) := by decide +kernel
theorem d_X_kept_4 : decode prog_1_method_17_code 4 = .ok (.iload_n 1, 1) := by decide +kernel
theorem d_X_kept_5 : decode prog_1_method_17_code 5 = .ok (.aload_n 0, 1) := by decide +kernel
theorem d_X_kept_6 : decode prog_1_method_17_code 6 = .ok (.getfield 30, 3) := by decide +kernel
theorem d_X_kept_9 : decode prog_1_method_17_code 9 = .ok (.invokevirtual 183, 3) := by decide +kernel
theorem d_X_kept_12 : decode prog_1_method_17_code 12 = .ok (.if_icmp .lt 7, 3) := by decide +kernel
theorem d_X_kept_15 : decode prog_1_method_17_code 15 = .ok (.iconst (-1), 1) := by decide +kernel
theorem d_X_kept_16 : decode prog_1_method_17_code 16 = .ok (.goto 17, 3) := by decide +kernel
theorem d_X_kept_19 : decode prog_1_method_17_code 19 = .ok (.aload_n 0, 1) := by decide +kernel
theorem d_X_kept_20 : decode prog_1_method_17_code 20 = .ok (.getfield 30, 3) := by decide +kernel
theorem d_X_kept_23 : decode prog_1_method_17_code 23 = .ok (.iload_n 1, 1) := by decide +kernel
theorem d_X_kept_24 : decode prog_1_method_17_code 24 = .ok (.invokevirtual 186, 3) := by decide +kernel
theorem d_X_kept_27 : decode prog_1_method_17_code 27 = .ok (.checkcast 33, 3) := by decide +kernel
theorem d_X_kept_30 : decode prog_1_method_17_code 30 = .ok (.getfield 105, 3) := by decide +kernel
theorem d_X_kept_33 : decode prog_1_method_17_code 33 = .ok (.ireturn, 1) := by decide +kernel
def W_X_kept : Wl := ([], [])
def f_X_kept (a0 : Nat) (p1 : Int32) (h : Hp) : Option (Int32 × Hp) :=
  if p1 < 0 then (some ((-1 : Int32), h)) else (gd (isK h a0 0) (dr (hpR h a0 3) fun a3 => gd (isK h a3 9) (cl (f_A_size a3 h) fun v8 h6 => if p1 < v8 then (gd (isK h6 a0 0) (dr (hpR h6 a0 3) fun a12 => gd (isK h6 a12 9) (cl (f_A_get a12 p1 h6) fun v17 h15 => gd (caB h15 v17 7) (dr v17 fun a20 => gd (isK h15 a20 7) (some ((hpI h15 a20 0), h15)))))) else (some ((-1 : Int32), h6)))))
set_option maxRecDepth 100000 in
set_option maxHeartbeats 4000000 in
theorem zf_X_kept {l : Launch} {C : Ct} {mi : Nat} {a0 : Nat} {p1 : Int32} {h h' : Hp} {v : Int32} (hf : f_X_kept a0 p1 h = some (v, h')) : Z l C mi m_X_kept 3 0 [(0, vr (some a0)), (1, vi p1)] [] h (some (vi v)) h' := by
  unfold f_X_kept at hf
  refine z_iload_n 1 d_X_kept_0 rfl rfl ?_
  refine z_if_lt (tgt := 15) d_X_kept_1 (by decide) (fun c1 => ?_) (fun c1 => ?_)
  · rw [if_pos c1] at hf
    refine z_iconst (v := (-1 : Int32)) d_X_kept_15 (by decide) ?_
    refine z_goto (tgt := 33) d_X_kept_16 (by decide) ?_
    obtain ⟨rfl, rfl⟩ := Prod.mk.inj (Option.some.inj hf)
    exact z_ret d_X_kept_33 rfl
  · rw [if_neg c1] at hf
    refine z_iload_n 1 d_X_kept_4 rfl rfl ?_
    refine z_aload_n 0 d_X_kept_5 rfl rfl ?_
    obtain ⟨g2, hf⟩ := gd_some hf
    refine z_getR d_X_kept_6 (fl_K (isK_eq g2) fl_X_30_0) (fi_K (isK_eq g2) rfl) rfl ?_
    obtain ⟨a3, e4, hf⟩ := dr_some hf
    obtain ⟨g5, hf⟩ := gd_some hf
    obtain ⟨v8, h6, ec7, hf⟩ := cl_some hf
    refine z_callVx e4 (c_A_size ec7) d_X_kept_9 cw_A_size lk_X_183 im_A_size se_A_size (kc_K (isK_eq g5) kc_9) ⟨by decide, by decide⟩ (Nat.le_of_ble_eq_true rfl) rfl ?_
    refine z_icmp_lt (tgt := 19) d_X_kept_12 (by decide) (fun c10 => ?_) (fun c10 => ?_)
    · rw [if_pos c10] at hf
      refine z_aload_n 0 d_X_kept_19 rfl rfl ?_
      obtain ⟨g11, hf⟩ := gd_some hf
      refine z_getR d_X_kept_20 (fl_K (isK_eq g11) fl_X_30_0) (fi_K (isK_eq g11) rfl) rfl ?_
      refine z_iload_n 1 d_X_kept_23 rfl rfl ?_
      obtain ⟨a12, e13, hf⟩ := dr_some hf
      obtain ⟨g14, hf⟩ := gd_some hf
      obtain ⟨v17, h15, ec16, hf⟩ := cl_some hf
      refine z_callVx e13 (c_A_get ec16) d_X_kept_24 cw_A_get lk_X_186 im_A_get se_A_get (kc_K (isK_eq g14) kc_9) ⟨by decide, by decide⟩ (Nat.le_of_ble_eq_true rfl) rfl ?_
      obtain ⟨g19, hf⟩ := gd_some hf
      refine z_cast d_X_kept_27 (nm := "VersionMaps$Version") (by decide +kernel) (caB_ok (κ := 7) g19 rfl (by decide +kernel)) ?_
      obtain ⟨a20, e21, hf⟩ := dr_some hf
      obtain ⟨g22, hf⟩ := gd_some hf
      refine z_getI d_X_kept_30 (fl_K (isK_eq g22) fl_X_105_7) (fi_K (isK_eq g22) rfl) e21 ?_
      obtain ⟨rfl, rfl⟩ := Prod.mk.inj (Option.some.inj hf)
      exact z_ret d_X_kept_33 rfl
    · rw [if_neg c10] at hf
      refine z_iconst (v := (-1 : Int32)) d_X_kept_15 (by decide) ?_
      refine z_goto (tgt := 33) d_X_kept_16 (by decide) ?_
      obtain ⟨rfl, rfl⟩ := Prod.mk.inj (Option.some.inj hf)
      exact z_ret d_X_kept_33 rfl
set_option maxRecDepth 100000 in
set_option maxHeartbeats 4000000 in
theorem fr_X_kept {C : Ct} {mi : Nat} {a0 : Nat} {p1 : Int32} {h h' : Hp} {v : Int32} (hf : f_X_kept a0 p1 h = some (v, h')) : Keep W_X_kept h h' := by
  unfold f_X_kept at hf
  rcases Classical.em (p1 < 0) with c1 | c1
  · rw [if_pos c1] at hf
    obtain ⟨rfl, rfl⟩ := Prod.mk.inj (Option.some.inj hf)
    exact (Keep.refl W_X_kept _)
  · rw [if_neg c1] at hf
    obtain ⟨g2, hf⟩ := gd_some hf
    obtain ⟨a3, e4, hf⟩ := dr_some hf
    obtain ⟨g5, hf⟩ := gd_some hf
    obtain ⟨v8, h6, ec7, hf⟩ := cl_some hf
    have K9 := (Keep.refl W_X_kept _).trans ((fr_A_size (C := C) (mi := mi) ec7).mono (by decide) (by decide))
    rcases Classical.em (p1 < v8) with c10 | c10
    · rw [if_pos c10] at hf
      obtain ⟨g11, hf⟩ := gd_some hf
      obtain ⟨a12, e13, hf⟩ := dr_some hf
      obtain ⟨g14, hf⟩ := gd_some hf
      obtain ⟨v17, h15, ec16, hf⟩ := cl_some hf
      have K18 := K9.trans ((fr_A_get (C := C) (mi := mi) ec16).mono (by decide) (by decide))
      obtain ⟨g19, hf⟩ := gd_some hf
      obtain ⟨a20, e21, hf⟩ := dr_some hf
      obtain ⟨g22, hf⟩ := gd_some hf
      obtain ⟨rfl, rfl⟩ := Prod.mk.inj (Option.some.inj hf)
      exact K18
    · rw [if_neg c10] at hf
      obtain ⟨rfl, rfl⟩ := Prod.mk.inj (Option.some.inj hf)
      exact K9
theorem c_X_kept {l : Launch} {C : Ct} {mi : Nat} {a0 : Nat} {p1 : Int32} {h h' : Hp} {v : Int32} (hf : f_X_kept a0 p1 h = some (v, h')) : Mt l C mi m_X_kept 3 [vr (some a0), vi p1] h (some (vi v)) h' := mt_I (ty := .int) rfl rfl rfl (by decide) (Nat.le_of_ble_eq_true rfl) (zf_X_kept hf)
-- VersionMaps.allLivePages()I
def m_X_allLivePages : Mi := (⟨"VersionMaps", "allLivePages", "()I"⟩, prog_1_method_28_code, 3, (Option.some Jvm.ClassFile.FieldType.int), .ireturn)
theorem cw_X_allLivePages : cw_ok m_X_allLivePages 0 := ⟨by decide +kernel, by decide +kernel, by decide +kernel, by decide +kernel⟩
theorem im_X_allLivePages : Cond.instanceMethod m_X_allLivePages.1 ∈ lw_w := by decide +kernel
theorem se_X_allLivePages : Cond.selects "VersionMaps" m_X_allLivePages.1 m_X_allLivePages.1 ∈ lw_w := by decide +kernel
theorem d_X_allLivePages_0 : decode prog_1_method_28_code 0 = .ok (.iconst 0, 1) := by decide +kernel
theorem d_X_allLivePages_1 : decode prog_1_method_28_code 1 = .ok (.istore_n 1, 1) := by decide +kernel
theorem d_X_allLivePages_2 : decode prog_1_method_28_code 2 = .ok (.iconst 0, 1) := by decide +kernel
theorem d_X_allLivePages_3 : decode prog_1_method_28_code 3 = .ok (.istore_n 2, 1) := by decide +kernel
theorem d_X_allLivePages_4 : decode prog_1_method_28_code 4 = .ok (.iload_n 2, 1) := by decide +kernel
theorem d_X_allLivePages_5 : decode prog_1_method_28_code 5 = .ok (.aload_n 0, 1) := by decide +kernel
theorem d_X_allLivePages_6 : decode prog_1_method_28_code 6 = .ok (.getfield 26, 3) := by decide +kernel
theorem d_X_allLivePages_9 : decode prog_1_method_28_code 9 = .ok (.invokevirtual 183, 3) := by decide +kernel
theorem d_X_allLivePages_12 : decode prog_1_method_28_code 12 = .ok (.if_icmp .ge 30, 3) := by decide +kernel
theorem d_X_allLivePages_15 : decode prog_1_method_28_code 15 = .ok (.iload_n 1, 1) := by decide +kernel
theorem d_X_allLivePages_16 : decode prog_1_method_28_code 16 = .ok (.aload_n 0, 1) := by decide +kernel
theorem d_X_allLivePages_17 : decode prog_1_method_28_code 17 = .ok (.getfield 26, 3) := by decide +kernel
theorem d_X_allLivePages_20 : decode prog_1_method_28_code 20 = .ok (.iload_n 2, 1) := by decide +kernel
theorem d_X_allLivePages_21 : decode prog_1_method_28_code 21 = .ok (.invokevirtual 186, 3) := by decide +kernel
theorem d_X_allLivePages_24 : decode prog_1_method_28_code 24 = .ok (.checkcast 119, 3) := by decide +kernel
theorem d_X_allLivePages_27 : decode prog_1_method_28_code 27 = .ok (.aload_n 0, 1) := by decide +kernel
theorem d_X_allLivePages_28 : decode prog_1_method_28_code 28 = .ok (.getfield 49, 3) := by decide +kernel
theorem d_X_allLivePages_31 : decode prog_1_method_28_code 31 = .ok (.invokevirtual 200, 3) := by decide +kernel
theorem d_X_allLivePages_34 : decode prog_1_method_28_code 34 = .ok (.iadd, 1) := by decide +kernel
theorem d_X_allLivePages_35 : decode prog_1_method_28_code 35 = .ok (.istore_n 1, 1) := by decide +kernel
theorem d_X_allLivePages_36 : decode prog_1_method_28_code 36 = .ok (.iinc 2 1, 3) := by decide +kernel
theorem d_X_allLivePages_39 : decode prog_1_method_28_code 39 = .ok (.goto (-35), 3) := by decide +kernel
theorem d_X_allLivePages_42 : decode prog_1_method_28_code 42 = .ok (.iload_n 1, 1) := by decide +kernel
theorem d_X_allLivePages_43 : decode prog_1_method_28_code 43 = .ok (.ireturn, 1) := by decide +kernel
def W_X_allLivePages : Wl := ([], [])
def b_X_allLivePages_4 (y0 : Nat) (y1 : Int32) (y2 : Int32) (h : Hp) : Option ((Int32 × Int32 × Hp) ⊕ (Int32 × Hp)) :=
  gd (isK h y0 0) (dr (hpR h y0 2) fun a2 => gd (isK h a2 9) (cl (f_A_size a2 h) fun v7 h5 => if v7 ≤ y2 then (some (.inr (y1, h5))) else (gd (isK h5 y0 0) (dr (hpR h5 y0 2) fun a11 => gd (isK h5 a11 9) (cl (f_A_get a11 y2 h5) fun v16 h14 => gd (caB h14 v16 2) (gd (isK h14 y0 0) (dr v16 fun a20 => gd (isK h14 a20 2) (cl (f_K_livePages a20 (hpI h14 y0 7) h14) fun v25 h23 => some (.inl ((y1 + v25), (y2 + (1 : Int32)), h23))))))))))
set_option maxRecDepth 100000 in
set_option maxHeartbeats 4000000 in
theorem zb_X_allLivePages_4 {l : Launch} {C : Ct} {mi : Nat} {y0 : Nat} {y1 : Int32} {y2 : Int32} {h h' : Hp} {v : Int32} {q : ((Int32 × Int32 × Hp) ⊕ (Int32 × Hp))} (hf : b_X_allLivePages_4 y0 y1 y2 h = some q) (kc : ∀ s, q = .inl s → Z l C mi m_X_allLivePages 3 4 [(0, vr (some y0)), (1, vi s.1), (2, vi s.2.1)] [] s.2.2 (some (vi v)) h') (ke : ∀ x, q = .inr x → Z l C mi m_X_allLivePages 3 42 [(1, vi x.1)] [] x.2 (some (vi v)) h') : Z l C mi m_X_allLivePages 3 4 [(0, vr (some y0)), (1, vi y1), (2, vi y2)] [] h (some (vi v)) h' := by
  unfold b_X_allLivePages_4 at hf
  refine z_iload_n 2 d_X_allLivePages_4 rfl rfl ?_
  refine z_aload_n 0 d_X_allLivePages_5 rfl rfl ?_
  obtain ⟨g1, hf⟩ := gd_some hf
  refine z_getR d_X_allLivePages_6 (fl_K (isK_eq g1) fl_X_26_0) (fi_K (isK_eq g1) rfl) rfl ?_
  obtain ⟨a2, e3, hf⟩ := dr_some hf
  obtain ⟨g4, hf⟩ := gd_some hf
  obtain ⟨v7, h5, ec6, hf⟩ := cl_some hf
  refine z_callVx e3 (c_A_size ec6) d_X_allLivePages_9 cw_A_size lk_X_183 im_A_size se_A_size (kc_K (isK_eq g4) kc_9) ⟨by decide, by decide⟩ (Nat.le_of_ble_eq_true rfl) rfl ?_
  refine z_icmp_ge (tgt := 42) d_X_allLivePages_12 (by decide) (fun c9 => ?_) (fun c9 => ?_)
  · rw [if_pos c9] at hf
    refine z_ls [1] rfl ?_
    exact ke (y1, h5) (Option.some.inj hf).symm
  · rw [if_neg c9] at hf
    refine z_iload_n 1 d_X_allLivePages_15 rfl rfl ?_
    refine z_aload_n 0 d_X_allLivePages_16 rfl rfl ?_
    obtain ⟨g10, hf⟩ := gd_some hf
    refine z_getR d_X_allLivePages_17 (fl_K (isK_eq g10) fl_X_26_0) (fi_K (isK_eq g10) rfl) rfl ?_
    refine z_iload_n 2 d_X_allLivePages_20 rfl rfl ?_
    obtain ⟨a11, e12, hf⟩ := dr_some hf
    obtain ⟨g13, hf⟩ := gd_some hf
    obtain ⟨v16, h14, ec15, hf⟩ := cl_some hf
    refine z_callVx e12 (c_A_get ec15) d_X_allLivePages_21 cw_A_get lk_X_186 im_A_get se_A_get (kc_K (isK_eq g13) kc_9) ⟨by decide, by decide⟩ (Nat.le_of_ble_eq_true rfl) rfl ?_
    obtain ⟨g18, hf⟩ := gd_some hf
    refine z_cast d_X_allLivePages_24 (nm := "VersionMaps$Chunk") (by decide +kernel) (caB_ok (κ := 2) g18 rfl (by decide +kernel)) ?_
    refine z_aload_n 0 d_X_allLivePages_27 rfl rfl ?_
    obtain ⟨g19, hf⟩ := gd_some hf
    refine z_getI d_X_allLivePages_28 (fl_K (isK_eq g19) fl_X_49_0) (fi_K (isK_eq g19) rfl) rfl ?_
    obtain ⟨a20, e21, hf⟩ := dr_some hf
    obtain ⟨g22, hf⟩ := gd_some hf
    obtain ⟨v25, h23, ec24, hf⟩ := cl_some hf
    refine z_callVx e21 (c_K_livePages ec24) d_X_allLivePages_31 cw_K_livePages lk_X_200 im_K_livePages se_K_livePages (kc_K (isK_eq g22) kc_2) ⟨by decide, by decide⟩ (Nat.le_of_ble_eq_true rfl) rfl ?_
    refine z_iadd d_X_allLivePages_34 ?_
    refine z_istore_n (ls2 := [(1, vi (y1 + v25)), (0, vr (some y0)), (2, vi y2)]) d_X_allLivePages_35 rfl (by decide) rfl ?_
    refine z_iinc (ls2 := [(2, vi (y2 + (1 : Int32))), (1, vi (y1 + v25)), (0, vr (some y0))]) 2 d_X_allLivePages_36 rfl rfl (by decide) rfl ?_
    refine z_goto (tgt := 4) d_X_allLivePages_39 (by decide) ?_
    refine z_ls [2, 1, 0] rfl ?_
    exact kc ((y1 + v25), (y2 + (1 : Int32)), h23) (Option.some.inj hf).symm
set_option maxRecDepth 100000 in
set_option maxHeartbeats 4000000 in
theorem kb_X_allLivePages_4 {C : Ct} {mi : Nat} {y0 : Nat} {y1 : Int32} {y2 : Int32} {h : Hp} {q : ((Int32 × Int32 × Hp) ⊕ (Int32 × Hp))} (hf : b_X_allLivePages_4 y0 y1 y2 h = some q) : Keep W_X_allLivePages h (Sum.elim (fun s : Int32 × Int32 × Hp => s.2.2) (fun x : Int32 × Hp => x.2) q) := by
  unfold b_X_allLivePages_4 at hf
  obtain ⟨g1, hf⟩ := gd_some hf
  obtain ⟨a2, e3, hf⟩ := dr_some hf
  obtain ⟨g4, hf⟩ := gd_some hf
  obtain ⟨v7, h5, ec6, hf⟩ := cl_some hf
  have K8 := (Keep.refl W_X_allLivePages _).trans ((fr_A_size (C := C) (mi := mi) ec6).mono (by decide) (by decide))
  rcases Classical.em (v7 ≤ y2) with c9 | c9
  · rw [if_pos c9] at hf
    cases (Option.some.inj hf)
    exact K8
  · rw [if_neg c9] at hf
    obtain ⟨g10, hf⟩ := gd_some hf
    obtain ⟨a11, e12, hf⟩ := dr_some hf
    obtain ⟨g13, hf⟩ := gd_some hf
    obtain ⟨v16, h14, ec15, hf⟩ := cl_some hf
    have K17 := K8.trans ((fr_A_get (C := C) (mi := mi) ec15).mono (by decide) (by decide))
    obtain ⟨g18, hf⟩ := gd_some hf
    obtain ⟨g19, hf⟩ := gd_some hf
    obtain ⟨a20, e21, hf⟩ := dr_some hf
    obtain ⟨g22, hf⟩ := gd_some hf
    obtain ⟨v25, h23, ec24, hf⟩ := cl_some hf
    have K26 := K17.trans ((fr_K_livePages (C := C) (mi := mi) ec24).mono (by decide) (by decide))
    cases (Option.some.inj hf)
    exact K26
def l_X_allLivePages_4 (y0 : Nat) (s : Int32 × Int32 × Hp) : Option (Int32 × Hp) := lp (fun s => b_X_allLivePages_4 y0 s.1 s.2.1 s.2.2) FU s
theorem zzl_X_allLivePages_4 {l : Launch} {C : Ct} {mi : Nat} {y0 : Nat} {h' : Hp} {v : Int32} : ∀ (n : Nat) (s : Int32 × Int32 × Hp) (x : (Int32 × Hp)), lp (fun s : Int32 × Int32 × Hp => b_X_allLivePages_4 y0 s.1 s.2.1 s.2.2) n s = some x → Z l C mi m_X_allLivePages 3 42 [(1, vi x.1)] [] x.2 (some (vi v)) h' → Z l C mi m_X_allLivePages 3 4 [(0, vr (some y0)), (1, vi s.1), (2, vi s.2.1)] [] s.2.2 (some (vi v)) h' := by
  intro n
  induction n with
  | zero => intro s x hl; cases hl
  | succ n ih =>
    intro s x hl ke
    rcases lp_some hl with ⟨s2, hb, hl2⟩ | hb
    · exact zb_X_allLivePages_4 hb (fun s3 e3 => by cases e3; refine z_ls [0, 1, 2] rfl ?_; exact ih s2 x hl2 ke) (fun x e3 => by cases e3)
    · exact zb_X_allLivePages_4 hb (fun s3 e3 => by cases e3) (fun x e3 => by cases e3; exact ke)
theorem zl_X_allLivePages_4 {l : Launch} {C : Ct} {mi : Nat} {y0 : Nat} {h' : Hp} {v : Int32} {s : Int32 × Int32 × Hp} {x : (Int32 × Hp)} (hl : l_X_allLivePages_4 y0 s = some x) (ke : Z l C mi m_X_allLivePages 3 42 [(1, vi x.1)] [] x.2 (some (vi v)) h') : Z l C mi m_X_allLivePages 3 4 [(0, vr (some y0)), (1, vi s.1), (2, vi s.2.1)] [] s.2.2 (some (vi v)) h' := zzl_X_allLivePages_4 FU s x hl ke
theorem kl_X_allLivePages_4 {C : Ct} {mi : Nat} {y0 : Nat} {s : Int32 × Int32 × Hp} {q : (Int32 × Hp)} (hl : l_X_allLivePages_4 y0 s = some q) : Keep W_X_allLivePages s.2.2 ((fun x : Int32 × Hp => x.2) q) := lpk (sh := (fun s : Int32 × Int32 × Hp => s.2.2)) (rh := (fun x : Int32 × Hp => x.2)) (fun s q hb => kb_X_allLivePages_4 (C := C) (mi := mi) hb) FU s q hl
def f_X_allLivePages (a0 : Nat) (h : Hp) : Option (Int32 × Hp) :=
  bd (l_X_allLivePages_4 a0 ((0 : Int32), (0 : Int32), h)) fun x27 => some (x27.1, x27.2)
set_option maxRecDepth 100000 in
set_option maxHeartbeats 4000000 in
theorem zf_X_allLivePages {l : Launch} {C : Ct} {mi : Nat} {a0 : Nat} {h h' : Hp} {v : Int32} (hf : f_X_allLivePages a0 h = some (v, h')) : Z l C mi m_X_allLivePages 3 0 [(0, vr (some a0))] [] h (some (vi v)) h' := by
  unfold f_X_allLivePages at hf
  refine z_iconst (v := (0 : Int32)) d_X_allLivePages_0 (by decide) ?_
  refine z_istore_n (ls2 := [(1, vi (0 : Int32)), (0, vr (some a0))]) d_X_allLivePages_1 rfl (by decide) rfl ?_
  refine z_iconst (v := (0 : Int32)) d_X_allLivePages_2 (by decide) ?_
  refine z_istore_n (ls2 := [(2, vi (0 : Int32)), (1, vi (0 : Int32)), (0, vr (some a0))]) d_X_allLivePages_3 rfl (by decide) rfl ?_
  obtain ⟨x27, el28, hf⟩ := bd_some hf
  refine z_ls [2, 1, 0] rfl ?_
  refine zl_X_allLivePages_4 el28 ?_
  refine z_iload_n 0 d_X_allLivePages_42 rfl rfl ?_
  obtain ⟨rfl, rfl⟩ := Prod.mk.inj (Option.some.inj hf)
  exact z_ret d_X_allLivePages_43 rfl
set_option maxRecDepth 100000 in
set_option maxHeartbeats 4000000 in
theorem fr_X_allLivePages {C : Ct} {mi : Nat} {a0 : Nat} {h h' : Hp} {v : Int32} (hf : f_X_allLivePages a0 h = some (v, h')) : Keep W_X_allLivePages h h' := by
  unfold f_X_allLivePages at hf
  obtain ⟨x27, el28, hf⟩ := bd_some hf
  have K29 := (Keep.refl W_X_allLivePages _).trans (kl_X_allLivePages_4 (C := C) (mi := mi) el28)
  obtain ⟨rfl, rfl⟩ := Prod.mk.inj (Option.some.inj hf)
  exact K29
theorem c_X_allLivePages {l : Launch} {C : Ct} {mi : Nat} {a0 : Nat} {h h' : Hp} {v : Int32} (hf : f_X_allLivePages a0 h = some (v, h')) : Mt l C mi m_X_allLivePages 3 [vr (some a0)] h (some (vi v)) h' := mt_I (ty := .int) rfl rfl rfl (by decide) (Nat.le_of_ble_eq_true rfl) (zf_X_allLivePages hf)
-- VersionMaps.count(I)I
def m_X_count : Mi := (⟨"VersionMaps", "count", "(I)I"⟩, prog_1_method_18_code, 2, (Option.some Jvm.ClassFile.FieldType.int), .ireturn)
theorem cw_X_count : cw_ok m_X_count 1 := ⟨by decide +kernel, by decide +kernel, by decide +kernel, by decide +kernel⟩
theorem im_X_count : Cond.instanceMethod m_X_count.1 ∈ lw_w := by decide +kernel
theorem se_X_count : Cond.selects "VersionMaps" m_X_count.1 m_X_count.1 ∈ lw_w := by decide +kernel
theorem d_X_count_0 : decode prog_1_method_18_code 0 = .ok (.iload_n 1, 1) := by decide +kernel
theorem d_X_count_1 : decode prog_1_method_18_code 1 = .ok (.tableswitch 135 0 9 #[55, 63, 71, 76, 84, 92, 100, 111, 122, 127], 55) := by decide +kernel
theorem d_X_count_56 : decode prog_1_method_18_code 56 = .ok (.aload_n 0, 1) := by decide +kernel
theorem d_X_count_57 : decode prog_1_method_18_code 57 = .ok (.getfield 38, 3) := by decide +kernel
theorem d_X_count_60 : decode prog_1_method_18_code 60 = .ok (.getfield 105, 3) := by decide +kernel
theorem d_X_count_63 : decode prog_1_method_18_code 63 = .ok (.ireturn, 1) := by decide +kernel
theorem d_X_count_64 : decode prog_1_method_18_code 64 = .ok (.aload_n 0, 1) := by decide +kernel
theorem d_X_count_65 : decode prog_1_method_18_code 65 = .ok (.getfield 30, 3) := by decide +kernel
theorem d_X_count_68 : decode prog_1_method_18_code 68 = .ok (.invokevirtual 183, 3) := by decide +kernel
theorem d_X_count_71 : decode prog_1_method_18_code 71 = .ok (.ireturn, 1) := by decide +kernel
theorem d_X_count_72 : decode prog_1_method_18_code 72 = .ok (.aload_n 0, 1) := by decide +kernel
theorem d_X_count_73 : decode prog_1_method_18_code 73 = .ok (.getfield 46, 3) := by decide +kernel
theorem d_X_count_76 : decode prog_1_method_18_code 76 = .ok (.ireturn, 1) := by decide +kernel
theorem d_X_count_77 : decode prog_1_method_18_code 77 = .ok (.aload_n 0, 1) := by decide +kernel
theorem d_X_count_78 : decode prog_1_method_18_code 78 = .ok (.getfield 26, 3) := by decide +kernel
theorem d_X_count_81 : decode prog_1_method_18_code 81 = .ok (.invokevirtual 183, 3) := by decide +kernel
theorem d_X_count_84 : decode prog_1_method_18_code 84 = .ok (.ireturn, 1) := by decide +kernel
theorem d_X_count_85 : decode prog_1_method_18_code 85 = .ok (.aload_n 0, 1) := by decide +kernel
theorem d_X_count_86 : decode prog_1_method_18_code 86 = .ok (.getfield 19, 3) := by decide +kernel
theorem d_X_count_89 : decode prog_1_method_18_code 89 = .ok (.invokevirtual 217, 3) := by decide +kernel
theorem d_X_count_92 : decode prog_1_method_18_code 92 = .ok (.ireturn, 1) := by decide +kernel
theorem d_X_count_93 : decode prog_1_method_18_code 93 = .ok (.aload_n 0, 1) := by decide +kernel
theorem d_X_count_94 : decode prog_1_method_18_code 94 = .ok (.getfield 19, 3) := by decide +kernel
theorem d_X_count_97 : decode prog_1_method_18_code 97 = .ok (.getfield 159, 3) := by decide +kernel
theorem d_X_count_100 : decode prog_1_method_18_code 100 = .ok (.ireturn, 1) := by decide +kernel
theorem d_X_count_101 : decode prog_1_method_18_code 101 = .ok (.aload_n 0, 1) := by decide +kernel
theorem d_X_count_102 : decode prog_1_method_18_code 102 = .ok (.getfield 10, 3) := by decide +kernel
theorem d_X_count_105 : decode prog_1_method_18_code 105 = .ok (.getfield 220, 3) := by decide +kernel
theorem d_X_count_108 : decode prog_1_method_18_code 108 = .ok (.invokestatic 223, 3) := by decide +kernel
theorem d_X_count_111 : decode prog_1_method_18_code 111 = .ok (.ireturn, 1) := by decide +kernel
theorem d_X_count_112 : decode prog_1_method_18_code 112 = .ok (.aload_n 0, 1) := by decide +kernel
theorem d_X_count_113 : decode prog_1_method_18_code 113 = .ok (.getfield 10, 3) := by decide +kernel
theorem d_X_count_116 : decode prog_1_method_18_code 116 = .ok (.getfield 228, 3) := by decide +kernel
theorem d_X_count_119 : decode prog_1_method_18_code 119 = .ok (.invokestatic 223, 3) := by decide +kernel
theorem d_X_count_122 : decode prog_1_method_18_code 122 = .ok (.ireturn, 1) := by decide +kernel
theorem d_X_count_123 : decode prog_1_method_18_code 123 = .ok (.aload_n 0, 1) := by decide +kernel
theorem d_X_count_124 : decode prog_1_method_18_code 124 = .ok (.invokevirtual 231, 3) := by decide +kernel
theorem d_X_count_127 : decode prog_1_method_18_code 127 = .ok (.ireturn, 1) := by decide +kernel
theorem d_X_count_128 : decode prog_1_method_18_code 128 = .ok (.aload_n 0, 1) := by decide +kernel
theorem d_X_count_129 : decode prog_1_method_18_code 129 = .ok (.getfield 10, 3) := by decide +kernel
theorem d_X_count_132 : decode prog_1_method_18_code 132 = .ok (.invokevirtual 234, 3) := by decide +kernel
theorem d_X_count_135 : decode prog_1_method_18_code 135 = .ok (.ireturn, 1) := by decide +kernel
theorem d_X_count_136 : decode prog_1_method_18_code 136 = .ok (.iconst (-1), 1) := by decide +kernel
theorem d_X_count_137 : decode prog_1_method_18_code 137 = .ok (.ireturn, 1) := by decide +kernel
def W_X_count : Wl := ([], [])
def f_X_count (a0 : Nat) (p1 : Int32) (h : Hp) : Option (Int32 × Hp) :=
  if p1 = (0 : Int32) then (gd (isK h a0 0) (dr (hpR h a0 4) fun a3 => gd (isK h a3 7) (some ((hpI h a3 0), h)))) else if p1 = (1 : Int32) then (gd (isK h a0 0) (dr (hpR h a0 3) fun a8 => gd (isK h a8 9) (cl (f_A_size a8 h) fun v13 h11 => some (v13, h11)))) else if p1 = (nI 2) then (gd (isK h a0 0) (some ((hpI h a0 6), h))) else if p1 = (nI 3) then (gd (isK h a0 0) (dr (hpR h a0 2) fun a19 => gd (isK h a19 9) (cl (f_A_size a19 h) fun v24 h22 => some (v24, h22)))) else if p1 = (nI 4) then (gd (isK h a0 0) (dr (hpR h a0 1) fun a28 => gd (isK h a28 1) (cl (f_F_freeCount a28 h) fun v33 h31 => some (v33, h31)))) else if p1 = (nI 5) then (gd (isK h a0 0) (dr (hpR h a0 1) fun a37 => gd (isK h a37 1) (some ((hpI h a37 5), h)))) else if p1 = (nI 6) then (gd (isK h a0 0) (dr (hpR h a0 0) fun a42 => gd (isK h a42 5) (cl (f_In_bitCount (hpI h a42 2) h) fun v47 h45 => some (v47, h45)))) else if p1 = (nI 7) then (gd (isK h a0 0) (dr (hpR h a0 0) fun a51 => gd (isK h a51 5) (cl (f_In_bitCount (hpI h a51 3) h) fun v56 h54 => some (v56, h54)))) else if p1 = (nI 8) then (gd (isK h a0 0) (cl (f_X_allLivePages a0 h) fun v62 h60 => some (v62, h60))) else if p1 = (nI 9) then (gd (isK h a0 0) (dr (hpR h a0 0) fun a66 => gd (isK h a66 5) (cl (f_P_size a66 h) fun v71 h69 => some (v71, h69)))) else (some ((-1 : Int32), h))
set_option maxRecDepth 100000 in
set_option maxHeartbeats 4000000 in
theorem zf_X_count {l : Launch} {C : Ct} {mi : Nat} {a0 : Nat} {p1 : Int32} {h h' : Hp} {v : Int32} (hf : f_X_count a0 p1 h = some (v, h')) : Z l C mi m_X_count 4 0 [(0, vr (some a0)), (1, vi p1)] [] h (some (vi v)) h' := by
  unfold f_X_count at hf
  refine z_iload_n 1 d_X_count_0 rfl rfl ?_
  by_cases c1 : p1 = (0 : Int32)
  · rw [if_pos c1] at hf
    refine z_tabIn (off := 55) (tgt := 56) d_X_count_1 (by rw [c1]; decide) (by rw [c1]; decide) (by rw [c1]; rfl) (by decide) ?_
    refine z_aload_n 0 d_X_count_56 rfl rfl ?_
    obtain ⟨g2, hf⟩ := gd_some hf
    refine z_getR d_X_count_57 (fl_K (isK_eq g2) fl_X_38_0) (fi_K (isK_eq g2) rfl) rfl ?_
    obtain ⟨a3, e4, hf⟩ := dr_some hf
    obtain ⟨g5, hf⟩ := gd_some hf
    refine z_getI d_X_count_60 (fl_K (isK_eq g5) fl_X_105_7) (fi_K (isK_eq g5) rfl) e4 ?_
    obtain ⟨rfl, rfl⟩ := Prod.mk.inj (Option.some.inj hf)
    exact z_ret d_X_count_63 rfl
  rw [if_neg c1] at hf
  by_cases c6 : p1 = (1 : Int32)
  · rw [if_pos c6] at hf
    refine z_tabIn (off := 63) (tgt := 64) d_X_count_1 (by rw [c6]; decide) (by rw [c6]; decide) (by rw [c6]; rfl) (by decide) ?_
    refine z_aload_n 0 d_X_count_64 rfl rfl ?_
    obtain ⟨g7, hf⟩ := gd_some hf
    refine z_getR d_X_count_65 (fl_K (isK_eq g7) fl_X_30_0) (fi_K (isK_eq g7) rfl) rfl ?_
    obtain ⟨a8, e9, hf⟩ := dr_some hf
    obtain ⟨g10, hf⟩ := gd_some hf
    obtain ⟨v13, h11, ec12, hf⟩ := cl_some hf
    refine z_callVx e9 (c_A_size ec12) d_X_count_68 cw_A_size lk_X_183 im_A_size se_A_size (kc_K (isK_eq g10) kc_9) ⟨by decide, by decide⟩ (Nat.le_of_ble_eq_true rfl) rfl ?_
    obtain ⟨rfl, rfl⟩ := Prod.mk.inj (Option.some.inj hf)
    exact z_ret d_X_count_71 rfl
  rw [if_neg c6] at hf
  by_cases c15 : p1 = (nI 2)
  · rw [if_pos c15] at hf
    refine z_tabIn (off := 71) (tgt := 72) d_X_count_1 (by rw [c15]; decide) (by rw [c15]; decide) (by rw [c15]; rfl) (by decide) ?_
    refine z_aload_n 0 d_X_count_72 rfl rfl ?_
    obtain ⟨g16, hf⟩ := gd_some hf
    refine z_getI d_X_count_73 (fl_K (isK_eq g16) fl_X_46_0) (fi_K (isK_eq g16) rfl) rfl ?_
    obtain ⟨rfl, rfl⟩ := Prod.mk.inj (Option.some.inj hf)
    exact z_ret d_X_count_76 rfl
  rw [if_neg c15] at hf
  by_cases c17 : p1 = (nI 3)
  · rw [if_pos c17] at hf
    refine z_tabIn (off := 76) (tgt := 77) d_X_count_1 (by rw [c17]; decide) (by rw [c17]; decide) (by rw [c17]; rfl) (by decide) ?_
    refine z_aload_n 0 d_X_count_77 rfl rfl ?_
    obtain ⟨g18, hf⟩ := gd_some hf
    refine z_getR d_X_count_78 (fl_K (isK_eq g18) fl_X_26_0) (fi_K (isK_eq g18) rfl) rfl ?_
    obtain ⟨a19, e20, hf⟩ := dr_some hf
    obtain ⟨g21, hf⟩ := gd_some hf
    obtain ⟨v24, h22, ec23, hf⟩ := cl_some hf
    refine z_callVx e20 (c_A_size ec23) d_X_count_81 cw_A_size lk_X_183 im_A_size se_A_size (kc_K (isK_eq g21) kc_9) ⟨by decide, by decide⟩ (Nat.le_of_ble_eq_true rfl) rfl ?_
    obtain ⟨rfl, rfl⟩ := Prod.mk.inj (Option.some.inj hf)
    exact z_ret d_X_count_84 rfl
  rw [if_neg c17] at hf
  by_cases c26 : p1 = (nI 4)
  · rw [if_pos c26] at hf
    refine z_tabIn (off := 84) (tgt := 85) d_X_count_1 (by rw [c26]; decide) (by rw [c26]; decide) (by rw [c26]; rfl) (by decide) ?_
    refine z_aload_n 0 d_X_count_85 rfl rfl ?_
    obtain ⟨g27, hf⟩ := gd_some hf
    refine z_getR d_X_count_86 (fl_K (isK_eq g27) fl_X_19_0) (fi_K (isK_eq g27) rfl) rfl ?_
    obtain ⟨a28, e29, hf⟩ := dr_some hf
    obtain ⟨g30, hf⟩ := gd_some hf
    obtain ⟨v33, h31, ec32, hf⟩ := cl_some hf
    refine z_callVx e29 (c_F_freeCount ec32) d_X_count_89 cw_F_freeCount lk_X_217 im_F_freeCount se_F_freeCount (kc_K (isK_eq g30) kc_1) ⟨by decide, by decide⟩ (Nat.le_of_ble_eq_true rfl) rfl ?_
    obtain ⟨rfl, rfl⟩ := Prod.mk.inj (Option.some.inj hf)
    exact z_ret d_X_count_92 rfl
  rw [if_neg c26] at hf
  by_cases c35 : p1 = (nI 5)
  · rw [if_pos c35] at hf
    refine z_tabIn (off := 92) (tgt := 93) d_X_count_1 (by rw [c35]; decide) (by rw [c35]; decide) (by rw [c35]; rfl) (by decide) ?_
    refine z_aload_n 0 d_X_count_93 rfl rfl ?_
    obtain ⟨g36, hf⟩ := gd_some hf
    refine z_getR d_X_count_94 (fl_K (isK_eq g36) fl_X_19_0) (fi_K (isK_eq g36) rfl) rfl ?_
    obtain ⟨a37, e38, hf⟩ := dr_some hf
    obtain ⟨g39, hf⟩ := gd_some hf
    refine z_getI d_X_count_97 (fl_K (isK_eq g39) fl_X_159_1) (fi_K (isK_eq g39) rfl) e38 ?_
    obtain ⟨rfl, rfl⟩ := Prod.mk.inj (Option.some.inj hf)
    exact z_ret d_X_count_100 rfl
  rw [if_neg c35] at hf
  by_cases c40 : p1 = (nI 6)
  · rw [if_pos c40] at hf
    refine z_tabIn (off := 100) (tgt := 101) d_X_count_1 (by rw [c40]; decide) (by rw [c40]; decide) (by rw [c40]; rfl) (by decide) ?_
    refine z_aload_n 0 d_X_count_101 rfl rfl ?_
    obtain ⟨g41, hf⟩ := gd_some hf
    refine z_getR d_X_count_102 (fl_K (isK_eq g41) fl_X_10_0) (fi_K (isK_eq g41) rfl) rfl ?_
    obtain ⟨a42, e43, hf⟩ := dr_some hf
    obtain ⟨g44, hf⟩ := gd_some hf
    refine z_getI d_X_count_105 (fl_K (isK_eq g44) fl_X_220_5) (fi_K (isK_eq g44) rfl) e43 ?_
    obtain ⟨v47, h45, ec46, hf⟩ := cl_some hf
    refine z_callS (c_In_bitCount ec46) d_X_count_108 cw_In_bitCount lk_X_223 (by decide +kernel) ⟨by decide, by decide⟩ (Nat.le_of_ble_eq_true rfl) rfl ?_
    obtain ⟨rfl, rfl⟩ := Prod.mk.inj (Option.some.inj hf)
    exact z_ret d_X_count_111 rfl
  rw [if_neg c40] at hf
  by_cases c49 : p1 = (nI 7)
  · rw [if_pos c49] at hf
    refine z_tabIn (off := 111) (tgt := 112) d_X_count_1 (by rw [c49]; decide) (by rw [c49]; decide) (by rw [c49]; rfl) (by decide) ?_
    refine z_aload_n 0 d_X_count_112 rfl rfl ?_
    obtain ⟨g50, hf⟩ := gd_some hf
    refine z_getR d_X_count_113 (fl_K (isK_eq g50) fl_X_10_0) (fi_K (isK_eq g50) rfl) rfl ?_
    obtain ⟨a51, e52, hf⟩ := dr_some hf
    obtain ⟨g53, hf⟩ := gd_some hf
    refine z_getI d_X_count_116 (fl_K (isK_eq g53) fl_X_228_5) (fi_K (isK_eq g53) rfl) e52 ?_
    obtain ⟨v56, h54, ec55, hf⟩ := cl_some hf
    refine z_callS (c_In_bitCount ec55) d_X_count_119 cw_In_bitCount lk_X_223 (by decide +kernel) ⟨by decide, by decide⟩ (Nat.le_of_ble_eq_true rfl) rfl ?_
    obtain ⟨rfl, rfl⟩ := Prod.mk.inj (Option.some.inj hf)
    exact z_ret d_X_count_122 rfl
  rw [if_neg c49] at hf
  by_cases c58 : p1 = (nI 8)
  · rw [if_pos c58] at hf
    refine z_tabIn (off := 122) (tgt := 123) d_X_count_1 (by rw [c58]; decide) (by rw [c58]; decide) (by rw [c58]; rfl) (by decide) ?_
    refine z_aload_n 0 d_X_count_123 rfl rfl ?_
    obtain ⟨g59, hf⟩ := gd_some hf
    obtain ⟨v62, h60, ec61, hf⟩ := cl_some hf
    refine z_callVx rfl (c_X_allLivePages ec61) d_X_count_124 cw_X_allLivePages lk_X_231 im_X_allLivePages se_X_allLivePages (kc_K (isK_eq g59) kc_0) ⟨by decide, by decide⟩ (Nat.le_of_ble_eq_true rfl) rfl ?_
    obtain ⟨rfl, rfl⟩ := Prod.mk.inj (Option.some.inj hf)
    exact z_ret d_X_count_127 rfl
  rw [if_neg c58] at hf
  by_cases c64 : p1 = (nI 9)
  · rw [if_pos c64] at hf
    refine z_tabIn (off := 127) (tgt := 128) d_X_count_1 (by rw [c64]; decide) (by rw [c64]; decide) (by rw [c64]; rfl) (by decide) ?_
    refine z_aload_n 0 d_X_count_128 rfl rfl ?_
    obtain ⟨g65, hf⟩ := gd_some hf
    refine z_getR d_X_count_129 (fl_K (isK_eq g65) fl_X_10_0) (fi_K (isK_eq g65) rfl) rfl ?_
    obtain ⟨a66, e67, hf⟩ := dr_some hf
    obtain ⟨g68, hf⟩ := gd_some hf
    obtain ⟨v71, h69, ec70, hf⟩ := cl_some hf
    refine z_callVx e67 (c_P_size ec70) d_X_count_132 cw_P_size lk_X_234 im_P_size se_P_size (kc_K (isK_eq g68) kc_5) ⟨by decide, by decide⟩ (Nat.le_of_ble_eq_true rfl) rfl ?_
    obtain ⟨rfl, rfl⟩ := Prod.mk.inj (Option.some.inj hf)
    exact z_ret d_X_count_135 rfl
  rw [if_neg c64] at hf
  refine z_tabOut (tgt := 136) d_X_count_1 (ts_out 10 (by decide) (fun j hj => ?_)) (by decide) ?_
  · have hj2 : j = 0 ∨ j = 1 ∨ j = 2 ∨ j = 3 ∨ j = 4 ∨ j = 5 ∨ j = 6 ∨ j = 7 ∨ j = 8 ∨ j = 9 := by omega
    rcases hj2 with e | e | e | e | e | e | e | e | e | e
    · subst e; exact c1
    · subst e; exact c6
    · subst e; exact c15
    · subst e; exact c17
    · subst e; exact c26
    · subst e; exact c35
    · subst e; exact c40
    · subst e; exact c49
    · subst e; exact c58
    · subst e; exact c64
  refine z_iconst (v := (-1 : Int32)) d_X_count_136 (by decide) ?_
  obtain ⟨rfl, rfl⟩ := Prod.mk.inj (Option.some.inj hf)
  exact z_ret d_X_count_137 rfl
set_option maxRecDepth 100000 in
set_option maxHeartbeats 4000000 in
theorem fr_X_count {C : Ct} {mi : Nat} {a0 : Nat} {p1 : Int32} {h h' : Hp} {v : Int32} (hf : f_X_count a0 p1 h = some (v, h')) : Keep W_X_count h h' := by
  unfold f_X_count at hf
  by_cases c1 : p1 = (0 : Int32)
  · rw [if_pos c1] at hf
    obtain ⟨g2, hf⟩ := gd_some hf
    obtain ⟨a3, e4, hf⟩ := dr_some hf
    obtain ⟨g5, hf⟩ := gd_some hf
    obtain ⟨rfl, rfl⟩ := Prod.mk.inj (Option.some.inj hf)
    exact (Keep.refl W_X_count _)
  rw [if_neg c1] at hf
  by_cases c6 : p1 = (1 : Int32)
  · rw [if_pos c6] at hf
    obtain ⟨g7, hf⟩ := gd_some hf
    obtain ⟨a8, e9, hf⟩ := dr_some hf
    obtain ⟨g10, hf⟩ := gd_some hf
    obtain ⟨v13, h11, ec12, hf⟩ := cl_some hf
    have K14 := (Keep.refl W_X_count _).trans ((fr_A_size (C := C) (mi := mi) ec12).mono (by decide) (by decide))
    obtain ⟨rfl, rfl⟩ := Prod.mk.inj (Option.some.inj hf)
    exact K14
  rw [if_neg c6] at hf
  by_cases c15 : p1 = (nI 2)
  · rw [if_pos c15] at hf
    obtain ⟨g16, hf⟩ := gd_some hf
    obtain ⟨rfl, rfl⟩ := Prod.mk.inj (Option.some.inj hf)
    exact (Keep.refl W_X_count _)
  rw [if_neg c15] at hf
  by_cases c17 : p1 = (nI 3)
  · rw [if_pos c17] at hf
    obtain ⟨g18, hf⟩ := gd_some hf
    obtain ⟨a19, e20, hf⟩ := dr_some hf
    obtain ⟨g21, hf⟩ := gd_some hf
    obtain ⟨v24, h22, ec23, hf⟩ := cl_some hf
    have K25 := (Keep.refl W_X_count _).trans ((fr_A_size (C := C) (mi := mi) ec23).mono (by decide) (by decide))
    obtain ⟨rfl, rfl⟩ := Prod.mk.inj (Option.some.inj hf)
    exact K25
  rw [if_neg c17] at hf
  by_cases c26 : p1 = (nI 4)
  · rw [if_pos c26] at hf
    obtain ⟨g27, hf⟩ := gd_some hf
    obtain ⟨a28, e29, hf⟩ := dr_some hf
    obtain ⟨g30, hf⟩ := gd_some hf
    obtain ⟨v33, h31, ec32, hf⟩ := cl_some hf
    have K34 := (Keep.refl W_X_count _).trans ((fr_F_freeCount (C := C) (mi := mi) ec32).mono (by decide) (by decide))
    obtain ⟨rfl, rfl⟩ := Prod.mk.inj (Option.some.inj hf)
    exact K34
  rw [if_neg c26] at hf
  by_cases c35 : p1 = (nI 5)
  · rw [if_pos c35] at hf
    obtain ⟨g36, hf⟩ := gd_some hf
    obtain ⟨a37, e38, hf⟩ := dr_some hf
    obtain ⟨g39, hf⟩ := gd_some hf
    obtain ⟨rfl, rfl⟩ := Prod.mk.inj (Option.some.inj hf)
    exact (Keep.refl W_X_count _)
  rw [if_neg c35] at hf
  by_cases c40 : p1 = (nI 6)
  · rw [if_pos c40] at hf
    obtain ⟨g41, hf⟩ := gd_some hf
    obtain ⟨a42, e43, hf⟩ := dr_some hf
    obtain ⟨g44, hf⟩ := gd_some hf
    obtain ⟨v47, h45, ec46, hf⟩ := cl_some hf
    have K48 := (Keep.refl W_X_count _).trans ((fr_In_bitCount (C := C) (mi := mi) ec46).mono (by decide) (by decide))
    obtain ⟨rfl, rfl⟩ := Prod.mk.inj (Option.some.inj hf)
    exact K48
  rw [if_neg c40] at hf
  by_cases c49 : p1 = (nI 7)
  · rw [if_pos c49] at hf
    obtain ⟨g50, hf⟩ := gd_some hf
    obtain ⟨a51, e52, hf⟩ := dr_some hf
    obtain ⟨g53, hf⟩ := gd_some hf
    obtain ⟨v56, h54, ec55, hf⟩ := cl_some hf
    have K57 := (Keep.refl W_X_count _).trans ((fr_In_bitCount (C := C) (mi := mi) ec55).mono (by decide) (by decide))
    obtain ⟨rfl, rfl⟩ := Prod.mk.inj (Option.some.inj hf)
    exact K57
  rw [if_neg c49] at hf
  by_cases c58 : p1 = (nI 8)
  · rw [if_pos c58] at hf
    obtain ⟨g59, hf⟩ := gd_some hf
    obtain ⟨v62, h60, ec61, hf⟩ := cl_some hf
    have K63 := (Keep.refl W_X_count _).trans ((fr_X_allLivePages (C := C) (mi := mi) ec61).mono (by decide) (by decide))
    obtain ⟨rfl, rfl⟩ := Prod.mk.inj (Option.some.inj hf)
    exact K63
  rw [if_neg c58] at hf
  by_cases c64 : p1 = (nI 9)
  · rw [if_pos c64] at hf
    obtain ⟨g65, hf⟩ := gd_some hf
    obtain ⟨a66, e67, hf⟩ := dr_some hf
    obtain ⟨g68, hf⟩ := gd_some hf
    obtain ⟨v71, h69, ec70, hf⟩ := cl_some hf
    have K72 := (Keep.refl W_X_count _).trans ((fr_P_size (C := C) (mi := mi) ec70).mono (by decide) (by decide))
    obtain ⟨rfl, rfl⟩ := Prod.mk.inj (Option.some.inj hf)
    exact K72
  rw [if_neg c64] at hf
  obtain ⟨rfl, rfl⟩ := Prod.mk.inj (Option.some.inj hf)
  exact (Keep.refl W_X_count _)
theorem c_X_count {l : Launch} {C : Ct} {mi : Nat} {a0 : Nat} {p1 : Int32} {h h' : Hp} {v : Int32} (hf : f_X_count a0 p1 h = some (v, h')) : Mt l C mi m_X_count 4 [vr (some a0), vi p1] h (some (vi v)) h' := mt_I (ty := .int) rfl rfl rfl (by decide) (Nat.le_of_ble_eq_true rfl) (zf_X_count hf)

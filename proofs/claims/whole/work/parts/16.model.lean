-- VersionMapsModel.in(II)Z
def m_M_in : Mi := (⟨"VersionMapsModel", "in", "(II)Z"⟩, prog_11_method_2_code, 2, (Option.some Jvm.ClassFile.FieldType.boolean), .ireturn)
theorem cw_M_in : cw_ok m_M_in 2 := ⟨by decide +kernel, by decide +kernel, by decide +kernel, by decide +kernel⟩
theorem d_M_in_0 : decode prog_11_method_2_code 0 = .ok (.iload_n 0, 1) := by decide +kernel
theorem d_M_in_1 : decode prog_11_method_2_code 1 = .ok (.ifCond .lt 12, 3) := by decide +kernel
theorem d_M_in_4 : decode prog_11_method_2_code 4 = .ok (.iload_n 0, 1) := by decide +kernel
theorem d_M_in_5 : decode prog_11_method_2_code 5 = .ok (.iload_n 1, 1) := by decide +kernel
theorem d_M_in_6 : decode prog_11_method_2_code 6 = .ok (.if_icmp .ge 7, 3) := by decide +kernel
theorem d_M_in_9 : decode prog_11_method_2_code 9 = .ok (.iconst 1, 1) := by decide +kernel
theorem d_M_in_10 : decode prog_11_method_2_code 10 = .ok (.goto 4, 3) := by decide +kernel
theorem d_M_in_13 : decode prog_11_method_2_code 13 = .ok (.iconst 0, 1) := by decide +kernel
theorem d_M_in_14 : decode prog_11_method_2_code 14 = .ok (.ireturn, 1) := by decide +kernel
def W_M_in : Wl := ([], [])
def f0_M_in (p1 : Int32) (p2 : Int32) (h : Hp) : Option (Int32 × Hp) :=
  if p1 < 0 then (some ((0 : Int32), h)) else (if p2 ≤ p1 then (some ((0 : Int32), h)) else (some ((1 : Int32), h)))
def f_M_in (p1 : Int32) (p2 : Int32) (h : Hp) : Option (Int32 × Hp) := zbw (f0_M_in p1 p2 h)
set_option maxRecDepth 100000 in
set_option maxHeartbeats 4000000 in
theorem zf_M_in {l : Launch} {C : Ct} {mi : Nat} {p1 : Int32} {p2 : Int32} {h h' : Hp} {v : Int32} (hf : f0_M_in p1 p2 h = some (v, h')) : Z l C mi m_M_in 0 0 [(0, vi p1), (1, vi p2)] [] h (some (vi v)) h' := by
  unfold f0_M_in at hf
  refine z_iload_n 0 d_M_in_0 rfl rfl ?_
  refine z_if_lt (tgt := 13) d_M_in_1 (by decide) (fun c1 => ?_) (fun c1 => ?_)
  · rw [if_pos c1] at hf
    refine z_iconst (v := (0 : Int32)) d_M_in_13 (by decide) ?_
    obtain ⟨rfl, rfl⟩ := Prod.mk.inj (Option.some.inj hf)
    exact z_ret d_M_in_14 rfl
  · rw [if_neg c1] at hf
    refine z_iload_n 0 d_M_in_4 rfl rfl ?_
    refine z_iload_n 1 d_M_in_5 rfl rfl ?_
    refine z_icmp_ge (tgt := 13) d_M_in_6 (by decide) (fun c2 => ?_) (fun c2 => ?_)
    · rw [if_pos c2] at hf
      refine z_iconst (v := (0 : Int32)) d_M_in_13 (by decide) ?_
      obtain ⟨rfl, rfl⟩ := Prod.mk.inj (Option.some.inj hf)
      exact z_ret d_M_in_14 rfl
    · rw [if_neg c2] at hf
      refine z_iconst (v := (1 : Int32)) d_M_in_9 (by decide) ?_
      refine z_goto (tgt := 14) d_M_in_10 (by decide) ?_
      obtain ⟨rfl, rfl⟩ := Prod.mk.inj (Option.some.inj hf)
      exact z_ret d_M_in_14 rfl
set_option maxRecDepth 100000 in
set_option maxHeartbeats 4000000 in
theorem fr0_M_in {C : Ct} {mi : Nat} {p1 : Int32} {p2 : Int32} {h h' : Hp} {v : Int32} (hf : f0_M_in p1 p2 h = some (v, h')) : Keep W_M_in h h' := by
  unfold f0_M_in at hf
  rcases Classical.em (p1 < 0) with c1 | c1
  · rw [if_pos c1] at hf
    obtain ⟨rfl, rfl⟩ := Prod.mk.inj (Option.some.inj hf)
    exact (Keep.refl W_M_in _)
  · rw [if_neg c1] at hf
    rcases Classical.em (p2 ≤ p1) with c2 | c2
    · rw [if_pos c2] at hf
      obtain ⟨rfl, rfl⟩ := Prod.mk.inj (Option.some.inj hf)
      exact (Keep.refl W_M_in _)
    · rw [if_neg c2] at hf
      obtain ⟨rfl, rfl⟩ := Prod.mk.inj (Option.some.inj hf)
      exact (Keep.refl W_M_in _)
theorem fr_M_in {C : Ct} {mi : Nat} {p1 : Int32} {p2 : Int32} {h h' : Hp} {v : Int32} (hf : f_M_in p1 p2 h = some (v, h')) : Keep W_M_in h h' := fr0_M_in (C := C) (mi := mi) (zbw_some hf).2
theorem c_M_in {l : Launch} {C : Ct} {mi : Nat} {p1 : Int32} {p2 : Int32} {h h' : Hp} {v : Int32} (hf : f_M_in p1 p2 h = some (v, h')) : Mt l C mi m_M_in 0 [vi p1, vi p2] h (some (vi v)) h' := mt_I (ty := .boolean) rfl rfl (zb_eq (zbw_some hf).1) (by decide) (Nat.le_of_ble_eq_true rfl) (zf_M_in (zbw_some hf).2)
-- VersionMapsModel.put(III)I
def m_M_put : Mi := (⟨"VersionMapsModel", "put", "(III)I"⟩, prog_11_method_14_code, 5, (Option.some Jvm.ClassFile.FieldType.int), .ireturn)
theorem cw_M_put : cw_ok m_M_put 3 := ⟨by decide +kernel, by decide +kernel, by decide +kernel, by decide +kernel⟩
theorem im_M_put : Cond.instanceMethod m_M_put.1 ∈ lw_w := by decide +kernel
theorem se_M_put : Cond.selects "VersionMapsModel" m_M_put.1 m_M_put.1 ∈ lw_w := by decide +kernel
theorem d_M_put_0 : decode prog_11_method_14_code 0 = .ok (.iload_n 1, 1) := by decide +kernel
theorem d_M_put_1 : decode prog_11_method_14_code 1 = .ok (.iconst 4, 1) := by decide +kernel
theorem d_M_put_2 : decode prog_11_method_14_code 2 = .ok (.invokestatic 125, 3) := by decide +kernel
theorem d_M_put_5 : decode prog_11_method_14_code 5 = .ok (.ifCond .eq 12, 3) := by decide +kernel
theorem d_M_put_8 : decode prog_11_method_14_code 8 = .ok (.iload_n 2, 1) := by decide +kernel
theorem d_M_put_9 : decode prog_11_method_14_code 9 = .ok (.bipush 32, 2) := by decide +kernel
theorem d_M_put_11 : decode prog_11_method_14_code 11 = .ok (.invokestatic 125, 3) := by decide +kernel
theorem d_M_put_14 : decode prog_11_method_14_code 14 = .ok (.ifCond .ne 5, 3) := by decide +kernel
theorem d_M_put_17 : decode prog_11_method_14_code 17 = .ok (.iconst (-1), 1) := by decide +kernel
theorem d_M_put_18 : decode prog_11_method_14_code 18 = .ok (.ireturn, 1) := by decide +kernel
theorem d_M_put_19 : decode prog_11_method_14_code 19 = .ok (.aload_n 0, 1) := by decide +kernel
theorem d_M_put_20 : decode prog_11_method_14_code 20 = .ok (.getfield 7, 3) := by decide +kernel
theorem d_M_put_23 : decode prog_11_method_14_code 23 = .ok (.bipush 32, 2) := by decide +kernel
theorem d_M_put_25 : decode prog_11_method_14_code 25 = .ok (.iload_n 1, 1) := by decide +kernel
theorem d_M_put_26 : decode prog_11_method_14_code 26 = .ok (.imul, 1) := by decide +kernel
theorem d_M_put_27 : decode prog_11_method_14_code 27 = .ok (.iload_n 2, 1) := by decide +kernel
theorem d_M_put_28 : decode prog_11_method_14_code 28 = .ok (.iadd, 1) := by decide +kernel
theorem d_M_put_29 : decode prog_11_method_14_code 29 = .ok (.baload, 1) := by decide +kernel
theorem d_M_put_30 : decode prog_11_method_14_code 30 = .ok (.ifCond .eq 7, 3) := by decide +kernel
theorem d_M_put_33 : decode prog_11_method_14_code 33 = .ok (.iconst 1, 1) := by decide +kernel
theorem d_M_put_34 : decode prog_11_method_14_code 34 = .ok (.goto 4, 3) := by decide +kernel
theorem d_M_put_37 : decode prog_11_method_14_code 37 = .ok (.iconst 0, 1) := by decide +kernel
theorem d_M_put_38 : decode prog_11_method_14_code 38 = .ok (.istore 4, 2) := by decide +kernel
theorem d_M_put_40 : decode prog_11_method_14_code 40 = .ok (.aload_n 0, 1) := by decide +kernel
theorem d_M_put_41 : decode prog_11_method_14_code 41 = .ok (.getfield 7, 3) := by decide +kernel
theorem d_M_put_44 : decode prog_11_method_14_code 44 = .ok (.bipush 32, 2) := by decide +kernel
theorem d_M_put_46 : decode prog_11_method_14_code 46 = .ok (.iload_n 1, 1) := by decide +kernel
theorem d_M_put_47 : decode prog_11_method_14_code 47 = .ok (.imul, 1) := by decide +kernel
theorem d_M_put_48 : decode prog_11_method_14_code 48 = .ok (.iload_n 2, 1) := by decide +kernel
theorem d_M_put_49 : decode prog_11_method_14_code 49 = .ok (.iadd, 1) := by decide +kernel
theorem d_M_put_50 : decode prog_11_method_14_code 50 = .ok (.iconst 1, 1) := by decide +kernel
theorem d_M_put_51 : decode prog_11_method_14_code 51 = .ok (.bastore, 1) := by decide +kernel
theorem d_M_put_52 : decode prog_11_method_14_code 52 = .ok (.aload_n 0, 1) := by decide +kernel
theorem d_M_put_53 : decode prog_11_method_14_code 53 = .ok (.getfield 19, 3) := by decide +kernel
theorem d_M_put_56 : decode prog_11_method_14_code 56 = .ok (.bipush 32, 2) := by decide +kernel
theorem d_M_put_58 : decode prog_11_method_14_code 58 = .ok (.iload_n 1, 1) := by decide +kernel
theorem d_M_put_59 : decode prog_11_method_14_code 59 = .ok (.imul, 1) := by decide +kernel
theorem d_M_put_60 : decode prog_11_method_14_code 60 = .ok (.iload_n 2, 1) := by decide +kernel
theorem d_M_put_61 : decode prog_11_method_14_code 61 = .ok (.iadd, 1) := by decide +kernel
theorem d_M_put_62 : decode prog_11_method_14_code 62 = .ok (.iload_n 3, 1) := by decide +kernel
theorem d_M_put_63 : decode prog_11_method_14_code 63 = .ok (.iastore, 1) := by decide +kernel
theorem d_M_put_64 : decode prog_11_method_14_code 64 = .ok (.aload_n 0, 1) := by decide +kernel
theorem d_M_put_65 : decode prog_11_method_14_code 65 = .ok (.getfield 13, 3) := by decide +kernel
theorem d_M_put_68 : decode prog_11_method_14_code 68 = .ok (.iconst 4, 1) := by decide +kernel
theorem d_M_put_69 : decode prog_11_method_14_code 69 = .ok (.iload_n 1, 1) := by decide +kernel
theorem d_M_put_70 : decode prog_11_method_14_code 70 = .ok (.imul, 1) := by decide +kernel
theorem d_M_put_71 : decode prog_11_method_14_code 71 = .ok (.iload_n 2, 1) := by decide +kernel
theorem d_M_put_72 : decode prog_11_method_14_code 72 = .ok (.bipush 8, 2) := by decide +kernel
theorem d_M_put_74 : decode prog_11_method_14_code 74 = .ok (.idiv, 1) := by decide +kernel
theorem d_M_put_75 : decode prog_11_method_14_code 75 = .ok (.iadd, 1) := by decide +kernel
theorem d_M_put_76 : decode prog_11_method_14_code 76 = .ok (.iconst 1, 1) := by decide +kernel
theorem d_M_put_77 : decode prog_11_method_14_code 77 = .ok (.bastore, 1) := by decide +kernel
theorem d_M_put_78 : decode prog_11_method_14_code 78 = .ok (.iload 4, 2) := by decide +kernel
theorem d_M_put_80 : decode prog_11_method_14_code 80 = .ok (.ireturn, 1) := by decide +kernel
def W_M_put : Wl := ([], [75, 76, 78])
def j_M_put_38_M (y0 : Nat) (y1 : Int32) (y2 : Int32) (y3 : Int32) (w0 : Int32) (h : Hp) : Option (Int32 × Hp) :=
  gd (isK h y0 8) (dr (hpR h y0 0) fun a18 => gd (isK h a18 75) (gd (inb (((nI 32) * y1) + y2) (hpL h a18)) (nm (wI h a18 (((nI 32) * y1) + y2).toNatClampNeg (vp_nar .boolean (1 : Int32))) fun h22 => dr (hpR h22 y0 3) fun a25 => gd (isK h22 a25 78) (gd (inb (((nI 32) * y1) + y2) (hpL h22 a25)) (nm (wI h22 a25 (((nI 32) * y1) + y2).toNatClampNeg y3) fun h29 => dr (hpR h29 y0 1) fun a32 => gd (isK h29 a32 76) (gd (inb (((nI 4) * y1) + (y2 / (nI 8))) (hpL h29 a32)) (nm (wI h29 a32 (((nI 4) * y1) + (y2 / (nI 8))).toNatClampNeg (vp_nar .boolean (1 : Int32))) fun h36 => some (w0, h36))))))))
set_option maxRecDepth 100000 in
set_option maxHeartbeats 4000000 in
theorem zj_M_put_38_M {l : Launch} {C : Ct} {mi : Nat} {y0 : Nat} {y1 : Int32} {y2 : Int32} {y3 : Int32} {w0 : Int32} {h h' : Hp} {v : Int32} (hf : j_M_put_38_M y0 y1 y2 y3 w0 h = some (v, h')) : Z l C mi m_M_put 1 38 [(0, vr (some y0)), (1, vi y1), (2, vi y2), (3, vi y3)] [vi w0] h (some (vi v)) h' := by
  unfold j_M_put_38_M at hf
  refine z_istore (ls2 := [(4, vi w0), (0, vr (some y0)), (1, vi y1), (2, vi y2), (3, vi y3)]) d_M_put_38 (by decide) rfl ?_
  refine z_aload_n 1 d_M_put_40 rfl rfl ?_
  obtain ⟨g17, hf⟩ := gd_some hf
  refine z_getR d_M_put_41 (fl_K (isK_eq g17) fl_M_7_8) (fi_K (isK_eq g17) rfl) rfl ?_
  refine z_bipush (v := (nI 32)) d_M_put_44 (by decide) ?_
  refine z_iload_n 2 d_M_put_46 rfl rfl ?_
  refine z_imul d_M_put_47 ?_
  refine z_iload_n 3 d_M_put_48 rfl rfl ?_
  refine z_iadd d_M_put_49 ?_
  refine z_iconst (v := (1 : Int32)) d_M_put_50 (by decide) ?_
  obtain ⟨a18, e19, hf⟩ := dr_some hf
  obtain ⟨g20, hf⟩ := gd_some hf
  obtain ⟨g21, hf⟩ := gd_some hf
  obtain ⟨h22, eh23, hf⟩ := nm_some hf
  refine z_zast d_M_put_51 e19 (by rw [isK_eq g20]; decide) (by rw [isK_eq g20]; rfl) (inb_vp g21) ?_
  refine z_hp eh23 ?_
  refine z_aload_n 1 d_M_put_52 rfl rfl ?_
  refine z_getR d_M_put_53 (fl_K (isK_eq (isK_wI eh23 g17)) fl_M_19_8) (fi_K (isK_eq (isK_wI eh23 g17)) rfl) rfl ?_
  refine z_bipush (v := (nI 32)) d_M_put_56 (by decide) ?_
  refine z_iload_n 2 d_M_put_58 rfl rfl ?_
  refine z_imul d_M_put_59 ?_
  refine z_iload_n 3 d_M_put_60 rfl rfl ?_
  refine z_iadd d_M_put_61 ?_
  refine z_iload_n 4 d_M_put_62 rfl rfl ?_
  obtain ⟨a25, e26, hf⟩ := dr_some hf
  obtain ⟨g27, hf⟩ := gd_some hf
  obtain ⟨g28, hf⟩ := gd_some hf
  obtain ⟨h29, eh30, hf⟩ := nm_some hf
  refine z_iast d_M_put_63 e26 (by rw [isK_eq g27]; decide) (by rw [isK_eq g27]; rfl) (inb_vp g28) ?_
  refine z_hp eh30 ?_
  refine z_aload_n 1 d_M_put_64 rfl rfl ?_
  refine z_getR d_M_put_65 (fl_K (isK_eq (isK_wI eh30 (isK_wI eh23 g17))) fl_M_13_8) (fi_K (isK_eq (isK_wI eh30 (isK_wI eh23 g17))) rfl) rfl ?_
  refine z_iconst (v := (nI 4)) d_M_put_68 (by decide) ?_
  refine z_iload_n 2 d_M_put_69 rfl rfl ?_
  refine z_imul d_M_put_70 ?_
  refine z_iload_n 3 d_M_put_71 rfl rfl ?_
  refine z_bipush (v := (nI 8)) d_M_put_72 (by decide) ?_
  refine z_idiv d_M_put_74 (by decide) ?_
  refine z_iadd d_M_put_75 ?_
  refine z_iconst (v := (1 : Int32)) d_M_put_76 (by decide) ?_
  obtain ⟨a32, e33, hf⟩ := dr_some hf
  obtain ⟨g34, hf⟩ := gd_some hf
  obtain ⟨g35, hf⟩ := gd_some hf
  obtain ⟨h36, eh37, hf⟩ := nm_some hf
  refine z_zast d_M_put_77 e33 (by rw [isK_eq g34]; decide) (by rw [isK_eq g34]; rfl) (inb_vp g35) ?_
  refine z_hp eh37 ?_
  refine z_iload 0 d_M_put_78 rfl ?_
  obtain ⟨rfl, rfl⟩ := Prod.mk.inj (Option.some.inj hf)
  exact z_ret d_M_put_80 rfl
set_option maxRecDepth 100000 in
set_option maxHeartbeats 4000000 in
theorem kj_M_put_38_M {C : Ct} {mi : Nat} {y0 : Nat} {y1 : Int32} {y2 : Int32} {y3 : Int32} {w0 : Int32} {h h' : Hp} {v : Int32} (hf : j_M_put_38_M y0 y1 y2 y3 w0 h = some (v, h')) : Keep W_M_put h h' := by
  unfold j_M_put_38_M at hf
  obtain ⟨g17, hf⟩ := gd_some hf
  obtain ⟨a18, e19, hf⟩ := dr_some hf
  obtain ⟨g20, hf⟩ := gd_some hf
  obtain ⟨g21, hf⟩ := gd_some hf
  obtain ⟨h22, eh23, hf⟩ := nm_some hf
  have K24 := (Keep.refl W_M_put _).trans (kw_I eh23 (isK_eq g20) (Or.inr (by decide)))
  obtain ⟨a25, e26, hf⟩ := dr_some hf
  obtain ⟨g27, hf⟩ := gd_some hf
  obtain ⟨g28, hf⟩ := gd_some hf
  obtain ⟨h29, eh30, hf⟩ := nm_some hf
  have K31 := K24.trans (kw_I eh30 (isK_eq g27) (Or.inr (by decide)))
  obtain ⟨a32, e33, hf⟩ := dr_some hf
  obtain ⟨g34, hf⟩ := gd_some hf
  obtain ⟨g35, hf⟩ := gd_some hf
  obtain ⟨h36, eh37, hf⟩ := nm_some hf
  have K38 := K31.trans (kw_I eh37 (isK_eq g34) (Or.inr (by decide)))
  obtain ⟨rfl, rfl⟩ := Prod.mk.inj (Option.some.inj hf)
  exact K38
def f_M_put (a0 : Nat) (p1 : Int32) (p2 : Int32) (p3 : Int32) (h : Hp) : Option (Int32 × Hp) :=
  cl (f_M_in p1 (nI 4) h) fun v3 h1 => if v3 = 0 then (some ((-1 : Int32), h1)) else (cl (f_M_in p2 (nI 32) h1) fun v8 h6 => if v8 = 0 then (some ((-1 : Int32), h6)) else (gd (isK h6 a0 8) (dr (hpR h6 a0 0) fun a12 => gd (isK h6 a12 75) (gd (inb (((nI 32) * p1) + p2) (hpL h6 a12)) (if (hpI h6 a12 (((nI 32) * p1) + p2).toNatClampNeg) = 0 then (j_M_put_38_M a0 p1 p2 p3 (0 : Int32) h6) else (j_M_put_38_M a0 p1 p2 p3 (1 : Int32) h6))))))
set_option maxRecDepth 100000 in
set_option maxHeartbeats 4000000 in
theorem zf_M_put {l : Launch} {C : Ct} {mi : Nat} {a0 : Nat} {p1 : Int32} {p2 : Int32} {p3 : Int32} {h h' : Hp} {v : Int32} (hf : f_M_put a0 p1 p2 p3 h = some (v, h')) : Z l C mi m_M_put 1 0 [(0, vr (some a0)), (1, vi p1), (2, vi p2), (3, vi p3)] [] h (some (vi v)) h' := by
  unfold f_M_put at hf
  refine z_iload_n 1 d_M_put_0 rfl rfl ?_
  refine z_iconst (v := (nI 4)) d_M_put_1 (by decide) ?_
  obtain ⟨v3, h1, ec2, hf⟩ := cl_some hf
  refine z_callS (c_M_in ec2) d_M_put_2 cw_M_in lk_M_125 (by decide +kernel) ⟨by decide, by decide⟩ (Nat.le_of_ble_eq_true rfl) rfl ?_
  refine z_if_eq (tgt := 17) d_M_put_5 (by decide) (fun c5 => ?_) (fun c5 => ?_)
  · rw [if_pos c5] at hf
    refine z_iconst (v := (-1 : Int32)) d_M_put_17 (by decide) ?_
    obtain ⟨rfl, rfl⟩ := Prod.mk.inj (Option.some.inj hf)
    exact z_ret d_M_put_18 rfl
  · rw [if_neg c5] at hf
    refine z_iload_n 2 d_M_put_8 rfl rfl ?_
    refine z_bipush (v := (nI 32)) d_M_put_9 (by decide) ?_
    obtain ⟨v8, h6, ec7, hf⟩ := cl_some hf
    refine z_callS (c_M_in ec7) d_M_put_11 cw_M_in lk_M_125 (by decide +kernel) ⟨by decide, by decide⟩ (Nat.le_of_ble_eq_true rfl) rfl ?_
    refine z_if_ne (tgt := 19) d_M_put_14 (by decide) (fun c10 => ?_) (fun c10 => ?_)
    · rw [if_neg c10] at hf
      refine z_aload_n 0 d_M_put_19 rfl rfl ?_
      obtain ⟨g11, hf⟩ := gd_some hf
      refine z_getR d_M_put_20 (fl_K (isK_eq g11) fl_M_7_8) (fi_K (isK_eq g11) rfl) rfl ?_
      refine z_bipush (v := (nI 32)) d_M_put_23 (by decide) ?_
      refine z_iload_n 1 d_M_put_25 rfl rfl ?_
      refine z_imul d_M_put_26 ?_
      refine z_iload_n 2 d_M_put_27 rfl rfl ?_
      refine z_iadd d_M_put_28 ?_
      obtain ⟨a12, e13, hf⟩ := dr_some hf
      obtain ⟨g14, hf⟩ := gd_some hf
      obtain ⟨g15, hf⟩ := gd_some hf
      refine z_zald d_M_put_29 e13 (by rw [isK_eq g14]; decide) (by rw [isK_eq g14]; rfl) (inb_vp g15) ?_
      refine z_if_eq (tgt := 37) d_M_put_30 (by decide) (fun c16 => ?_) (fun c16 => ?_)
      · rw [if_pos c16] at hf
        refine z_iconst (v := (0 : Int32)) d_M_put_37 (by decide) ?_
        refine z_ls [0, 1, 2, 3] rfl ?_
        exact zj_M_put_38_M hf
      · rw [if_neg c16] at hf
        refine z_iconst (v := (1 : Int32)) d_M_put_33 (by decide) ?_
        refine z_goto (tgt := 38) d_M_put_34 (by decide) ?_
        refine z_ls [0, 1, 2, 3] rfl ?_
        exact zj_M_put_38_M hf
    · rw [if_pos c10] at hf
      refine z_iconst (v := (-1 : Int32)) d_M_put_17 (by decide) ?_
      obtain ⟨rfl, rfl⟩ := Prod.mk.inj (Option.some.inj hf)
      exact z_ret d_M_put_18 rfl
set_option maxRecDepth 100000 in
set_option maxHeartbeats 4000000 in
theorem fr_M_put {C : Ct} {mi : Nat} {a0 : Nat} {p1 : Int32} {p2 : Int32} {p3 : Int32} {h h' : Hp} {v : Int32} (hf : f_M_put a0 p1 p2 p3 h = some (v, h')) : Keep W_M_put h h' := by
  unfold f_M_put at hf
  obtain ⟨v3, h1, ec2, hf⟩ := cl_some hf
  have K4 := (Keep.refl W_M_put _).trans ((fr_M_in (C := C) (mi := mi) ec2).mono (by decide) (by decide))
  rcases Classical.em (v3 = 0) with c5 | c5
  · rw [if_pos c5] at hf
    obtain ⟨rfl, rfl⟩ := Prod.mk.inj (Option.some.inj hf)
    exact K4
  · rw [if_neg c5] at hf
    obtain ⟨v8, h6, ec7, hf⟩ := cl_some hf
    have K9 := K4.trans ((fr_M_in (C := C) (mi := mi) ec7).mono (by decide) (by decide))
    rcases (Classical.em (v8 = 0)).symm with c10 | c10
    · rw [if_neg c10] at hf
      obtain ⟨g11, hf⟩ := gd_some hf
      obtain ⟨a12, e13, hf⟩ := dr_some hf
      obtain ⟨g14, hf⟩ := gd_some hf
      obtain ⟨g15, hf⟩ := gd_some hf
      rcases Classical.em ((hpI h6 a12 (((nI 32) * p1) + p2).toNatClampNeg) = 0) with c16 | c16
      · rw [if_pos c16] at hf
        exact K9.trans (kj_M_put_38_M (C := C) (mi := mi) hf)
      · rw [if_neg c16] at hf
        exact K9.trans (kj_M_put_38_M (C := C) (mi := mi) hf)
    · rw [if_pos c10] at hf
      obtain ⟨rfl, rfl⟩ := Prod.mk.inj (Option.some.inj hf)
      exact K9
theorem c_M_put {l : Launch} {C : Ct} {mi : Nat} {a0 : Nat} {p1 : Int32} {p2 : Int32} {p3 : Int32} {h h' : Hp} {v : Int32} (hf : f_M_put a0 p1 p2 p3 h = some (v, h')) : Mt l C mi m_M_put 1 [vr (some a0), vi p1, vi p2, vi p3] h (some (vi v)) h' := mt_I (ty := .int) rfl rfl rfl (by decide) (Nat.le_of_ble_eq_true rfl) (zf_M_put hf)
-- VersionMapsModel.remove(II)I
def m_M_remove : Mi := (⟨"VersionMapsModel", "remove", "(II)I"⟩, prog_11_method_15_code, 3, (Option.some Jvm.ClassFile.FieldType.int), .ireturn)
theorem cw_M_remove : cw_ok m_M_remove 2 := ⟨by decide +kernel, by decide +kernel, by decide +kernel, by decide +kernel⟩
theorem im_M_remove : Cond.instanceMethod m_M_remove.1 ∈ lw_w := by decide +kernel
theorem se_M_remove : Cond.selects "VersionMapsModel" m_M_remove.1 m_M_remove.1 ∈ lw_w := by decide +kernel
theorem d_M_remove_0 : decode prog_11_method_15_code 0 = .ok (.iload_n 1, 1) := by decide +kernel
theorem d_M_remove_1 : decode prog_11_method_15_code 1 = .ok (.iconst 4, 1) := by decide +kernel
theorem d_M_remove_2 : decode prog_11_method_15_code 2 = .ok (.invokestatic 125, 3) := by decide +kernel
theorem d_M_remove_5 : decode prog_11_method_15_code 5 = .ok (.ifCond .eq 12, 3) := by decide +kernel
theorem d_M_remove_8 : decode prog_11_method_15_code 8 = .ok (.iload_n 2, 1) := by decide +kernel
theorem d_M_remove_9 : decode prog_11_method_15_code 9 = .ok (.bipush 32, 2) := by decide +kernel
theorem d_M_remove_11 : decode prog_11_method_15_code 11 = .ok (.invokestatic 125, 3) := by decide +kernel
theorem d_M_remove_14 : decode prog_11_method_15_code 14 = .ok (.ifCond .ne 5, 3) := by decide +kernel
theorem d_M_remove_17 : decode prog_11_method_15_code 17 = .ok (.iconst (-1), 1) := by decide +kernel
theorem d_M_remove_18 : decode prog_11_method_15_code 18 = .ok (.ireturn, 1) := by decide +kernel
theorem d_M_remove_19 : decode prog_11_method_15_code 19 = .ok (.aload_n 0, 1) := by decide +kernel
theorem d_M_remove_20 : decode prog_11_method_15_code 20 = .ok (.getfield 7, 3) := by decide +kernel
theorem d_M_remove_23 : decode prog_11_method_15_code 23 = .ok (.bipush 32, 2) := by decide +kernel
theorem d_M_remove_25 : decode prog_11_method_15_code 25 = .ok (.iload_n 1, 1) := by decide +kernel
theorem d_M_remove_26 : decode prog_11_method_15_code 26 = .ok (.imul, 1) := by decide +kernel
theorem d_M_remove_27 : decode prog_11_method_15_code 27 = .ok (.iload_n 2, 1) := by decide +kernel
theorem d_M_remove_28 : decode prog_11_method_15_code 28 = .ok (.iadd, 1) := by decide +kernel
theorem d_M_remove_29 : decode prog_11_method_15_code 29 = .ok (.baload, 1) := by decide +kernel
theorem d_M_remove_30 : decode prog_11_method_15_code 30 = .ok (.ifCond .ne 5, 3) := by decide +kernel
theorem d_M_remove_33 : decode prog_11_method_15_code 33 = .ok (.iconst 0, 1) := by decide +kernel
theorem d_M_remove_34 : decode prog_11_method_15_code 34 = .ok (.ireturn, 1) := by decide +kernel
theorem d_M_remove_35 : decode prog_11_method_15_code 35 = .ok (.aload_n 0, 1) := by decide +kernel
theorem d_M_remove_36 : decode prog_11_method_15_code 36 = .ok (.getfield 7, 3) := by decide +kernel
theorem d_M_remove_39 : decode prog_11_method_15_code 39 = .ok (.bipush 32, 2) := by decide +kernel
theorem d_M_remove_41 : decode prog_11_method_15_code 41 = .ok (.iload_n 1, 1) := by decide +kernel
theorem d_M_remove_42 : decode prog_11_method_15_code 42 = .ok (.imul, 1) := by decide +kernel
theorem d_M_remove_43 : decode prog_11_method_15_code 43 = .ok (.iload_n 2, 1) := by decide +kernel
theorem d_M_remove_44 : decode prog_11_method_15_code 44 = .ok (.iadd, 1) := by decide +kernel
theorem d_M_remove_45 : decode prog_11_method_15_code 45 = .ok (.iconst 0, 1) := by decide +kernel
theorem d_M_remove_46 : decode prog_11_method_15_code 46 = .ok (.bastore, 1) := by decide +kernel
theorem d_M_remove_47 : decode prog_11_method_15_code 47 = .ok (.aload_n 0, 1) := by decide +kernel
theorem d_M_remove_48 : decode prog_11_method_15_code 48 = .ok (.getfield 13, 3) := by decide +kernel
theorem d_M_remove_51 : decode prog_11_method_15_code 51 = .ok (.iconst 4, 1) := by decide +kernel
theorem d_M_remove_52 : decode prog_11_method_15_code 52 = .ok (.iload_n 1, 1) := by decide +kernel
theorem d_M_remove_53 : decode prog_11_method_15_code 53 = .ok (.imul, 1) := by decide +kernel
theorem d_M_remove_54 : decode prog_11_method_15_code 54 = .ok (.iload_n 2, 1) := by decide +kernel
theorem d_M_remove_55 : decode prog_11_method_15_code 55 = .ok (.bipush 8, 2) := by decide +kernel
theorem d_M_remove_57 : decode prog_11_method_15_code 57 = .ok (.idiv, 1) := by decide +kernel
theorem d_M_remove_58 : decode prog_11_method_15_code 58 = .ok (.iadd, 1) := by decide +kernel
theorem d_M_remove_59 : decode prog_11_method_15_code 59 = .ok (.iconst 1, 1) := by decide +kernel
theorem d_M_remove_60 : decode prog_11_method_15_code 60 = .ok (.bastore, 1) := by decide +kernel
theorem d_M_remove_61 : decode prog_11_method_15_code 61 = .ok (.iconst 1, 1) := by decide +kernel
theorem d_M_remove_62 : decode prog_11_method_15_code 62 = .ok (.ireturn, 1) := by decide +kernel
def W_M_remove : Wl := ([], [75, 76])
def f_M_remove (a0 : Nat) (p1 : Int32) (p2 : Int32) (h : Hp) : Option (Int32 × Hp) :=
  cl (f_M_in p1 (nI 4) h) fun v3 h1 => if v3 = 0 then (some ((-1 : Int32), h1)) else (cl (f_M_in p2 (nI 32) h1) fun v8 h6 => if v8 = 0 then (some ((-1 : Int32), h6)) else (gd (isK h6 a0 8) (dr (hpR h6 a0 0) fun a12 => gd (isK h6 a12 75) (gd (inb (((nI 32) * p1) + p2) (hpL h6 a12)) (if (hpI h6 a12 (((nI 32) * p1) + p2).toNatClampNeg) = 0 then (some ((0 : Int32), h6)) else (nm (wI h6 a12 (((nI 32) * p1) + p2).toNatClampNeg (vp_nar .boolean (0 : Int32))) fun h17 => dr (hpR h17 a0 1) fun a20 => gd (isK h17 a20 76) (gd (inb (((nI 4) * p1) + (p2 / (nI 8))) (hpL h17 a20)) (nm (wI h17 a20 (((nI 4) * p1) + (p2 / (nI 8))).toNatClampNeg (vp_nar .boolean (1 : Int32))) fun h24 => some ((1 : Int32), h24)))))))))
set_option maxRecDepth 100000 in
set_option maxHeartbeats 4000000 in
theorem zf_M_remove {l : Launch} {C : Ct} {mi : Nat} {a0 : Nat} {p1 : Int32} {p2 : Int32} {h h' : Hp} {v : Int32} (hf : f_M_remove a0 p1 p2 h = some (v, h')) : Z l C mi m_M_remove 1 0 [(0, vr (some a0)), (1, vi p1), (2, vi p2)] [] h (some (vi v)) h' := by
  unfold f_M_remove at hf
  refine z_iload_n 1 d_M_remove_0 rfl rfl ?_
  refine z_iconst (v := (nI 4)) d_M_remove_1 (by decide) ?_
  obtain ⟨v3, h1, ec2, hf⟩ := cl_some hf
  refine z_callS (c_M_in ec2) d_M_remove_2 cw_M_in lk_M_125 (by decide +kernel) ⟨by decide, by decide⟩ (Nat.le_of_ble_eq_true rfl) rfl ?_
  refine z_if_eq (tgt := 17) d_M_remove_5 (by decide) (fun c5 => ?_) (fun c5 => ?_)
  · rw [if_pos c5] at hf
    refine z_iconst (v := (-1 : Int32)) d_M_remove_17 (by decide) ?_
    obtain ⟨rfl, rfl⟩ := Prod.mk.inj (Option.some.inj hf)
    exact z_ret d_M_remove_18 rfl
  · rw [if_neg c5] at hf
    refine z_iload_n 2 d_M_remove_8 rfl rfl ?_
    refine z_bipush (v := (nI 32)) d_M_remove_9 (by decide) ?_
    obtain ⟨v8, h6, ec7, hf⟩ := cl_some hf
    refine z_callS (c_M_in ec7) d_M_remove_11 cw_M_in lk_M_125 (by decide +kernel) ⟨by decide, by decide⟩ (Nat.le_of_ble_eq_true rfl) rfl ?_
    refine z_if_ne (tgt := 19) d_M_remove_14 (by decide) (fun c10 => ?_) (fun c10 => ?_)
    · rw [if_neg c10] at hf
      refine z_aload_n 0 d_M_remove_19 rfl rfl ?_
      obtain ⟨g11, hf⟩ := gd_some hf
      refine z_getR d_M_remove_20 (fl_K (isK_eq g11) fl_M_7_8) (fi_K (isK_eq g11) rfl) rfl ?_
      refine z_bipush (v := (nI 32)) d_M_remove_23 (by decide) ?_
      refine z_iload_n 1 d_M_remove_25 rfl rfl ?_
      refine z_imul d_M_remove_26 ?_
      refine z_iload_n 2 d_M_remove_27 rfl rfl ?_
      refine z_iadd d_M_remove_28 ?_
      obtain ⟨a12, e13, hf⟩ := dr_some hf
      obtain ⟨g14, hf⟩ := gd_some hf
      obtain ⟨g15, hf⟩ := gd_some hf
      refine z_zald d_M_remove_29 e13 (by rw [isK_eq g14]; decide) (by rw [isK_eq g14]; rfl) (inb_vp g15) ?_
      refine z_if_ne (tgt := 35) d_M_remove_30 (by decide) (fun c16 => ?_) (fun c16 => ?_)
      · rw [if_neg c16] at hf
        refine z_aload_n 0 d_M_remove_35 rfl rfl ?_
        refine z_getR d_M_remove_36 (fl_K (isK_eq g11) fl_M_7_8) (fi_K (isK_eq g11) rfl) rfl ?_
        refine z_bipush (v := (nI 32)) d_M_remove_39 (by decide) ?_
        refine z_iload_n 1 d_M_remove_41 rfl rfl ?_
        refine z_imul d_M_remove_42 ?_
        refine z_iload_n 2 d_M_remove_43 rfl rfl ?_
        refine z_iadd d_M_remove_44 ?_
        refine z_iconst (v := (0 : Int32)) d_M_remove_45 (by decide) ?_
        obtain ⟨h17, eh18, hf⟩ := nm_some hf
        refine z_zast d_M_remove_46 e13 (by rw [isK_eq g14]; decide) (by rw [isK_eq g14]; rfl) (inb_vp g15) ?_
        refine z_hp eh18 ?_
        refine z_aload_n 0 d_M_remove_47 rfl rfl ?_
        refine z_getR d_M_remove_48 (fl_K (isK_eq (isK_wI eh18 g11)) fl_M_13_8) (fi_K (isK_eq (isK_wI eh18 g11)) rfl) rfl ?_
        refine z_iconst (v := (nI 4)) d_M_remove_51 (by decide) ?_
        refine z_iload_n 1 d_M_remove_52 rfl rfl ?_
        refine z_imul d_M_remove_53 ?_
        refine z_iload_n 2 d_M_remove_54 rfl rfl ?_
        refine z_bipush (v := (nI 8)) d_M_remove_55 (by decide) ?_
        refine z_idiv d_M_remove_57 (by decide) ?_
        refine z_iadd d_M_remove_58 ?_
        refine z_iconst (v := (1 : Int32)) d_M_remove_59 (by decide) ?_
        obtain ⟨a20, e21, hf⟩ := dr_some hf
        obtain ⟨g22, hf⟩ := gd_some hf
        obtain ⟨g23, hf⟩ := gd_some hf
        obtain ⟨h24, eh25, hf⟩ := nm_some hf
        refine z_zast d_M_remove_60 e21 (by rw [isK_eq g22]; decide) (by rw [isK_eq g22]; rfl) (inb_vp g23) ?_
        refine z_hp eh25 ?_
        refine z_iconst (v := (1 : Int32)) d_M_remove_61 (by decide) ?_
        obtain ⟨rfl, rfl⟩ := Prod.mk.inj (Option.some.inj hf)
        exact z_ret d_M_remove_62 rfl
      · rw [if_pos c16] at hf
        refine z_iconst (v := (0 : Int32)) d_M_remove_33 (by decide) ?_
        obtain ⟨rfl, rfl⟩ := Prod.mk.inj (Option.some.inj hf)
        exact z_ret d_M_remove_34 rfl
    · rw [if_pos c10] at hf
      refine z_iconst (v := (-1 : Int32)) d_M_remove_17 (by decide) ?_
      obtain ⟨rfl, rfl⟩ := Prod.mk.inj (Option.some.inj hf)
      exact z_ret d_M_remove_18 rfl
set_option maxRecDepth 100000 in
set_option maxHeartbeats 4000000 in
theorem fr_M_remove {C : Ct} {mi : Nat} {a0 : Nat} {p1 : Int32} {p2 : Int32} {h h' : Hp} {v : Int32} (hf : f_M_remove a0 p1 p2 h = some (v, h')) : Keep W_M_remove h h' := by
  unfold f_M_remove at hf
  obtain ⟨v3, h1, ec2, hf⟩ := cl_some hf
  have K4 := (Keep.refl W_M_remove _).trans ((fr_M_in (C := C) (mi := mi) ec2).mono (by decide) (by decide))
  rcases Classical.em (v3 = 0) with c5 | c5
  · rw [if_pos c5] at hf
    obtain ⟨rfl, rfl⟩ := Prod.mk.inj (Option.some.inj hf)
    exact K4
  · rw [if_neg c5] at hf
    obtain ⟨v8, h6, ec7, hf⟩ := cl_some hf
    have K9 := K4.trans ((fr_M_in (C := C) (mi := mi) ec7).mono (by decide) (by decide))
    rcases (Classical.em (v8 = 0)).symm with c10 | c10
    · rw [if_neg c10] at hf
      obtain ⟨g11, hf⟩ := gd_some hf
      obtain ⟨a12, e13, hf⟩ := dr_some hf
      obtain ⟨g14, hf⟩ := gd_some hf
      obtain ⟨g15, hf⟩ := gd_some hf
      rcases (Classical.em ((hpI h6 a12 (((nI 32) * p1) + p2).toNatClampNeg) = 0)).symm with c16 | c16
      · rw [if_neg c16] at hf
        obtain ⟨h17, eh18, hf⟩ := nm_some hf
        have K19 := K9.trans (kw_I eh18 (isK_eq g14) (Or.inr (by decide)))
        obtain ⟨a20, e21, hf⟩ := dr_some hf
        obtain ⟨g22, hf⟩ := gd_some hf
        obtain ⟨g23, hf⟩ := gd_some hf
        obtain ⟨h24, eh25, hf⟩ := nm_some hf
        have K26 := K19.trans (kw_I eh25 (isK_eq g22) (Or.inr (by decide)))
        obtain ⟨rfl, rfl⟩ := Prod.mk.inj (Option.some.inj hf)
        exact K26
      · rw [if_pos c16] at hf
        obtain ⟨rfl, rfl⟩ := Prod.mk.inj (Option.some.inj hf)
        exact K9
    · rw [if_pos c10] at hf
      obtain ⟨rfl, rfl⟩ := Prod.mk.inj (Option.some.inj hf)
      exact K9
theorem c_M_remove {l : Launch} {C : Ct} {mi : Nat} {a0 : Nat} {p1 : Int32} {p2 : Int32} {h h' : Hp} {v : Int32} (hf : f_M_remove a0 p1 p2 h = some (v, h')) : Mt l C mi m_M_remove 1 [vr (some a0), vi p1, vi p2] h (some (vi v)) h' := mt_I (ty := .int) rfl rfl rfl (by decide) (Nat.le_of_ble_eq_true rfl) (zf_M_remove hf)
-- VersionMapsModel.get(II)J
def m_M_get : Mi := (⟨"VersionMapsModel", "get", "(II)J"⟩, prog_11_method_16_code, 3, (Option.some Jvm.ClassFile.FieldType.long), .lreturn)
theorem cw_M_get : cw_ok m_M_get 2 := ⟨by decide +kernel, by decide +kernel, by decide +kernel, by decide +kernel⟩
theorem im_M_get : Cond.instanceMethod m_M_get.1 ∈ lw_w := by decide +kernel
theorem se_M_get : Cond.selects "VersionMapsModel" m_M_get.1 m_M_get.1 ∈ lw_w := by decide +kernel
theorem d_M_get_0 : decode prog_11_method_16_code 0 = .ok (.iload_n 1, 1) := by decide +kernel
theorem d_M_get_1 : decode prog_11_method_16_code 1 = .ok (.iconst 4, 1) := by decide +kernel
theorem d_M_get_2 : decode prog_11_method_16_code 2 = .ok (.invokestatic 125, 3) := by decide +kernel
theorem d_M_get_5 : decode prog_11_method_16_code 5 = .ok (.ifCond .eq 12, 3) := by decide +kernel
theorem d_M_get_8 : decode prog_11_method_16_code 8 = .ok (.iload_n 2, 1) := by decide +kernel
theorem d_M_get_9 : decode prog_11_method_16_code 9 = .ok (.bipush 32, 2) := by decide +kernel
theorem d_M_get_11 : decode prog_11_method_16_code 11 = .ok (.invokestatic 125, 3) := by decide +kernel
theorem d_M_get_14 : decode prog_11_method_16_code 14 = .ok (.ifCond .ne 7, 3) := by decide +kernel
theorem d_M_get_17 : decode prog_11_method_16_code 17 = .ok (.ldc2_w 129, 3) := by decide +kernel
theorem d_M_get_20 : decode prog_11_method_16_code 20 = .ok (.lreturn, 1) := by decide +kernel
theorem d_M_get_21 : decode prog_11_method_16_code 21 = .ok (.aload_n 0, 1) := by decide +kernel
theorem d_M_get_22 : decode prog_11_method_16_code 22 = .ok (.getfield 7, 3) := by decide +kernel
theorem d_M_get_25 : decode prog_11_method_16_code 25 = .ok (.bipush 32, 2) := by decide +kernel
theorem d_M_get_27 : decode prog_11_method_16_code 27 = .ok (.iload_n 1, 1) := by decide +kernel
theorem d_M_get_28 : decode prog_11_method_16_code 28 = .ok (.imul, 1) := by decide +kernel
theorem d_M_get_29 : decode prog_11_method_16_code 29 = .ok (.iload_n 2, 1) := by decide +kernel
theorem d_M_get_30 : decode prog_11_method_16_code 30 = .ok (.iadd, 1) := by decide +kernel
theorem d_M_get_31 : decode prog_11_method_16_code 31 = .ok (.baload, 1) := by decide +kernel
theorem d_M_get_32 : decode prog_11_method_16_code 32 = .ok (.ifCond .eq 18, 3) := by decide +kernel
theorem d_M_get_35 : decode prog_11_method_16_code 35 = .ok (.aload_n 0, 1) := by decide +kernel
theorem d_M_get_36 : decode prog_11_method_16_code 36 = .ok (.getfield 19, 3) := by decide +kernel
theorem d_M_get_39 : decode prog_11_method_16_code 39 = .ok (.bipush 32, 2) := by decide +kernel
theorem d_M_get_41 : decode prog_11_method_16_code 41 = .ok (.iload_n 1, 1) := by decide +kernel
theorem d_M_get_42 : decode prog_11_method_16_code 42 = .ok (.imul, 1) := by decide +kernel
theorem d_M_get_43 : decode prog_11_method_16_code 43 = .ok (.iload_n 2, 1) := by decide +kernel
theorem d_M_get_44 : decode prog_11_method_16_code 44 = .ok (.iadd, 1) := by decide +kernel
theorem d_M_get_45 : decode prog_11_method_16_code 45 = .ok (.iaload, 1) := by decide +kernel
theorem d_M_get_46 : decode prog_11_method_16_code 46 = .ok (.i2l, 1) := by decide +kernel
theorem d_M_get_47 : decode prog_11_method_16_code 47 = .ok (.goto 6, 3) := by decide +kernel
theorem d_M_get_50 : decode prog_11_method_16_code 50 = .ok (.ldc2_w 131, 3) := by decide +kernel
theorem d_M_get_53 : decode prog_11_method_16_code 53 = .ok (.lreturn, 1) := by decide +kernel
def W_M_get : Wl := ([], [])
def f_M_get (a0 : Nat) (p1 : Int32) (p2 : Int32) (h : Hp) : Option (Int64 × Hp) :=
  cl (f_M_in p1 (nI 4) h) fun v3 h1 => if v3 = 0 then (some ((2199023255552 : Int64), h1)) else (cl (f_M_in p2 (nI 32) h1) fun v8 h6 => if v8 = 0 then (some ((2199023255552 : Int64), h6)) else (gd (isK h6 a0 8) (dr (hpR h6 a0 0) fun a12 => gd (isK h6 a12 75) (gd (inb (((nI 32) * p1) + p2) (hpL h6 a12)) (if (hpI h6 a12 (((nI 32) * p1) + p2).toNatClampNeg) = 0 then (some ((1099511627776 : Int64), h6)) else (dr (hpR h6 a0 3) fun a17 => gd (isK h6 a17 78) (gd (inb (((nI 32) * p1) + p2) (hpL h6 a17)) (some ((hpI h6 a17 (((nI 32) * p1) + p2).toNatClampNeg).toInt64, h6)))))))))
set_option maxRecDepth 100000 in
set_option maxHeartbeats 4000000 in
theorem zf_M_get {l : Launch} {C : Ct} {mi : Nat} {a0 : Nat} {p1 : Int32} {p2 : Int32} {h h' : Hp} {v : Int64} (hf : f_M_get a0 p1 p2 h = some (v, h')) : Z l C mi m_M_get 1 0 [(0, vr (some a0)), (1, vi p1), (2, vi p2)] [] h (some (vl v)) h' := by
  unfold f_M_get at hf
  refine z_iload_n 1 d_M_get_0 rfl rfl ?_
  refine z_iconst (v := (nI 4)) d_M_get_1 (by decide) ?_
  obtain ⟨v3, h1, ec2, hf⟩ := cl_some hf
  refine z_callS (c_M_in ec2) d_M_get_2 cw_M_in lk_M_125 (by decide +kernel) ⟨by decide, by decide⟩ (Nat.le_of_ble_eq_true rfl) rfl ?_
  refine z_if_eq (tgt := 17) d_M_get_5 (by decide) (fun c5 => ?_) (fun c5 => ?_)
  · rw [if_pos c5] at hf
    refine z_ldc2 (v := (2199023255552 : Int64)) d_M_get_17 (by decide +kernel) ?_
    obtain ⟨rfl, rfl⟩ := Prod.mk.inj (Option.some.inj hf)
    exact z_ret d_M_get_20 rfl
  · rw [if_neg c5] at hf
    refine z_iload_n 2 d_M_get_8 rfl rfl ?_
    refine z_bipush (v := (nI 32)) d_M_get_9 (by decide) ?_
    obtain ⟨v8, h6, ec7, hf⟩ := cl_some hf
    refine z_callS (c_M_in ec7) d_M_get_11 cw_M_in lk_M_125 (by decide +kernel) ⟨by decide, by decide⟩ (Nat.le_of_ble_eq_true rfl) rfl ?_
    refine z_if_ne (tgt := 21) d_M_get_14 (by decide) (fun c10 => ?_) (fun c10 => ?_)
    · rw [if_neg c10] at hf
      refine z_aload_n 0 d_M_get_21 rfl rfl ?_
      obtain ⟨g11, hf⟩ := gd_some hf
      refine z_getR d_M_get_22 (fl_K (isK_eq g11) fl_M_7_8) (fi_K (isK_eq g11) rfl) rfl ?_
      refine z_bipush (v := (nI 32)) d_M_get_25 (by decide) ?_
      refine z_iload_n 1 d_M_get_27 rfl rfl ?_
      refine z_imul d_M_get_28 ?_
      refine z_iload_n 2 d_M_get_29 rfl rfl ?_
      refine z_iadd d_M_get_30 ?_
      obtain ⟨a12, e13, hf⟩ := dr_some hf
      obtain ⟨g14, hf⟩ := gd_some hf
      obtain ⟨g15, hf⟩ := gd_some hf
      refine z_zald d_M_get_31 e13 (by rw [isK_eq g14]; decide) (by rw [isK_eq g14]; rfl) (inb_vp g15) ?_
      refine z_if_eq (tgt := 50) d_M_get_32 (by decide) (fun c16 => ?_) (fun c16 => ?_)
      · rw [if_pos c16] at hf
        refine z_ldc2 (v := (1099511627776 : Int64)) d_M_get_50 (by decide +kernel) ?_
        obtain ⟨rfl, rfl⟩ := Prod.mk.inj (Option.some.inj hf)
        exact z_ret d_M_get_53 rfl
      · rw [if_neg c16] at hf
        refine z_aload_n 0 d_M_get_35 rfl rfl ?_
        refine z_getR d_M_get_36 (fl_K (isK_eq g11) fl_M_19_8) (fi_K (isK_eq g11) rfl) rfl ?_
        refine z_bipush (v := (nI 32)) d_M_get_39 (by decide) ?_
        refine z_iload_n 1 d_M_get_41 rfl rfl ?_
        refine z_imul d_M_get_42 ?_
        refine z_iload_n 2 d_M_get_43 rfl rfl ?_
        refine z_iadd d_M_get_44 ?_
        obtain ⟨a17, e18, hf⟩ := dr_some hf
        obtain ⟨g19, hf⟩ := gd_some hf
        obtain ⟨g20, hf⟩ := gd_some hf
        refine z_iald d_M_get_45 e18 (by rw [isK_eq g19]; decide) (by rw [isK_eq g19]; rfl) (inb_vp g20) ?_
        refine z_i2l d_M_get_46 ?_
        refine z_goto (tgt := 53) d_M_get_47 (by decide) ?_
        obtain ⟨rfl, rfl⟩ := Prod.mk.inj (Option.some.inj hf)
        exact z_ret d_M_get_53 rfl
    · rw [if_pos c10] at hf
      refine z_ldc2 (v := (2199023255552 : Int64)) d_M_get_17 (by decide +kernel) ?_
      obtain ⟨rfl, rfl⟩ := Prod.mk.inj (Option.some.inj hf)
      exact z_ret d_M_get_20 rfl
set_option maxRecDepth 100000 in
set_option maxHeartbeats 4000000 in
theorem fr_M_get {C : Ct} {mi : Nat} {a0 : Nat} {p1 : Int32} {p2 : Int32} {h h' : Hp} {v : Int64} (hf : f_M_get a0 p1 p2 h = some (v, h')) : Keep W_M_get h h' := by
  unfold f_M_get at hf
  obtain ⟨v3, h1, ec2, hf⟩ := cl_some hf
  have K4 := (Keep.refl W_M_get _).trans ((fr_M_in (C := C) (mi := mi) ec2).mono (by decide) (by decide))
  rcases Classical.em (v3 = 0) with c5 | c5
  · rw [if_pos c5] at hf
    obtain ⟨rfl, rfl⟩ := Prod.mk.inj (Option.some.inj hf)
    exact K4
  · rw [if_neg c5] at hf
    obtain ⟨v8, h6, ec7, hf⟩ := cl_some hf
    have K9 := K4.trans ((fr_M_in (C := C) (mi := mi) ec7).mono (by decide) (by decide))
    rcases (Classical.em (v8 = 0)).symm with c10 | c10
    · rw [if_neg c10] at hf
      obtain ⟨g11, hf⟩ := gd_some hf
      obtain ⟨a12, e13, hf⟩ := dr_some hf
      obtain ⟨g14, hf⟩ := gd_some hf
      obtain ⟨g15, hf⟩ := gd_some hf
      rcases Classical.em ((hpI h6 a12 (((nI 32) * p1) + p2).toNatClampNeg) = 0) with c16 | c16
      · rw [if_pos c16] at hf
        obtain ⟨rfl, rfl⟩ := Prod.mk.inj (Option.some.inj hf)
        exact K9
      · rw [if_neg c16] at hf
        obtain ⟨a17, e18, hf⟩ := dr_some hf
        obtain ⟨g19, hf⟩ := gd_some hf
        obtain ⟨g20, hf⟩ := gd_some hf
        obtain ⟨rfl, rfl⟩ := Prod.mk.inj (Option.some.inj hf)
        exact K9
    · rw [if_pos c10] at hf
      obtain ⟨rfl, rfl⟩ := Prod.mk.inj (Option.some.inj hf)
      exact K9
theorem c_M_get {l : Launch} {C : Ct} {mi : Nat} {a0 : Nat} {p1 : Int32} {p2 : Int32} {h h' : Hp} {v : Int64} (hf : f_M_get a0 p1 p2 h = some (v, h')) : Mt l C mi m_M_get 1 [vr (some a0), vi p1, vi p2] h (some (vl v)) h' := mt_L rfl rfl (by decide) (Nat.le_of_ble_eq_true rfl) (zf_M_get hf)
-- VersionMapsModel.find(I)I
def m_M_find : Mi := (⟨"VersionMapsModel", "find", "(I)I"⟩, prog_11_method_11_code, 3, (Option.some Jvm.ClassFile.FieldType.int), .ireturn)
theorem cw_M_find : cw_ok m_M_find 1 := ⟨by decide +kernel, by decide +kernel, by decide +kernel, by decide +kernel⟩
theorem im_M_find : Cond.instanceMethod m_M_find.1 ∈ lw_w := by decide +kernel
theorem se_M_find : Cond.selects "VersionMapsModel" m_M_find.1 m_M_find.1 ∈ lw_w := by decide +kernel
theorem d_M_find_0 : decode prog_11_method_11_code 0 = .ok (.iconst 0, 1) := by decide +kernel
theorem d_M_find_1 : decode prog_11_method_11_code 1 = .ok (.istore_n 2, 1) := by decide +kernel
theorem d_M_find_2 : decode prog_11_method_11_code 2 = .ok (.iload_n 2, 1) := by decide +kernel
theorem d_M_find_3 : decode prog_11_method_11_code 3 = .ok (.aload_n 0, 1) := by decide +kernel
theorem d_M_find_4 : decode prog_11_method_11_code 4 = .ok (.getfield 96, 3) := by decide +kernel
theorem d_M_find_7 : decode prog_11_method_11_code 7 = .ok (.if_icmp .ge 21, 3) := by decide +kernel
theorem d_M_find_10 : decode prog_11_method_11_code 10 = .ok (.aload_n 0, 1) := by decide +kernel
theorem d_M_find_11 : decode prog_11_method_11_code 11 = .ok (.getfield 87, 3) := by decide +kernel
theorem d_M_find_14 : decode prog_11_method_11_code 14 = .ok (.iload_n 2, 1) := by decide +kernel
theorem d_M_find_15 : decode prog_11_method_11_code 15 = .ok (.iaload, 1) := by decide +kernel
theorem d_M_find_16 : decode prog_11_method_11_code 16 = .ok (.iload_n 1, 1) := by decide +kernel
theorem d_M_find_17 : decode prog_11_method_11_code 17 = .ok (.if_icmp .ne 5, 3) := by decide +kernel
theorem d_M_find_20 : decode prog_11_method_11_code 20 = .ok (.iload_n 2, 1) := by decide +kernel
theorem d_M_find_21 : decode prog_11_method_11_code 21 = .ok (.ireturn, 1) := by decide +kernel
theorem d_M_find_22 : decode prog_11_method_11_code 22 = .ok (.iinc 2 1, 3) := by decide +kernel
theorem d_M_find_25 : decode prog_11_method_11_code 25 = .ok (.goto (-23), 3) := by decide +kernel
theorem d_M_find_28 : decode prog_11_method_11_code 28 = .ok (.iconst (-1), 1) := by decide +kernel
theorem d_M_find_29 : decode prog_11_method_11_code 29 = .ok (.ireturn, 1) := by decide +kernel
def W_M_find : Wl := ([], [])
def b_M_find_2 (y0 : Nat) (y1 : Int32) (y2 : Int32) (h : Hp) : Option ((Int32 × Hp) ⊕ ((Hp) ⊕ (Int32 × Hp))) :=
  gd (isK h y0 8) (if (hpI h y0 30) ≤ y2 then (some (.inr (.inl h))) else (dr (hpR h y0 27) fun a3 => gd (isK h a3 99) (gd (inb y2 (hpL h a3)) (if (hpI h a3 y2.toNatClampNeg) = y1 then (some (.inr (.inr (y2, h)))) else (some (.inl ((y2 + (1 : Int32)), h)))))))
set_option maxRecDepth 100000 in
set_option maxHeartbeats 4000000 in
theorem zb_M_find_2 {l : Launch} {C : Ct} {mi : Nat} {y0 : Nat} {y1 : Int32} {y2 : Int32} {h h' : Hp} {v : Int32} {q : ((Int32 × Hp) ⊕ ((Hp) ⊕ (Int32 × Hp)))} (hf : b_M_find_2 y0 y1 y2 h = some q) (kc : ∀ s, q = .inl s → Z l C mi m_M_find 0 2 [(0, vr (some y0)), (1, vi y1), (2, vi s.1)] [] s.2 (some (vi v)) h') (ke : ∀ x, q = .inr (.inl x) → Z l C mi m_M_find 0 28 [] [] x (some (vi v)) h') (kr : ∀ rv rh, q = .inr (.inr (rv, rh)) → v = rv ∧ h' = rh) : Z l C mi m_M_find 0 2 [(0, vr (some y0)), (1, vi y1), (2, vi y2)] [] h (some (vi v)) h' := by
  unfold b_M_find_2 at hf
  refine z_iload_n 2 d_M_find_2 rfl rfl ?_
  refine z_aload_n 0 d_M_find_3 rfl rfl ?_
  obtain ⟨g1, hf⟩ := gd_some hf
  refine z_getI d_M_find_4 (fl_K (isK_eq g1) fl_M_96_8) (fi_K (isK_eq g1) rfl) rfl ?_
  refine z_icmp_ge (tgt := 28) d_M_find_7 (by decide) (fun c2 => ?_) (fun c2 => ?_)
  · rw [if_pos c2] at hf
    refine z_ls [] rfl ?_
    exact ke h (Option.some.inj hf).symm
  · rw [if_neg c2] at hf
    refine z_aload_n 0 d_M_find_10 rfl rfl ?_
    refine z_getR d_M_find_11 (fl_K (isK_eq g1) fl_M_87_8) (fi_K (isK_eq g1) rfl) rfl ?_
    refine z_iload_n 2 d_M_find_14 rfl rfl ?_
    obtain ⟨a3, e4, hf⟩ := dr_some hf
    obtain ⟨g5, hf⟩ := gd_some hf
    obtain ⟨g6, hf⟩ := gd_some hf
    refine z_iald d_M_find_15 e4 (by rw [isK_eq g5]; decide) (by rw [isK_eq g5]; rfl) (inb_vp g6) ?_
    refine z_iload_n 1 d_M_find_16 rfl rfl ?_
    refine z_icmp_ne (tgt := 22) d_M_find_17 (by decide) (fun c7 => ?_) (fun c7 => ?_)
    · rw [if_neg c7] at hf
      refine z_iinc (ls2 := [(2, vi (y2 + (1 : Int32))), (0, vr (some y0)), (1, vi y1)]) 2 d_M_find_22 rfl rfl (by decide) rfl ?_
      refine z_goto (tgt := 2) d_M_find_25 (by decide) ?_
      refine z_ls [1, 2, 0] rfl ?_
      exact kc ((y2 + (1 : Int32)), h) (Option.some.inj hf).symm
    · rw [if_pos c7] at hf
      refine z_iload_n 2 d_M_find_20 rfl rfl ?_
      obtain ⟨rfl, rfl⟩ := kr _ _ (Option.some.inj hf).symm
      exact z_ret d_M_find_21 rfl
set_option maxRecDepth 100000 in
set_option maxHeartbeats 4000000 in
theorem kb_M_find_2 {C : Ct} {mi : Nat} {y0 : Nat} {y1 : Int32} {y2 : Int32} {h : Hp} {q : ((Int32 × Hp) ⊕ ((Hp) ⊕ (Int32 × Hp)))} (hf : b_M_find_2 y0 y1 y2 h = some q) : Keep W_M_find h (Sum.elim (fun s : Int32 × Hp => s.2) (Sum.elim (fun x : Hp => x) (fun r : (Int32 × Hp) => r.2)) q) := by
  unfold b_M_find_2 at hf
  obtain ⟨g1, hf⟩ := gd_some hf
  rcases Classical.em ((hpI h y0 30) ≤ y2) with c2 | c2
  · rw [if_pos c2] at hf
    cases (Option.some.inj hf)
    exact (Keep.refl W_M_find _)
  · rw [if_neg c2] at hf
    obtain ⟨a3, e4, hf⟩ := dr_some hf
    obtain ⟨g5, hf⟩ := gd_some hf
    obtain ⟨g6, hf⟩ := gd_some hf
    rcases (Classical.em ((hpI h a3 y2.toNatClampNeg) = y1)).symm with c7 | c7
    · rw [if_neg c7] at hf
      cases (Option.some.inj hf)
      exact (Keep.refl W_M_find _)
    · rw [if_pos c7] at hf
      cases (Option.some.inj hf)
      exact (Keep.refl W_M_find _)
def l_M_find_2 (y0 : Nat) (y1 : Int32) (s : Int32 × Hp) : Option ((Hp) ⊕ (Int32 × Hp)) := lp (fun s => b_M_find_2 y0 y1 s.1 s.2) FU s
theorem zzl_M_find_2 {l : Launch} {C : Ct} {mi : Nat} {y0 : Nat} {y1 : Int32} {h' : Hp} {v : Int32} : ∀ (n : Nat) (s : Int32 × Hp) (q : ((Hp) ⊕ (Int32 × Hp))), lp (fun s : Int32 × Hp => b_M_find_2 y0 y1 s.1 s.2) n s = some q → (∀ x, q = .inl x → Z l C mi m_M_find 0 28 [] [] x (some (vi v)) h') → (∀ rv rh, q = .inr (rv, rh) → v = rv ∧ h' = rh) → Z l C mi m_M_find 0 2 [(0, vr (some y0)), (1, vi y1), (2, vi s.1)] [] s.2 (some (vi v)) h' := by
  intro n
  induction n with
  | zero => intro s q hl; cases hl
  | succ n ih =>
    intro s q hl ke kr
    rcases lp_some hl with ⟨s2, hb, hl2⟩ | hb
    · exact zb_M_find_2 hb (fun s3 e3 => by cases e3; refine z_ls [0, 1, 2] rfl ?_; exact ih s2 q hl2 ke kr) (fun x e3 => by cases e3) (fun rv rh e3 => by cases e3)
    · exact zb_M_find_2 hb (fun s3 e3 => by cases e3) (fun x e3 => ke x (Sum.inr.inj e3)) (fun rv rh e3 => kr rv rh (Sum.inr.inj e3))
theorem zl_M_find_2 {l : Launch} {C : Ct} {mi : Nat} {y0 : Nat} {y1 : Int32} {h' : Hp} {v : Int32} {s : Int32 × Hp} {q : ((Hp) ⊕ (Int32 × Hp))} (hl : l_M_find_2 y0 y1 s = some q) (ke : ∀ x, q = .inl x → Z l C mi m_M_find 0 28 [] [] x (some (vi v)) h') (kr : ∀ rv rh, q = .inr (rv, rh) → v = rv ∧ h' = rh) : Z l C mi m_M_find 0 2 [(0, vr (some y0)), (1, vi y1), (2, vi s.1)] [] s.2 (some (vi v)) h' := zzl_M_find_2 FU s q hl ke kr
theorem kl_M_find_2 {C : Ct} {mi : Nat} {y0 : Nat} {y1 : Int32} {s : Int32 × Hp} {q : ((Hp) ⊕ (Int32 × Hp))} (hl : l_M_find_2 y0 y1 s = some q) : Keep W_M_find s.2 ((Sum.elim (fun x : Hp => x) (fun r : (Int32 × Hp) => r.2)) q) := lpk (sh := (fun s : Int32 × Hp => s.2)) (rh := (Sum.elim (fun x : Hp => x) (fun r : (Int32 × Hp) => r.2))) (fun s q hb => kb_M_find_2 (C := C) (mi := mi) hb) FU s q hl
def f_M_find (a0 : Nat) (p1 : Int32) (h : Hp) : Option (Int32 × Hp) :=
  lk (l_M_find_2 a0 p1 ((0 : Int32), h)) (fun x8 => some ((-1 : Int32), x8)) some
set_option maxRecDepth 100000 in
set_option maxHeartbeats 4000000 in
theorem zf_M_find {l : Launch} {C : Ct} {mi : Nat} {a0 : Nat} {p1 : Int32} {h h' : Hp} {v : Int32} (hf : f_M_find a0 p1 h = some (v, h')) : Z l C mi m_M_find 0 0 [(0, vr (some a0)), (1, vi p1)] [] h (some (vi v)) h' := by
  unfold f_M_find at hf
  refine z_iconst (v := (0 : Int32)) d_M_find_0 (by decide) ?_
  refine z_istore_n (ls2 := [(2, vi (0 : Int32)), (0, vr (some a0)), (1, vi p1)]) d_M_find_1 rfl (by decide) rfl ?_
  rcases lk_some hf with ⟨x8, el9, hf⟩ | ⟨x8r, el9, hf⟩
  · skip
    refine z_ls [1, 2, 0] rfl ?_
    refine zl_M_find_2 el9 (fun x2 e2 => ?_) (fun rv rh e2 => by cases e2)
    cases e2
    refine z_iconst (v := (-1 : Int32)) d_M_find_28 (by decide) ?_
    obtain ⟨rfl, rfl⟩ := Prod.mk.inj (Option.some.inj hf)
    exact z_ret d_M_find_29 rfl
  · skip
    refine z_ls [1, 2, 0] rfl ?_
    refine zl_M_find_2 el9 (fun x2 e2 => by cases e2) (fun rv rh e2 => ?_)
    cases e2
    have e4 := Prod.mk.inj (Option.some.inj hf)
    exact ⟨e4.1.symm, e4.2.symm⟩
set_option maxRecDepth 100000 in
set_option maxHeartbeats 4000000 in
theorem fr_M_find {C : Ct} {mi : Nat} {a0 : Nat} {p1 : Int32} {h h' : Hp} {v : Int32} (hf : f_M_find a0 p1 h = some (v, h')) : Keep W_M_find h h' := by
  unfold f_M_find at hf
  rcases lk_some hf with ⟨x8, el9, hf⟩ | ⟨x8r, el9, hf⟩
  · skip
    have K10 := (Keep.refl W_M_find _).trans (kl_M_find_2 (C := C) (mi := mi) el9)
    obtain ⟨rfl, rfl⟩ := Prod.mk.inj (Option.some.inj hf)
    exact K10
  · skip
    have K11 := (Keep.refl W_M_find _).trans (kl_M_find_2 (C := C) (mi := mi) el9)
    cases (Option.some.inj hf)
    exact K11
theorem c_M_find {l : Launch} {C : Ct} {mi : Nat} {a0 : Nat} {p1 : Int32} {h h' : Hp} {v : Int32} (hf : f_M_find a0 p1 h = some (v, h')) : Mt l C mi m_M_find 0 [vr (some a0), vi p1] h (some (vi v)) h' := mt_I (ty := .int) rfl rfl rfl (by decide) (Nat.le_of_ble_eq_true rfl) (zf_M_find hf)
-- VersionMapsModel.page(I)I
def m_M_page : Mi := (⟨"VersionMapsModel", "page", "(I)I"⟩, prog_11_method_3_code, 3, (Option.some Jvm.ClassFile.FieldType.int), .ireturn)
theorem cw_M_page : cw_ok m_M_page 1 := ⟨by decide +kernel, by decide +kernel, by decide +kernel, by decide +kernel⟩
theorem im_M_page : Cond.instanceMethod m_M_page.1 ∈ lw_w := by decide +kernel
theorem se_M_page : Cond.selects "VersionMapsModel" m_M_page.1 m_M_page.1 ∈ lw_w := by decide +kernel
theorem d_M_page_0 : decode prog_11_method_3_code 0 = .ok (.iconst 0, 1) := by decide +kernel
theorem d_M_page_1 : decode prog_11_method_3_code 1 = .ok (.istore_n 2, 1) := by decide +kernel
theorem d_M_page_2 : decode prog_11_method_3_code 2 = .ok (.iload_n 2, 1) := by decide +kernel
theorem d_M_page_3 : decode prog_11_method_3_code 3 = .ok (.sipush 160, 3) := by decide +kernel
theorem d_M_page_6 : decode prog_11_method_3_code 6 = .ok (.if_icmp .ge 41, 3) := by decide +kernel
theorem d_M_page_9 : decode prog_11_method_3_code 9 = .ok (.iload_n 1, 1) := by decide +kernel
theorem d_M_page_10 : decode prog_11_method_3_code 10 = .ok (.ifCond .le 37, 3) := by decide +kernel
theorem d_M_page_13 : decode prog_11_method_3_code 13 = .ok (.aload_n 0, 1) := by decide +kernel
theorem d_M_page_14 : decode prog_11_method_3_code 14 = .ok (.getfield 23, 3) := by decide +kernel
theorem d_M_page_17 : decode prog_11_method_3_code 17 = .ok (.iload_n 2, 1) := by decide +kernel
theorem d_M_page_18 : decode prog_11_method_3_code 18 = .ok (.iaload, 1) := by decide +kernel
theorem d_M_page_19 : decode prog_11_method_3_code 19 = .ok (.iload_n 1, 1) := by decide +kernel
theorem d_M_page_20 : decode prog_11_method_3_code 20 = .ok (.bipush 32, 2) := by decide +kernel
theorem d_M_page_22 : decode prog_11_method_3_code 22 = .ok (.idiv, 1) := by decide +kernel
theorem d_M_page_23 : decode prog_11_method_3_code 23 = .ok (.if_icmp .ne 18, 3) := by decide +kernel
theorem d_M_page_26 : decode prog_11_method_3_code 26 = .ok (.aload_n 0, 1) := by decide +kernel
theorem d_M_page_27 : decode prog_11_method_3_code 27 = .ok (.getfield 26, 3) := by decide +kernel
theorem d_M_page_30 : decode prog_11_method_3_code 30 = .ok (.iload_n 2, 1) := by decide +kernel
theorem d_M_page_31 : decode prog_11_method_3_code 31 = .ok (.iaload, 1) := by decide +kernel
theorem d_M_page_32 : decode prog_11_method_3_code 32 = .ok (.iload_n 1, 1) := by decide +kernel
theorem d_M_page_33 : decode prog_11_method_3_code 33 = .ok (.bipush 32, 2) := by decide +kernel
theorem d_M_page_35 : decode prog_11_method_3_code 35 = .ok (.irem, 1) := by decide +kernel
theorem d_M_page_36 : decode prog_11_method_3_code 36 = .ok (.if_icmp .ne 5, 3) := by decide +kernel
theorem d_M_page_39 : decode prog_11_method_3_code 39 = .ok (.iload_n 2, 1) := by decide +kernel
theorem d_M_page_40 : decode prog_11_method_3_code 40 = .ok (.ireturn, 1) := by decide +kernel
theorem d_M_page_41 : decode prog_11_method_3_code 41 = .ok (.iinc 2 1, 3) := by decide +kernel
theorem d_M_page_44 : decode prog_11_method_3_code 44 = .ok (.goto (-42), 3) := by decide +kernel
theorem d_M_page_47 : decode prog_11_method_3_code 47 = .ok (.iconst (-1), 1) := by decide +kernel
theorem d_M_page_48 : decode prog_11_method_3_code 48 = .ok (.ireturn, 1) := by decide +kernel
def W_M_page : Wl := ([], [])
def b_M_page_2 (y0 : Nat) (y1 : Int32) (y2 : Int32) (h : Hp) : Option ((Int32 × Hp) ⊕ ((Hp) ⊕ (Int32 × Hp))) :=
  if (nI 160) ≤ y2 then (some (.inr (.inl h))) else (if y1 ≤ 0 then (some (.inr (.inl h))) else (gd (isK h y0 8) (dr (hpR h y0 4) fun a4 => gd (isK h a4 79) (gd (inb y2 (hpL h a4)) (if (hpI h a4 y2.toNatClampNeg) = (y1 / (nI 32)) then (dr (hpR h y0 5) fun a9 => gd (isK h a9 80) (gd (inb y2 (hpL h a9)) (if (hpI h a9 y2.toNatClampNeg) = (y1 - y1 / (nI 32) * (nI 32)) then (some (.inr (.inr (y2, h)))) else (some (.inl ((y2 + (1 : Int32)), h)))))) else (some (.inl ((y2 + (1 : Int32)), h))))))))
set_option maxRecDepth 100000 in
set_option maxHeartbeats 4000000 in
theorem zb_M_page_2 {l : Launch} {C : Ct} {mi : Nat} {y0 : Nat} {y1 : Int32} {y2 : Int32} {h h' : Hp} {v : Int32} {q : ((Int32 × Hp) ⊕ ((Hp) ⊕ (Int32 × Hp)))} (hf : b_M_page_2 y0 y1 y2 h = some q) (kc : ∀ s, q = .inl s → Z l C mi m_M_page 0 2 [(0, vr (some y0)), (1, vi y1), (2, vi s.1)] [] s.2 (some (vi v)) h') (ke : ∀ x, q = .inr (.inl x) → Z l C mi m_M_page 0 47 [] [] x (some (vi v)) h') (kr : ∀ rv rh, q = .inr (.inr (rv, rh)) → v = rv ∧ h' = rh) : Z l C mi m_M_page 0 2 [(0, vr (some y0)), (1, vi y1), (2, vi y2)] [] h (some (vi v)) h' := by
  unfold b_M_page_2 at hf
  refine z_iload_n 2 d_M_page_2 rfl rfl ?_
  refine z_sipush (v := (nI 160)) d_M_page_3 (by decide) ?_
  refine z_icmp_ge (tgt := 47) d_M_page_6 (by decide) (fun c1 => ?_) (fun c1 => ?_)
  · rw [if_pos c1] at hf
    refine z_ls [] rfl ?_
    exact ke h (Option.some.inj hf).symm
  · rw [if_neg c1] at hf
    refine z_iload_n 1 d_M_page_9 rfl rfl ?_
    refine z_if_le (tgt := 47) d_M_page_10 (by decide) (fun c2 => ?_) (fun c2 => ?_)
    · rw [if_pos c2] at hf
      refine z_ls [] rfl ?_
      exact ke h (Option.some.inj hf).symm
    · rw [if_neg c2] at hf
      refine z_aload_n 0 d_M_page_13 rfl rfl ?_
      obtain ⟨g3, hf⟩ := gd_some hf
      refine z_getR d_M_page_14 (fl_K (isK_eq g3) fl_M_23_8) (fi_K (isK_eq g3) rfl) rfl ?_
      refine z_iload_n 2 d_M_page_17 rfl rfl ?_
      obtain ⟨a4, e5, hf⟩ := dr_some hf
      obtain ⟨g6, hf⟩ := gd_some hf
      obtain ⟨g7, hf⟩ := gd_some hf
      refine z_iald d_M_page_18 e5 (by rw [isK_eq g6]; decide) (by rw [isK_eq g6]; rfl) (inb_vp g7) ?_
      refine z_iload_n 1 d_M_page_19 rfl rfl ?_
      refine z_bipush (v := (nI 32)) d_M_page_20 (by decide) ?_
      refine z_idiv d_M_page_22 (by decide) ?_
      refine z_icmp_ne (tgt := 41) d_M_page_23 (by decide) (fun c8 => ?_) (fun c8 => ?_)
      · rw [if_neg c8] at hf
        refine z_iinc (ls2 := [(2, vi (y2 + (1 : Int32))), (0, vr (some y0)), (1, vi y1)]) 2 d_M_page_41 rfl rfl (by decide) rfl ?_
        refine z_goto (tgt := 2) d_M_page_44 (by decide) ?_
        refine z_ls [1, 2, 0] rfl ?_
        exact kc ((y2 + (1 : Int32)), h) (Option.some.inj hf).symm
      · rw [if_pos c8] at hf
        refine z_aload_n 0 d_M_page_26 rfl rfl ?_
        refine z_getR d_M_page_27 (fl_K (isK_eq g3) fl_M_26_8) (fi_K (isK_eq g3) rfl) rfl ?_
        refine z_iload_n 2 d_M_page_30 rfl rfl ?_
        obtain ⟨a9, e10, hf⟩ := dr_some hf
        obtain ⟨g11, hf⟩ := gd_some hf
        obtain ⟨g12, hf⟩ := gd_some hf
        refine z_iald d_M_page_31 e10 (by rw [isK_eq g11]; decide) (by rw [isK_eq g11]; rfl) (inb_vp g12) ?_
        refine z_iload_n 1 d_M_page_32 rfl rfl ?_
        refine z_bipush (v := (nI 32)) d_M_page_33 (by decide) ?_
        refine z_irem d_M_page_35 (by decide) ?_
        refine z_icmp_ne (tgt := 41) d_M_page_36 (by decide) (fun c13 => ?_) (fun c13 => ?_)
        · rw [if_neg c13] at hf
          refine z_iinc (ls2 := [(2, vi (y2 + (1 : Int32))), (0, vr (some y0)), (1, vi y1)]) 2 d_M_page_41 rfl rfl (by decide) rfl ?_
          refine z_goto (tgt := 2) d_M_page_44 (by decide) ?_
          refine z_ls [1, 2, 0] rfl ?_
          exact kc ((y2 + (1 : Int32)), h) (Option.some.inj hf).symm
        · rw [if_pos c13] at hf
          refine z_iload_n 2 d_M_page_39 rfl rfl ?_
          obtain ⟨rfl, rfl⟩ := kr _ _ (Option.some.inj hf).symm
          exact z_ret d_M_page_40 rfl
set_option maxRecDepth 100000 in
set_option maxHeartbeats 4000000 in
theorem kb_M_page_2 {C : Ct} {mi : Nat} {y0 : Nat} {y1 : Int32} {y2 : Int32} {h : Hp} {q : ((Int32 × Hp) ⊕ ((Hp) ⊕ (Int32 × Hp)))} (hf : b_M_page_2 y0 y1 y2 h = some q) : Keep W_M_page h (Sum.elim (fun s : Int32 × Hp => s.2) (Sum.elim (fun x : Hp => x) (fun r : (Int32 × Hp) => r.2)) q) := by
  unfold b_M_page_2 at hf
  rcases Classical.em ((nI 160) ≤ y2) with c1 | c1
  · rw [if_pos c1] at hf
    cases (Option.some.inj hf)
    exact (Keep.refl W_M_page _)
  · rw [if_neg c1] at hf
    rcases Classical.em (y1 ≤ 0) with c2 | c2
    · rw [if_pos c2] at hf
      cases (Option.some.inj hf)
      exact (Keep.refl W_M_page _)
    · rw [if_neg c2] at hf
      obtain ⟨g3, hf⟩ := gd_some hf
      obtain ⟨a4, e5, hf⟩ := dr_some hf
      obtain ⟨g6, hf⟩ := gd_some hf
      obtain ⟨g7, hf⟩ := gd_some hf
      rcases (Classical.em ((hpI h a4 y2.toNatClampNeg) = (y1 / (nI 32)))).symm with c8 | c8
      · rw [if_neg c8] at hf
        cases (Option.some.inj hf)
        exact (Keep.refl W_M_page _)
      · rw [if_pos c8] at hf
        obtain ⟨a9, e10, hf⟩ := dr_some hf
        obtain ⟨g11, hf⟩ := gd_some hf
        obtain ⟨g12, hf⟩ := gd_some hf
        rcases (Classical.em ((hpI h a9 y2.toNatClampNeg) = (y1 - y1 / (nI 32) * (nI 32)))).symm with c13 | c13
        · rw [if_neg c13] at hf
          cases (Option.some.inj hf)
          exact (Keep.refl W_M_page _)
        · rw [if_pos c13] at hf
          cases (Option.some.inj hf)
          exact (Keep.refl W_M_page _)
def l_M_page_2 (y0 : Nat) (y1 : Int32) (s : Int32 × Hp) : Option ((Hp) ⊕ (Int32 × Hp)) := lp (fun s => b_M_page_2 y0 y1 s.1 s.2) FU s
theorem zzl_M_page_2 {l : Launch} {C : Ct} {mi : Nat} {y0 : Nat} {y1 : Int32} {h' : Hp} {v : Int32} : ∀ (n : Nat) (s : Int32 × Hp) (q : ((Hp) ⊕ (Int32 × Hp))), lp (fun s : Int32 × Hp => b_M_page_2 y0 y1 s.1 s.2) n s = some q → (∀ x, q = .inl x → Z l C mi m_M_page 0 47 [] [] x (some (vi v)) h') → (∀ rv rh, q = .inr (rv, rh) → v = rv ∧ h' = rh) → Z l C mi m_M_page 0 2 [(0, vr (some y0)), (1, vi y1), (2, vi s.1)] [] s.2 (some (vi v)) h' := by
  intro n
  induction n with
  | zero => intro s q hl; cases hl
  | succ n ih =>
    intro s q hl ke kr
    rcases lp_some hl with ⟨s2, hb, hl2⟩ | hb
    · exact zb_M_page_2 hb (fun s3 e3 => by cases e3; refine z_ls [0, 1, 2] rfl ?_; exact ih s2 q hl2 ke kr) (fun x e3 => by cases e3) (fun rv rh e3 => by cases e3)
    · exact zb_M_page_2 hb (fun s3 e3 => by cases e3) (fun x e3 => ke x (Sum.inr.inj e3)) (fun rv rh e3 => kr rv rh (Sum.inr.inj e3))
theorem zl_M_page_2 {l : Launch} {C : Ct} {mi : Nat} {y0 : Nat} {y1 : Int32} {h' : Hp} {v : Int32} {s : Int32 × Hp} {q : ((Hp) ⊕ (Int32 × Hp))} (hl : l_M_page_2 y0 y1 s = some q) (ke : ∀ x, q = .inl x → Z l C mi m_M_page 0 47 [] [] x (some (vi v)) h') (kr : ∀ rv rh, q = .inr (rv, rh) → v = rv ∧ h' = rh) : Z l C mi m_M_page 0 2 [(0, vr (some y0)), (1, vi y1), (2, vi s.1)] [] s.2 (some (vi v)) h' := zzl_M_page_2 FU s q hl ke kr
theorem kl_M_page_2 {C : Ct} {mi : Nat} {y0 : Nat} {y1 : Int32} {s : Int32 × Hp} {q : ((Hp) ⊕ (Int32 × Hp))} (hl : l_M_page_2 y0 y1 s = some q) : Keep W_M_page s.2 ((Sum.elim (fun x : Hp => x) (fun r : (Int32 × Hp) => r.2)) q) := lpk (sh := (fun s : Int32 × Hp => s.2)) (rh := (Sum.elim (fun x : Hp => x) (fun r : (Int32 × Hp) => r.2))) (fun s q hb => kb_M_page_2 (C := C) (mi := mi) hb) FU s q hl
def f_M_page (a0 : Nat) (p1 : Int32) (h : Hp) : Option (Int32 × Hp) :=
  lk (l_M_page_2 a0 p1 ((0 : Int32), h)) (fun x14 => some ((-1 : Int32), x14)) some
set_option maxRecDepth 100000 in
set_option maxHeartbeats 4000000 in
theorem zf_M_page {l : Launch} {C : Ct} {mi : Nat} {a0 : Nat} {p1 : Int32} {h h' : Hp} {v : Int32} (hf : f_M_page a0 p1 h = some (v, h')) : Z l C mi m_M_page 0 0 [(0, vr (some a0)), (1, vi p1)] [] h (some (vi v)) h' := by
  unfold f_M_page at hf
  refine z_iconst (v := (0 : Int32)) d_M_page_0 (by decide) ?_
  refine z_istore_n (ls2 := [(2, vi (0 : Int32)), (0, vr (some a0)), (1, vi p1)]) d_M_page_1 rfl (by decide) rfl ?_
  rcases lk_some hf with ⟨x14, el15, hf⟩ | ⟨x14r, el15, hf⟩
  · skip
    refine z_ls [1, 2, 0] rfl ?_
    refine zl_M_page_2 el15 (fun x2 e2 => ?_) (fun rv rh e2 => by cases e2)
    cases e2
    refine z_iconst (v := (-1 : Int32)) d_M_page_47 (by decide) ?_
    obtain ⟨rfl, rfl⟩ := Prod.mk.inj (Option.some.inj hf)
    exact z_ret d_M_page_48 rfl
  · skip
    refine z_ls [1, 2, 0] rfl ?_
    refine zl_M_page_2 el15 (fun x2 e2 => by cases e2) (fun rv rh e2 => ?_)
    cases e2
    have e4 := Prod.mk.inj (Option.some.inj hf)
    exact ⟨e4.1.symm, e4.2.symm⟩
set_option maxRecDepth 100000 in
set_option maxHeartbeats 4000000 in
theorem fr_M_page {C : Ct} {mi : Nat} {a0 : Nat} {p1 : Int32} {h h' : Hp} {v : Int32} (hf : f_M_page a0 p1 h = some (v, h')) : Keep W_M_page h h' := by
  unfold f_M_page at hf
  rcases lk_some hf with ⟨x14, el15, hf⟩ | ⟨x14r, el15, hf⟩
  · skip
    have K16 := (Keep.refl W_M_page _).trans (kl_M_page_2 (C := C) (mi := mi) el15)
    obtain ⟨rfl, rfl⟩ := Prod.mk.inj (Option.some.inj hf)
    exact K16
  · skip
    have K17 := (Keep.refl W_M_page _).trans (kl_M_page_2 (C := C) (mi := mi) el15)
    cases (Option.some.inj hf)
    exact K17
theorem c_M_page {l : Launch} {C : Ct} {mi : Nat} {a0 : Nat} {p1 : Int32} {h h' : Hp} {v : Int32} (hf : f_M_page a0 p1 h = some (v, h')) : Mt l C mi m_M_page 0 [vr (some a0), vi p1] h (some (vi v)) h' := mt_I (ty := .int) rfl rfl rfl (by decide) (Nat.le_of_ble_eq_true rfl) (zf_M_page hf)
-- VersionMapsModel.read(III)J
def m_M_read : Mi := (⟨"VersionMapsModel", "read", "(III)J"⟩, prog_11_method_17_code, 7, (Option.some Jvm.ClassFile.FieldType.long), .lreturn)
theorem cw_M_read : cw_ok m_M_read 3 := ⟨by decide +kernel, by decide +kernel, by decide +kernel, by decide +kernel⟩
theorem im_M_read : Cond.instanceMethod m_M_read.1 ∈ lw_w := by decide +kernel
theorem se_M_read : Cond.selects "VersionMapsModel" m_M_read.1 m_M_read.1 ∈ lw_w := by decide +kernel
theorem d_M_read_0 : decode prog_11_method_17_code 0 = .ok (.aload_n 0, 1) := by decide +kernel
theorem d_M_read_1 : decode prog_11_method_17_code 1 = .ok (.iload_n 1, 1) := by decide +kernel
theorem d_M_read_2 : decode prog_11_method_17_code 2 = .ok (.invokevirtual 108, 3) := by decide +kernel
theorem d_M_read_5 : decode prog_11_method_17_code 5 = .ok (.istore 4, 2) := by decide +kernel
theorem d_M_read_7 : decode prog_11_method_17_code 7 = .ok (.iload 4, 2) := by decide +kernel
theorem d_M_read_9 : decode prog_11_method_17_code 9 = .ok (.ifCond .ge 7, 3) := by decide +kernel
theorem d_M_read_12 : decode prog_11_method_17_code 12 = .ok (.iconst (-1), 1) := by decide +kernel
theorem d_M_read_13 : decode prog_11_method_17_code 13 = .ok (.goto 18, 3) := by decide +kernel
theorem d_M_read_16 : decode prog_11_method_17_code 16 = .ok (.aload_n 0, 1) := by decide +kernel
theorem d_M_read_17 : decode prog_11_method_17_code 17 = .ok (.aload_n 0, 1) := by decide +kernel
theorem d_M_read_18 : decode prog_11_method_17_code 18 = .ok (.getfield 44, 3) := by decide +kernel
theorem d_M_read_21 : decode prog_11_method_17_code 21 = .ok (.iconst 4, 1) := by decide +kernel
theorem d_M_read_22 : decode prog_11_method_17_code 22 = .ok (.iload 4, 2) := by decide +kernel
theorem d_M_read_24 : decode prog_11_method_17_code 24 = .ok (.imul, 1) := by decide +kernel
theorem d_M_read_25 : decode prog_11_method_17_code 25 = .ok (.iload_n 2, 1) := by decide +kernel
theorem d_M_read_26 : decode prog_11_method_17_code 26 = .ok (.iadd, 1) := by decide +kernel
theorem d_M_read_27 : decode prog_11_method_17_code 27 = .ok (.iaload, 1) := by decide +kernel
theorem d_M_read_28 : decode prog_11_method_17_code 28 = .ok (.invokevirtual 108, 3) := by decide +kernel
theorem d_M_read_31 : decode prog_11_method_17_code 31 = .ok (.istore 5, 2) := by decide +kernel
theorem d_M_read_33 : decode prog_11_method_17_code 33 = .ok (.iload 5, 2) := by decide +kernel
theorem d_M_read_35 : decode prog_11_method_17_code 35 = .ok (.ifCond .ge 7, 3) := by decide +kernel
theorem d_M_read_38 : decode prog_11_method_17_code 38 = .ok (.iconst (-1), 1) := by decide +kernel
theorem d_M_read_39 : decode prog_11_method_17_code 39 = .ok (.goto 21, 3) := by decide +kernel
theorem d_M_read_42 : decode prog_11_method_17_code 42 = .ok (.aload_n 0, 1) := by decide +kernel
theorem d_M_read_43 : decode prog_11_method_17_code 43 = .ok (.aload_n 0, 1) := by decide +kernel
theorem d_M_read_44 : decode prog_11_method_17_code 44 = .ok (.getfield 44, 3) := by decide +kernel
theorem d_M_read_47 : decode prog_11_method_17_code 47 = .ok (.iconst 4, 1) := by decide +kernel
theorem d_M_read_48 : decode prog_11_method_17_code 48 = .ok (.iload 5, 2) := by decide +kernel
theorem d_M_read_50 : decode prog_11_method_17_code 50 = .ok (.imul, 1) := by decide +kernel
theorem d_M_read_51 : decode prog_11_method_17_code 51 = .ok (.iload_n 3, 1) := by decide +kernel
theorem d_M_read_52 : decode prog_11_method_17_code 52 = .ok (.bipush 8, 2) := by decide +kernel
theorem d_M_read_54 : decode prog_11_method_17_code 54 = .ok (.idiv, 1) := by decide +kernel
theorem d_M_read_55 : decode prog_11_method_17_code 55 = .ok (.iadd, 1) := by decide +kernel
theorem d_M_read_56 : decode prog_11_method_17_code 56 = .ok (.iaload, 1) := by decide +kernel
theorem d_M_read_57 : decode prog_11_method_17_code 57 = .ok (.invokevirtual 108, 3) := by decide +kernel
theorem d_M_read_60 : decode prog_11_method_17_code 60 = .ok (.istore 6, 2) := by decide +kernel
theorem d_M_read_62 : decode prog_11_method_17_code 62 = .ok (.iload 6, 2) := by decide +kernel
theorem d_M_read_64 : decode prog_11_method_17_code 64 = .ok (.ifCond .lt 20, 3) := by decide +kernel
theorem d_M_read_67 : decode prog_11_method_17_code 67 = .ok (.aload_n 0, 1) := by decide +kernel
theorem d_M_read_68 : decode prog_11_method_17_code 68 = .ok (.getfield 38, 3) := by decide +kernel
theorem d_M_read_71 : decode prog_11_method_17_code 71 = .ok (.iload 6, 2) := by decide +kernel
theorem d_M_read_73 : decode prog_11_method_17_code 73 = .ok (.iaload, 1) := by decide +kernel
theorem d_M_read_74 : decode prog_11_method_17_code 74 = .ok (.iload_n 3, 1) := by decide +kernel
theorem d_M_read_75 : decode prog_11_method_17_code 75 = .ok (.bipush 8, 2) := by decide +kernel
theorem d_M_read_77 : decode prog_11_method_17_code 77 = .ok (.irem, 1) := by decide +kernel
theorem d_M_read_78 : decode prog_11_method_17_code 78 = .ok (.ishr, 1) := by decide +kernel
theorem d_M_read_79 : decode prog_11_method_17_code 79 = .ok (.iconst 1, 1) := by decide +kernel
theorem d_M_read_80 : decode prog_11_method_17_code 80 = .ok (.iand, 1) := by decide +kernel
theorem d_M_read_81 : decode prog_11_method_17_code 81 = .ok (.ifCond .ne 9, 3) := by decide +kernel
theorem d_M_read_84 : decode prog_11_method_17_code 84 = .ok (.ldc2_w 131, 3) := by decide +kernel
theorem d_M_read_87 : decode prog_11_method_17_code 87 = .ok (.goto 19, 3) := by decide +kernel
theorem d_M_read_90 : decode prog_11_method_17_code 90 = .ok (.aload_n 0, 1) := by decide +kernel
theorem d_M_read_91 : decode prog_11_method_17_code 91 = .ok (.getfield 41, 3) := by decide +kernel
theorem d_M_read_94 : decode prog_11_method_17_code 94 = .ok (.bipush 8, 2) := by decide +kernel
theorem d_M_read_96 : decode prog_11_method_17_code 96 = .ok (.iload 6, 2) := by decide +kernel
theorem d_M_read_98 : decode prog_11_method_17_code 98 = .ok (.imul, 1) := by decide +kernel
theorem d_M_read_99 : decode prog_11_method_17_code 99 = .ok (.iload_n 3, 1) := by decide +kernel
theorem d_M_read_100 : decode prog_11_method_17_code 100 = .ok (.bipush 8, 2) := by decide +kernel
theorem d_M_read_102 : decode prog_11_method_17_code 102 = .ok (.irem, 1) := by decide +kernel
theorem d_M_read_103 : decode prog_11_method_17_code 103 = .ok (.iadd, 1) := by decide +kernel
theorem d_M_read_104 : decode prog_11_method_17_code 104 = .ok (.iaload, 1) := by decide +kernel
theorem d_M_read_105 : decode prog_11_method_17_code 105 = .ok (.i2l, 1) := by decide +kernel
theorem d_M_read_106 : decode prog_11_method_17_code 106 = .ok (.lreturn, 1) := by decide +kernel
def W_M_read : Wl := ([], [])
def j_M_read_60_M (y0 : Nat) (y3 : Int32) (w0 : Int32) (h : Hp) : Option (Int64 × Hp) :=
  if w0 < 0 then (some ((1099511627776 : Int64), h)) else (gd (isK h y0 8) (dr (hpR h y0 9) fun a28 => gd (isK h a28 84) (gd (inb w0 (hpL h a28)) (if (((hpI h a28 w0.toNatClampNeg) >>> ((y3 - y3 / (nI 8) * (nI 8)) &&& 31)) &&& (1 : Int32)) = 0 then (some ((1099511627776 : Int64), h)) else (dr (hpR h y0 10) fun a33 => gd (isK h a33 85) (gd (inb (((nI 8) * w0) + (y3 - y3 / (nI 8) * (nI 8))) (hpL h a33)) (some ((hpI h a33 (((nI 8) * w0) + (y3 - y3 / (nI 8) * (nI 8))).toNatClampNeg).toInt64, h))))))))
set_option maxRecDepth 100000 in
set_option maxHeartbeats 4000000 in
theorem zj_M_read_60_M {l : Launch} {C : Ct} {mi : Nat} {y0 : Nat} {y3 : Int32} {w0 : Int32} {h h' : Hp} {v : Int64} (hf : j_M_read_60_M y0 y3 w0 h = some (v, h')) : Z l C mi m_M_read 1 60 [(0, vr (some y0)), (3, vi y3)] [vi w0] h (some (vl v)) h' := by
  unfold j_M_read_60_M at hf
  refine z_istore (ls2 := [(6, vi w0), (0, vr (some y0)), (3, vi y3)]) d_M_read_60 (by decide) rfl ?_
  refine z_iload 0 d_M_read_62 rfl ?_
  refine z_if_lt (tgt := 84) d_M_read_64 (by decide) (fun c26 => ?_) (fun c26 => ?_)
  · rw [if_pos c26] at hf
    refine z_ldc2 (v := (1099511627776 : Int64)) d_M_read_84 (by decide +kernel) ?_
    refine z_goto (tgt := 106) d_M_read_87 (by decide) ?_
    obtain ⟨rfl, rfl⟩ := Prod.mk.inj (Option.some.inj hf)
    exact z_ret d_M_read_106 rfl
  · rw [if_neg c26] at hf
    refine z_aload_n 1 d_M_read_67 rfl rfl ?_
    obtain ⟨g27, hf⟩ := gd_some hf
    refine z_getR d_M_read_68 (fl_K (isK_eq g27) fl_M_38_8) (fi_K (isK_eq g27) rfl) rfl ?_
    refine z_iload 0 d_M_read_71 rfl ?_
    obtain ⟨a28, e29, hf⟩ := dr_some hf
    obtain ⟨g30, hf⟩ := gd_some hf
    obtain ⟨g31, hf⟩ := gd_some hf
    refine z_iald d_M_read_73 e29 (by rw [isK_eq g30]; decide) (by rw [isK_eq g30]; rfl) (inb_vp g31) ?_
    refine z_iload_n 2 d_M_read_74 rfl rfl ?_
    refine z_bipush (v := (nI 8)) d_M_read_75 (by decide) ?_
    refine z_irem d_M_read_77 (by decide) ?_
    refine z_ishr d_M_read_78 ?_
    refine z_iconst (v := (1 : Int32)) d_M_read_79 (by decide) ?_
    refine z_iand d_M_read_80 ?_
    refine z_if_ne (tgt := 90) d_M_read_81 (by decide) (fun c32 => ?_) (fun c32 => ?_)
    · rw [if_neg c32] at hf
      refine z_aload_n 1 d_M_read_90 rfl rfl ?_
      refine z_getR d_M_read_91 (fl_K (isK_eq g27) fl_M_41_8) (fi_K (isK_eq g27) rfl) rfl ?_
      refine z_bipush (v := (nI 8)) d_M_read_94 (by decide) ?_
      refine z_iload 0 d_M_read_96 rfl ?_
      refine z_imul d_M_read_98 ?_
      refine z_iload_n 2 d_M_read_99 rfl rfl ?_
      refine z_bipush (v := (nI 8)) d_M_read_100 (by decide) ?_
      refine z_irem d_M_read_102 (by decide) ?_
      refine z_iadd d_M_read_103 ?_
      obtain ⟨a33, e34, hf⟩ := dr_some hf
      obtain ⟨g35, hf⟩ := gd_some hf
      obtain ⟨g36, hf⟩ := gd_some hf
      refine z_iald d_M_read_104 e34 (by rw [isK_eq g35]; decide) (by rw [isK_eq g35]; rfl) (inb_vp g36) ?_
      refine z_i2l d_M_read_105 ?_
      obtain ⟨rfl, rfl⟩ := Prod.mk.inj (Option.some.inj hf)
      exact z_ret d_M_read_106 rfl
    · rw [if_pos c32] at hf
      refine z_ldc2 (v := (1099511627776 : Int64)) d_M_read_84 (by decide +kernel) ?_
      refine z_goto (tgt := 106) d_M_read_87 (by decide) ?_
      obtain ⟨rfl, rfl⟩ := Prod.mk.inj (Option.some.inj hf)
      exact z_ret d_M_read_106 rfl
set_option maxRecDepth 100000 in
set_option maxHeartbeats 4000000 in
theorem kj_M_read_60_M {C : Ct} {mi : Nat} {y0 : Nat} {y3 : Int32} {w0 : Int32} {h h' : Hp} {v : Int64} (hf : j_M_read_60_M y0 y3 w0 h = some (v, h')) : Keep W_M_read h h' := by
  unfold j_M_read_60_M at hf
  rcases Classical.em (w0 < 0) with c26 | c26
  · rw [if_pos c26] at hf
    obtain ⟨rfl, rfl⟩ := Prod.mk.inj (Option.some.inj hf)
    exact (Keep.refl W_M_read _)
  · rw [if_neg c26] at hf
    obtain ⟨g27, hf⟩ := gd_some hf
    obtain ⟨a28, e29, hf⟩ := dr_some hf
    obtain ⟨g30, hf⟩ := gd_some hf
    obtain ⟨g31, hf⟩ := gd_some hf
    rcases (Classical.em ((((hpI h a28 w0.toNatClampNeg) >>> ((y3 - y3 / (nI 8) * (nI 8)) &&& 31)) &&& (1 : Int32)) = 0)).symm with c32 | c32
    · rw [if_neg c32] at hf
      obtain ⟨a33, e34, hf⟩ := dr_some hf
      obtain ⟨g35, hf⟩ := gd_some hf
      obtain ⟨g36, hf⟩ := gd_some hf
      obtain ⟨rfl, rfl⟩ := Prod.mk.inj (Option.some.inj hf)
      exact (Keep.refl W_M_read _)
    · rw [if_pos c32] at hf
      obtain ⟨rfl, rfl⟩ := Prod.mk.inj (Option.some.inj hf)
      exact (Keep.refl W_M_read _)
def j_M_read_31_M (y0 : Nat) (y3 : Int32) (w0 : Int32) (h : Hp) : Option (Int64 × Hp) :=
  if 0 ≤ w0 then (gd (isK h y0 8) (dr (hpR h y0 11) fun a18 => gd (isK h a18 86) (gd (inb (((nI 4) * w0) + (y3 / (nI 8))) (hpL h a18)) (cl (f_M_page y0 (hpI h a18 (((nI 4) * w0) + (y3 / (nI 8))).toNatClampNeg) h) fun v24 h22 => j_M_read_60_M y0 y3 v24 h22)))) else (j_M_read_60_M y0 y3 (-1 : Int32) h)
set_option maxRecDepth 100000 in
set_option maxHeartbeats 4000000 in
theorem zj_M_read_31_M {l : Launch} {C : Ct} {mi : Nat} {y0 : Nat} {y3 : Int32} {w0 : Int32} {h h' : Hp} {v : Int64} (hf : j_M_read_31_M y0 y3 w0 h = some (v, h')) : Z l C mi m_M_read 1 31 [(0, vr (some y0)), (3, vi y3)] [vi w0] h (some (vl v)) h' := by
  unfold j_M_read_31_M at hf
  refine z_istore (ls2 := [(5, vi w0), (0, vr (some y0)), (3, vi y3)]) d_M_read_31 (by decide) rfl ?_
  refine z_iload 0 d_M_read_33 rfl ?_
  refine z_if_ge (tgt := 42) d_M_read_35 (by decide) (fun c16 => ?_) (fun c16 => ?_)
  · rw [if_pos c16] at hf
    refine z_aload_n 1 d_M_read_42 rfl rfl ?_
    refine z_aload_n 1 d_M_read_43 rfl rfl ?_
    obtain ⟨g17, hf⟩ := gd_some hf
    refine z_getR d_M_read_44 (fl_K (isK_eq g17) fl_M_44_8) (fi_K (isK_eq g17) rfl) rfl ?_
    refine z_iconst (v := (nI 4)) d_M_read_47 (by decide) ?_
    refine z_iload 0 d_M_read_48 rfl ?_
    refine z_imul d_M_read_50 ?_
    refine z_iload_n 2 d_M_read_51 rfl rfl ?_
    refine z_bipush (v := (nI 8)) d_M_read_52 (by decide) ?_
    refine z_idiv d_M_read_54 (by decide) ?_
    refine z_iadd d_M_read_55 ?_
    obtain ⟨a18, e19, hf⟩ := dr_some hf
    obtain ⟨g20, hf⟩ := gd_some hf
    obtain ⟨g21, hf⟩ := gd_some hf
    refine z_iald d_M_read_56 e19 (by rw [isK_eq g20]; decide) (by rw [isK_eq g20]; rfl) (inb_vp g21) ?_
    obtain ⟨v24, h22, ec23, hf⟩ := cl_some hf
    refine z_callVx rfl (c_M_page ec23) d_M_read_57 cw_M_page lk_M_108 im_M_page se_M_page (kc_K (isK_eq g17) kc_8) ⟨by decide, by decide⟩ (Nat.le_of_ble_eq_true rfl) rfl ?_
    refine z_ls [1, 2] rfl ?_
    exact zj_M_read_60_M hf
  · rw [if_neg c16] at hf
    refine z_iconst (v := (-1 : Int32)) d_M_read_38 (by decide) ?_
    refine z_goto (tgt := 60) d_M_read_39 (by decide) ?_
    refine z_ls [1, 2] rfl ?_
    exact zj_M_read_60_M hf
set_option maxRecDepth 100000 in
set_option maxHeartbeats 4000000 in
theorem kj_M_read_31_M {C : Ct} {mi : Nat} {y0 : Nat} {y3 : Int32} {w0 : Int32} {h h' : Hp} {v : Int64} (hf : j_M_read_31_M y0 y3 w0 h = some (v, h')) : Keep W_M_read h h' := by
  unfold j_M_read_31_M at hf
  rcases Classical.em (0 ≤ w0) with c16 | c16
  · rw [if_pos c16] at hf
    obtain ⟨g17, hf⟩ := gd_some hf
    obtain ⟨a18, e19, hf⟩ := dr_some hf
    obtain ⟨g20, hf⟩ := gd_some hf
    obtain ⟨g21, hf⟩ := gd_some hf
    obtain ⟨v24, h22, ec23, hf⟩ := cl_some hf
    have K25 := (Keep.refl W_M_read _).trans ((fr_M_page (C := C) (mi := mi) ec23).mono (by decide) (by decide))
    exact K25.trans (kj_M_read_60_M (C := C) (mi := mi) hf)
  · rw [if_neg c16] at hf
    exact (Keep.refl W_M_read _).trans (kj_M_read_60_M (C := C) (mi := mi) hf)
def f_M_read (a0 : Nat) (p1 : Int32) (p2 : Int32) (p3 : Int32) (h : Hp) : Option (Int64 × Hp) :=
  gd (isK h a0 8) (cl (f_M_page a0 p1 h) fun v4 h2 => if 0 ≤ v4 then (gd (isK h2 a0 8) (dr (hpR h2 a0 11) fun a8 => gd (isK h2 a8 86) (gd (inb (((nI 4) * v4) + p2) (hpL h2 a8)) (cl (f_M_page a0 (hpI h2 a8 (((nI 4) * v4) + p2).toNatClampNeg) h2) fun v14 h12 => j_M_read_31_M a0 p3 v14 h12)))) else (j_M_read_31_M a0 p3 (-1 : Int32) h2))
set_option maxRecDepth 100000 in
set_option maxHeartbeats 4000000 in
theorem zf_M_read {l : Launch} {C : Ct} {mi : Nat} {a0 : Nat} {p1 : Int32} {p2 : Int32} {p3 : Int32} {h h' : Hp} {v : Int64} (hf : f_M_read a0 p1 p2 p3 h = some (v, h')) : Z l C mi m_M_read 1 0 [(0, vr (some a0)), (1, vi p1), (2, vi p2), (3, vi p3)] [] h (some (vl v)) h' := by
  unfold f_M_read at hf
  refine z_aload_n 0 d_M_read_0 rfl rfl ?_
  refine z_iload_n 1 d_M_read_1 rfl rfl ?_
  obtain ⟨g1, hf⟩ := gd_some hf
  obtain ⟨v4, h2, ec3, hf⟩ := cl_some hf
  refine z_callVx rfl (c_M_page ec3) d_M_read_2 cw_M_page lk_M_108 im_M_page se_M_page (kc_K (isK_eq g1) kc_8) ⟨by decide, by decide⟩ (Nat.le_of_ble_eq_true rfl) rfl ?_
  refine z_istore (ls2 := [(4, vi v4), (0, vr (some a0)), (1, vi p1), (2, vi p2), (3, vi p3)]) d_M_read_5 (by decide) rfl ?_
  refine z_iload 0 d_M_read_7 rfl ?_
  refine z_if_ge (tgt := 16) d_M_read_9 (by decide) (fun c6 => ?_) (fun c6 => ?_)
  · rw [if_pos c6] at hf
    refine z_aload_n 1 d_M_read_16 rfl rfl ?_
    refine z_aload_n 1 d_M_read_17 rfl rfl ?_
    obtain ⟨g7, hf⟩ := gd_some hf
    refine z_getR d_M_read_18 (fl_K (isK_eq g7) fl_M_44_8) (fi_K (isK_eq g7) rfl) rfl ?_
    refine z_iconst (v := (nI 4)) d_M_read_21 (by decide) ?_
    refine z_iload 0 d_M_read_22 rfl ?_
    refine z_imul d_M_read_24 ?_
    refine z_iload_n 3 d_M_read_25 rfl rfl ?_
    refine z_iadd d_M_read_26 ?_
    obtain ⟨a8, e9, hf⟩ := dr_some hf
    obtain ⟨g10, hf⟩ := gd_some hf
    obtain ⟨g11, hf⟩ := gd_some hf
    refine z_iald d_M_read_27 e9 (by rw [isK_eq g10]; decide) (by rw [isK_eq g10]; rfl) (inb_vp g11) ?_
    obtain ⟨v14, h12, ec13, hf⟩ := cl_some hf
    refine z_callVx rfl (c_M_page ec13) d_M_read_28 cw_M_page lk_M_108 im_M_page se_M_page (kc_K (isK_eq g7) kc_8) ⟨by decide, by decide⟩ (Nat.le_of_ble_eq_true rfl) rfl ?_
    refine z_ls [1, 4] rfl ?_
    exact zj_M_read_31_M hf
  · rw [if_neg c6] at hf
    refine z_iconst (v := (-1 : Int32)) d_M_read_12 (by decide) ?_
    refine z_goto (tgt := 31) d_M_read_13 (by decide) ?_
    refine z_ls [1, 4] rfl ?_
    exact zj_M_read_31_M hf
set_option maxRecDepth 100000 in
set_option maxHeartbeats 4000000 in
theorem fr_M_read {C : Ct} {mi : Nat} {a0 : Nat} {p1 : Int32} {p2 : Int32} {p3 : Int32} {h h' : Hp} {v : Int64} (hf : f_M_read a0 p1 p2 p3 h = some (v, h')) : Keep W_M_read h h' := by
  unfold f_M_read at hf
  obtain ⟨g1, hf⟩ := gd_some hf
  obtain ⟨v4, h2, ec3, hf⟩ := cl_some hf
  have K5 := (Keep.refl W_M_read _).trans ((fr_M_page (C := C) (mi := mi) ec3).mono (by decide) (by decide))
  rcases Classical.em (0 ≤ v4) with c6 | c6
  · rw [if_pos c6] at hf
    obtain ⟨g7, hf⟩ := gd_some hf
    obtain ⟨a8, e9, hf⟩ := dr_some hf
    obtain ⟨g10, hf⟩ := gd_some hf
    obtain ⟨g11, hf⟩ := gd_some hf
    obtain ⟨v14, h12, ec13, hf⟩ := cl_some hf
    have K15 := K5.trans ((fr_M_page (C := C) (mi := mi) ec13).mono (by decide) (by decide))
    exact K15.trans (kj_M_read_31_M (C := C) (mi := mi) hf)
  · rw [if_neg c6] at hf
    exact K5.trans (kj_M_read_31_M (C := C) (mi := mi) hf)
theorem c_M_read {l : Launch} {C : Ct} {mi : Nat} {a0 : Nat} {p1 : Int32} {p2 : Int32} {p3 : Int32} {h h' : Hp} {v : Int64} (hf : f_M_read a0 p1 p2 p3 h = some (v, h')) : Mt l C mi m_M_read 1 [vr (some a0), vi p1, vi p2, vi p3] h (some (vl v)) h' := mt_L rfl rfl (by decide) (Nat.le_of_ble_eq_true rfl) (zf_M_read hf)
-- VersionMapsModel.at(III)J
def m_M_at : Mi := (⟨"VersionMapsModel", "at", "(III)J"⟩, prog_11_method_18_code, 5, (Option.some Jvm.ClassFile.FieldType.long), .lreturn)
theorem cw_M_at : cw_ok m_M_at 3 := ⟨by decide +kernel, by decide +kernel, by decide +kernel, by decide +kernel⟩
theorem im_M_at : Cond.instanceMethod m_M_at.1 ∈ lw_w := by decide +kernel
theorem se_M_at : Cond.selects "VersionMapsModel" m_M_at.1 m_M_at.1 ∈ lw_w := by decide +kernel
theorem d_M_at_0 : decode prog_11_method_18_code 0 = .ok (.aload_n 0, 1) := by decide +kernel
theorem d_M_at_1 : decode prog_11_method_18_code 1 = .ok (.iload_n 1, 1) := by decide +kernel
theorem d_M_at_2 : decode prog_11_method_18_code 2 = .ok (.invokevirtual 133, 3) := by decide +kernel
theorem d_M_at_5 : decode prog_11_method_18_code 5 = .ok (.istore 4, 2) := by decide +kernel
theorem d_M_at_7 : decode prog_11_method_18_code 7 = .ok (.iload_n 2, 1) := by decide +kernel
theorem d_M_at_8 : decode prog_11_method_18_code 8 = .ok (.iconst 4, 1) := by decide +kernel
theorem d_M_at_9 : decode prog_11_method_18_code 9 = .ok (.invokestatic 125, 3) := by decide +kernel
theorem d_M_at_12 : decode prog_11_method_18_code 12 = .ok (.ifCond .eq 17, 3) := by decide +kernel
theorem d_M_at_15 : decode prog_11_method_18_code 15 = .ok (.iload_n 3, 1) := by decide +kernel
theorem d_M_at_16 : decode prog_11_method_18_code 16 = .ok (.bipush 32, 2) := by decide +kernel
theorem d_M_at_18 : decode prog_11_method_18_code 18 = .ok (.invokestatic 125, 3) := by decide +kernel
theorem d_M_at_21 : decode prog_11_method_18_code 21 = .ok (.ifCond .eq 8, 3) := by decide +kernel
theorem d_M_at_24 : decode prog_11_method_18_code 24 = .ok (.iload 4, 2) := by decide +kernel
theorem d_M_at_26 : decode prog_11_method_18_code 26 = .ok (.ifCond .ge 9, 3) := by decide +kernel
theorem d_M_at_29 : decode prog_11_method_18_code 29 = .ok (.ldc2_w 129, 3) := by decide +kernel
theorem d_M_at_32 : decode prog_11_method_18_code 32 = .ok (.goto 16, 3) := by decide +kernel
theorem d_M_at_35 : decode prog_11_method_18_code 35 = .ok (.aload_n 0, 1) := by decide +kernel
theorem d_M_at_36 : decode prog_11_method_18_code 36 = .ok (.aload_n 0, 1) := by decide +kernel
theorem d_M_at_37 : decode prog_11_method_18_code 37 = .ok (.getfield 93, 3) := by decide +kernel
theorem d_M_at_40 : decode prog_11_method_18_code 40 = .ok (.iload 4, 2) := by decide +kernel
theorem d_M_at_42 : decode prog_11_method_18_code 42 = .ok (.iaload, 1) := by decide +kernel
theorem d_M_at_43 : decode prog_11_method_18_code 43 = .ok (.iload_n 2, 1) := by decide +kernel
theorem d_M_at_44 : decode prog_11_method_18_code 44 = .ok (.iload_n 3, 1) := by decide +kernel
theorem d_M_at_45 : decode prog_11_method_18_code 45 = .ok (.invokevirtual 136, 3) := by decide +kernel
theorem d_M_at_48 : decode prog_11_method_18_code 48 = .ok (.lreturn, 1) := by decide +kernel
def W_M_at : Wl := ([], [])
def f_M_at (a0 : Nat) (p1 : Int32) (p2 : Int32) (p3 : Int32) (h : Hp) : Option (Int64 × Hp) :=
  gd (isK h a0 8) (cl (f_M_find a0 p1 h) fun v4 h2 => cl (f_M_in p2 (nI 4) h2) fun v8 h6 => if v8 = 0 then (some ((2199023255552 : Int64), h6)) else (cl (f_M_in p3 (nI 32) h6) fun v13 h11 => if v13 = 0 then (some ((2199023255552 : Int64), h11)) else (if 0 ≤ v4 then (gd (isK h11 a0 8) (dr (hpR h11 a0 29) fun a18 => gd (isK h11 a18 101) (gd (inb v4 (hpL h11 a18)) (cl (f_M_read a0 (hpI h11 a18 v4.toNatClampNeg) p2 p3 h11) fun v24 h22 => some (v24, h22))))) else (some ((2199023255552 : Int64), h11)))))
set_option maxRecDepth 100000 in
set_option maxHeartbeats 4000000 in
theorem zf_M_at {l : Launch} {C : Ct} {mi : Nat} {a0 : Nat} {p1 : Int32} {p2 : Int32} {p3 : Int32} {h h' : Hp} {v : Int64} (hf : f_M_at a0 p1 p2 p3 h = some (v, h')) : Z l C mi m_M_at 2 0 [(0, vr (some a0)), (1, vi p1), (2, vi p2), (3, vi p3)] [] h (some (vl v)) h' := by
  unfold f_M_at at hf
  refine z_aload_n 0 d_M_at_0 rfl rfl ?_
  refine z_iload_n 1 d_M_at_1 rfl rfl ?_
  obtain ⟨g1, hf⟩ := gd_some hf
  obtain ⟨v4, h2, ec3, hf⟩ := cl_some hf
  refine z_callVx rfl (c_M_find ec3) d_M_at_2 cw_M_find lk_M_133 im_M_find se_M_find (kc_K (isK_eq g1) kc_8) ⟨by decide, by decide⟩ (Nat.le_of_ble_eq_true rfl) rfl ?_
  refine z_istore (ls2 := [(4, vi v4), (0, vr (some a0)), (1, vi p1), (2, vi p2), (3, vi p3)]) d_M_at_5 (by decide) rfl ?_
  refine z_iload_n 3 d_M_at_7 rfl rfl ?_
  refine z_iconst (v := (nI 4)) d_M_at_8 (by decide) ?_
  obtain ⟨v8, h6, ec7, hf⟩ := cl_some hf
  refine z_callS (c_M_in ec7) d_M_at_9 cw_M_in lk_M_125 (by decide +kernel) ⟨by decide, by decide⟩ (Nat.le_of_ble_eq_true rfl) rfl ?_
  refine z_if_eq (tgt := 29) d_M_at_12 (by decide) (fun c10 => ?_) (fun c10 => ?_)
  · rw [if_pos c10] at hf
    refine z_ldc2 (v := (2199023255552 : Int64)) d_M_at_29 (by decide +kernel) ?_
    refine z_goto (tgt := 48) d_M_at_32 (by decide) ?_
    obtain ⟨rfl, rfl⟩ := Prod.mk.inj (Option.some.inj hf)
    exact z_ret d_M_at_48 rfl
  · rw [if_neg c10] at hf
    refine z_iload_n 4 d_M_at_15 rfl rfl ?_
    refine z_bipush (v := (nI 32)) d_M_at_16 (by decide) ?_
    obtain ⟨v13, h11, ec12, hf⟩ := cl_some hf
    refine z_callS (c_M_in ec12) d_M_at_18 cw_M_in lk_M_125 (by decide +kernel) ⟨by decide, by decide⟩ (Nat.le_of_ble_eq_true rfl) rfl ?_
    refine z_if_eq (tgt := 29) d_M_at_21 (by decide) (fun c15 => ?_) (fun c15 => ?_)
    · rw [if_pos c15] at hf
      refine z_ldc2 (v := (2199023255552 : Int64)) d_M_at_29 (by decide +kernel) ?_
      refine z_goto (tgt := 48) d_M_at_32 (by decide) ?_
      obtain ⟨rfl, rfl⟩ := Prod.mk.inj (Option.some.inj hf)
      exact z_ret d_M_at_48 rfl
    · rw [if_neg c15] at hf
      refine z_iload 0 d_M_at_24 rfl ?_
      refine z_if_ge (tgt := 35) d_M_at_26 (by decide) (fun c16 => ?_) (fun c16 => ?_)
      · rw [if_pos c16] at hf
        refine z_aload_n 1 d_M_at_35 rfl rfl ?_
        refine z_aload_n 1 d_M_at_36 rfl rfl ?_
        obtain ⟨g17, hf⟩ := gd_some hf
        refine z_getR d_M_at_37 (fl_K (isK_eq g17) fl_M_93_8) (fi_K (isK_eq g17) rfl) rfl ?_
        refine z_iload 0 d_M_at_40 rfl ?_
        obtain ⟨a18, e19, hf⟩ := dr_some hf
        obtain ⟨g20, hf⟩ := gd_some hf
        obtain ⟨g21, hf⟩ := gd_some hf
        refine z_iald d_M_at_42 e19 (by rw [isK_eq g20]; decide) (by rw [isK_eq g20]; rfl) (inb_vp g21) ?_
        refine z_iload_n 3 d_M_at_43 rfl rfl ?_
        refine z_iload_n 4 d_M_at_44 rfl rfl ?_
        obtain ⟨v24, h22, ec23, hf⟩ := cl_some hf
        refine z_callVx rfl (c_M_read ec23) d_M_at_45 cw_M_read lk_M_136 im_M_read se_M_read (kc_K (isK_eq g17) kc_8) ⟨by decide, by decide⟩ (Nat.le_of_ble_eq_true rfl) rfl ?_
        obtain ⟨rfl, rfl⟩ := Prod.mk.inj (Option.some.inj hf)
        exact z_ret d_M_at_48 rfl
      · rw [if_neg c16] at hf
        refine z_ldc2 (v := (2199023255552 : Int64)) d_M_at_29 (by decide +kernel) ?_
        refine z_goto (tgt := 48) d_M_at_32 (by decide) ?_
        obtain ⟨rfl, rfl⟩ := Prod.mk.inj (Option.some.inj hf)
        exact z_ret d_M_at_48 rfl
set_option maxRecDepth 100000 in
set_option maxHeartbeats 4000000 in
theorem fr_M_at {C : Ct} {mi : Nat} {a0 : Nat} {p1 : Int32} {p2 : Int32} {p3 : Int32} {h h' : Hp} {v : Int64} (hf : f_M_at a0 p1 p2 p3 h = some (v, h')) : Keep W_M_at h h' := by
  unfold f_M_at at hf
  obtain ⟨g1, hf⟩ := gd_some hf
  obtain ⟨v4, h2, ec3, hf⟩ := cl_some hf
  have K5 := (Keep.refl W_M_at _).trans ((fr_M_find (C := C) (mi := mi) ec3).mono (by decide) (by decide))
  obtain ⟨v8, h6, ec7, hf⟩ := cl_some hf
  have K9 := K5.trans ((fr_M_in (C := C) (mi := mi) ec7).mono (by decide) (by decide))
  rcases Classical.em (v8 = 0) with c10 | c10
  · rw [if_pos c10] at hf
    obtain ⟨rfl, rfl⟩ := Prod.mk.inj (Option.some.inj hf)
    exact K9
  · rw [if_neg c10] at hf
    obtain ⟨v13, h11, ec12, hf⟩ := cl_some hf
    have K14 := K9.trans ((fr_M_in (C := C) (mi := mi) ec12).mono (by decide) (by decide))
    rcases Classical.em (v13 = 0) with c15 | c15
    · rw [if_pos c15] at hf
      obtain ⟨rfl, rfl⟩ := Prod.mk.inj (Option.some.inj hf)
      exact K14
    · rw [if_neg c15] at hf
      rcases Classical.em (0 ≤ v4) with c16 | c16
      · rw [if_pos c16] at hf
        obtain ⟨g17, hf⟩ := gd_some hf
        obtain ⟨a18, e19, hf⟩ := dr_some hf
        obtain ⟨g20, hf⟩ := gd_some hf
        obtain ⟨g21, hf⟩ := gd_some hf
        obtain ⟨v24, h22, ec23, hf⟩ := cl_some hf
        have K25 := K14.trans ((fr_M_read (C := C) (mi := mi) ec23).mono (by decide) (by decide))
        obtain ⟨rfl, rfl⟩ := Prod.mk.inj (Option.some.inj hf)
        exact K25
      · rw [if_neg c16] at hf
        obtain ⟨rfl, rfl⟩ := Prod.mk.inj (Option.some.inj hf)
        exact K14
theorem c_M_at {l : Launch} {C : Ct} {mi : Nat} {a0 : Nat} {p1 : Int32} {p2 : Int32} {p3 : Int32} {h h' : Hp} {v : Int64} (hf : f_M_at a0 p1 p2 p3 h = some (v, h')) : Mt l C mi m_M_at 2 [vr (some a0), vi p1, vi p2, vi p3] h (some (vl v)) h' := mt_L rfl rfl (by decide) (Nat.le_of_ble_eq_true rfl) (zf_M_at hf)
-- VersionMapsModel.next(II)I
def m_M_next : Mi := (⟨"VersionMapsModel", "next", "(II)I"⟩, prog_11_method_19_code, 4, (Option.some Jvm.ClassFile.FieldType.int), .ireturn)
theorem cw_M_next : cw_ok m_M_next 2 := ⟨by decide +kernel, by decide +kernel, by decide +kernel, by decide +kernel⟩
theorem im_M_next : Cond.instanceMethod m_M_next.1 ∈ lw_w := by decide +kernel
theorem se_M_next : Cond.selects "VersionMapsModel" m_M_next.1 m_M_next.1 ∈ lw_w := by decide +kernel
theorem d_M_next_0 : decode prog_11_method_19_code 0 = .ok (.iload_n 1, 1) := by decide +kernel
theorem d_M_next_1 : decode prog_11_method_19_code 1 = .ok (.iconst 4, 1) := by decide +kernel
theorem d_M_next_2 : decode prog_11_method_19_code 2 = .ok (.invokestatic 125, 3) := by decide +kernel
theorem d_M_next_5 : decode prog_11_method_19_code 5 = .ok (.ifCond .ne 5, 3) := by decide +kernel
theorem d_M_next_8 : decode prog_11_method_19_code 8 = .ok (.iconst (-1), 1) := by decide +kernel
theorem d_M_next_9 : decode prog_11_method_19_code 9 = .ok (.ireturn, 1) := by decide +kernel
theorem d_M_next_10 : decode prog_11_method_19_code 10 = .ok (.iconst 0, 1) := by decide +kernel
theorem d_M_next_11 : decode prog_11_method_19_code 11 = .ok (.istore_n 3, 1) := by decide +kernel
theorem d_M_next_12 : decode prog_11_method_19_code 12 = .ok (.iload_n 3, 1) := by decide +kernel
theorem d_M_next_13 : decode prog_11_method_19_code 13 = .ok (.bipush 32, 2) := by decide +kernel
theorem d_M_next_15 : decode prog_11_method_19_code 15 = .ok (.if_icmp .ge 30, 3) := by decide +kernel
theorem d_M_next_18 : decode prog_11_method_19_code 18 = .ok (.iload_n 3, 1) := by decide +kernel
theorem d_M_next_19 : decode prog_11_method_19_code 19 = .ok (.iload_n 2, 1) := by decide +kernel
theorem d_M_next_20 : decode prog_11_method_19_code 20 = .ok (.if_icmp .lt 19, 3) := by decide +kernel
theorem d_M_next_23 : decode prog_11_method_19_code 23 = .ok (.aload_n 0, 1) := by decide +kernel
theorem d_M_next_24 : decode prog_11_method_19_code 24 = .ok (.getfield 7, 3) := by decide +kernel
theorem d_M_next_27 : decode prog_11_method_19_code 27 = .ok (.bipush 32, 2) := by decide +kernel
theorem d_M_next_29 : decode prog_11_method_19_code 29 = .ok (.iload_n 1, 1) := by decide +kernel
theorem d_M_next_30 : decode prog_11_method_19_code 30 = .ok (.imul, 1) := by decide +kernel
theorem d_M_next_31 : decode prog_11_method_19_code 31 = .ok (.iload_n 3, 1) := by decide +kernel
theorem d_M_next_32 : decode prog_11_method_19_code 32 = .ok (.iadd, 1) := by decide +kernel
theorem d_M_next_33 : decode prog_11_method_19_code 33 = .ok (.baload, 1) := by decide +kernel
theorem d_M_next_34 : decode prog_11_method_19_code 34 = .ok (.ifCond .eq 5, 3) := by decide +kernel
theorem d_M_next_37 : decode prog_11_method_19_code 37 = .ok (.iload_n 3, 1) := by decide +kernel
theorem d_M_next_38 : decode prog_11_method_19_code 38 = .ok (.ireturn, 1) := by decide +kernel
theorem d_M_next_39 : decode prog_11_method_19_code 39 = .ok (.iinc 3 1, 3) := by decide +kernel
theorem d_M_next_42 : decode prog_11_method_19_code 42 = .ok (.goto (-30), 3) := by decide +kernel
theorem d_M_next_45 : decode prog_11_method_19_code 45 = .ok (.bipush (-3), 2) := by decide +kernel
theorem d_M_next_47 : decode prog_11_method_19_code 47 = .ok (.ireturn, 1) := by decide +kernel
def W_M_next : Wl := ([], [])
def b_M_next_12 (y0 : Nat) (y1 : Int32) (y2 : Int32) (y3 : Int32) (h : Hp) : Option ((Int32 × Hp) ⊕ ((Hp) ⊕ (Int32 × Hp))) :=
  if (nI 32) ≤ y3 then (some (.inr (.inl h))) else (if y3 < y2 then (some (.inl ((y3 + (1 : Int32)), h))) else (gd (isK h y0 8) (dr (hpR h y0 0) fun a9 => gd (isK h a9 75) (gd (inb (((nI 32) * y1) + y3) (hpL h a9)) (if (hpI h a9 (((nI 32) * y1) + y3).toNatClampNeg) = 0 then (some (.inl ((y3 + (1 : Int32)), h))) else (some (.inr (.inr (y3, h)))))))))
set_option maxRecDepth 100000 in
set_option maxHeartbeats 4000000 in
theorem zb_M_next_12 {l : Launch} {C : Ct} {mi : Nat} {y0 : Nat} {y1 : Int32} {y2 : Int32} {y3 : Int32} {h h' : Hp} {v : Int32} {q : ((Int32 × Hp) ⊕ ((Hp) ⊕ (Int32 × Hp)))} (hf : b_M_next_12 y0 y1 y2 y3 h = some q) (kc : ∀ s, q = .inl s → Z l C mi m_M_next 1 12 [(0, vr (some y0)), (1, vi y1), (2, vi y2), (3, vi s.1)] [] s.2 (some (vi v)) h') (ke : ∀ x, q = .inr (.inl x) → Z l C mi m_M_next 1 45 [] [] x (some (vi v)) h') (kr : ∀ rv rh, q = .inr (.inr (rv, rh)) → v = rv ∧ h' = rh) : Z l C mi m_M_next 1 12 [(0, vr (some y0)), (1, vi y1), (2, vi y2), (3, vi y3)] [] h (some (vi v)) h' := by
  unfold b_M_next_12 at hf
  refine z_iload_n 3 d_M_next_12 rfl rfl ?_
  refine z_bipush (v := (nI 32)) d_M_next_13 (by decide) ?_
  refine z_icmp_ge (tgt := 45) d_M_next_15 (by decide) (fun c6 => ?_) (fun c6 => ?_)
  · rw [if_pos c6] at hf
    refine z_ls [] rfl ?_
    exact ke h (Option.some.inj hf).symm
  · rw [if_neg c6] at hf
    refine z_iload_n 3 d_M_next_18 rfl rfl ?_
    refine z_iload_n 2 d_M_next_19 rfl rfl ?_
    refine z_icmp_lt (tgt := 39) d_M_next_20 (by decide) (fun c7 => ?_) (fun c7 => ?_)
    · rw [if_pos c7] at hf
      refine z_iinc (ls2 := [(3, vi (y3 + (1 : Int32))), (0, vr (some y0)), (1, vi y1), (2, vi y2)]) 3 d_M_next_39 rfl rfl (by decide) rfl ?_
      refine z_goto (tgt := 12) d_M_next_42 (by decide) ?_
      refine z_ls [1, 2, 3, 0] rfl ?_
      exact kc ((y3 + (1 : Int32)), h) (Option.some.inj hf).symm
    · rw [if_neg c7] at hf
      refine z_aload_n 0 d_M_next_23 rfl rfl ?_
      obtain ⟨g8, hf⟩ := gd_some hf
      refine z_getR d_M_next_24 (fl_K (isK_eq g8) fl_M_7_8) (fi_K (isK_eq g8) rfl) rfl ?_
      refine z_bipush (v := (nI 32)) d_M_next_27 (by decide) ?_
      refine z_iload_n 1 d_M_next_29 rfl rfl ?_
      refine z_imul d_M_next_30 ?_
      refine z_iload_n 3 d_M_next_31 rfl rfl ?_
      refine z_iadd d_M_next_32 ?_
      obtain ⟨a9, e10, hf⟩ := dr_some hf
      obtain ⟨g11, hf⟩ := gd_some hf
      obtain ⟨g12, hf⟩ := gd_some hf
      refine z_zald d_M_next_33 e10 (by rw [isK_eq g11]; decide) (by rw [isK_eq g11]; rfl) (inb_vp g12) ?_
      refine z_if_eq (tgt := 39) d_M_next_34 (by decide) (fun c13 => ?_) (fun c13 => ?_)
      · rw [if_pos c13] at hf
        refine z_iinc (ls2 := [(3, vi (y3 + (1 : Int32))), (0, vr (some y0)), (1, vi y1), (2, vi y2)]) 3 d_M_next_39 rfl rfl (by decide) rfl ?_
        refine z_goto (tgt := 12) d_M_next_42 (by decide) ?_
        refine z_ls [1, 2, 3, 0] rfl ?_
        exact kc ((y3 + (1 : Int32)), h) (Option.some.inj hf).symm
      · rw [if_neg c13] at hf
        refine z_iload_n 3 d_M_next_37 rfl rfl ?_
        obtain ⟨rfl, rfl⟩ := kr _ _ (Option.some.inj hf).symm
        exact z_ret d_M_next_38 rfl
set_option maxRecDepth 100000 in
set_option maxHeartbeats 4000000 in
theorem kb_M_next_12 {C : Ct} {mi : Nat} {y0 : Nat} {y1 : Int32} {y2 : Int32} {y3 : Int32} {h : Hp} {q : ((Int32 × Hp) ⊕ ((Hp) ⊕ (Int32 × Hp)))} (hf : b_M_next_12 y0 y1 y2 y3 h = some q) : Keep W_M_next h (Sum.elim (fun s : Int32 × Hp => s.2) (Sum.elim (fun x : Hp => x) (fun r : (Int32 × Hp) => r.2)) q) := by
  unfold b_M_next_12 at hf
  rcases Classical.em ((nI 32) ≤ y3) with c6 | c6
  · rw [if_pos c6] at hf
    cases (Option.some.inj hf)
    exact (Keep.refl W_M_next _)
  · rw [if_neg c6] at hf
    rcases Classical.em (y3 < y2) with c7 | c7
    · rw [if_pos c7] at hf
      cases (Option.some.inj hf)
      exact (Keep.refl W_M_next _)
    · rw [if_neg c7] at hf
      obtain ⟨g8, hf⟩ := gd_some hf
      obtain ⟨a9, e10, hf⟩ := dr_some hf
      obtain ⟨g11, hf⟩ := gd_some hf
      obtain ⟨g12, hf⟩ := gd_some hf
      rcases Classical.em ((hpI h a9 (((nI 32) * y1) + y3).toNatClampNeg) = 0) with c13 | c13
      · rw [if_pos c13] at hf
        cases (Option.some.inj hf)
        exact (Keep.refl W_M_next _)
      · rw [if_neg c13] at hf
        cases (Option.some.inj hf)
        exact (Keep.refl W_M_next _)
def l_M_next_12 (y0 : Nat) (y1 : Int32) (y2 : Int32) (s : Int32 × Hp) : Option ((Hp) ⊕ (Int32 × Hp)) := lp (fun s => b_M_next_12 y0 y1 y2 s.1 s.2) FU s
theorem zzl_M_next_12 {l : Launch} {C : Ct} {mi : Nat} {y0 : Nat} {y1 : Int32} {y2 : Int32} {h' : Hp} {v : Int32} : ∀ (n : Nat) (s : Int32 × Hp) (q : ((Hp) ⊕ (Int32 × Hp))), lp (fun s : Int32 × Hp => b_M_next_12 y0 y1 y2 s.1 s.2) n s = some q → (∀ x, q = .inl x → Z l C mi m_M_next 1 45 [] [] x (some (vi v)) h') → (∀ rv rh, q = .inr (rv, rh) → v = rv ∧ h' = rh) → Z l C mi m_M_next 1 12 [(0, vr (some y0)), (1, vi y1), (2, vi y2), (3, vi s.1)] [] s.2 (some (vi v)) h' := by
  intro n
  induction n with
  | zero => intro s q hl; cases hl
  | succ n ih =>
    intro s q hl ke kr
    rcases lp_some hl with ⟨s2, hb, hl2⟩ | hb
    · exact zb_M_next_12 hb (fun s3 e3 => by cases e3; refine z_ls [0, 1, 2, 3] rfl ?_; exact ih s2 q hl2 ke kr) (fun x e3 => by cases e3) (fun rv rh e3 => by cases e3)
    · exact zb_M_next_12 hb (fun s3 e3 => by cases e3) (fun x e3 => ke x (Sum.inr.inj e3)) (fun rv rh e3 => kr rv rh (Sum.inr.inj e3))
theorem zl_M_next_12 {l : Launch} {C : Ct} {mi : Nat} {y0 : Nat} {y1 : Int32} {y2 : Int32} {h' : Hp} {v : Int32} {s : Int32 × Hp} {q : ((Hp) ⊕ (Int32 × Hp))} (hl : l_M_next_12 y0 y1 y2 s = some q) (ke : ∀ x, q = .inl x → Z l C mi m_M_next 1 45 [] [] x (some (vi v)) h') (kr : ∀ rv rh, q = .inr (rv, rh) → v = rv ∧ h' = rh) : Z l C mi m_M_next 1 12 [(0, vr (some y0)), (1, vi y1), (2, vi y2), (3, vi s.1)] [] s.2 (some (vi v)) h' := zzl_M_next_12 FU s q hl ke kr
theorem kl_M_next_12 {C : Ct} {mi : Nat} {y0 : Nat} {y1 : Int32} {y2 : Int32} {s : Int32 × Hp} {q : ((Hp) ⊕ (Int32 × Hp))} (hl : l_M_next_12 y0 y1 y2 s = some q) : Keep W_M_next s.2 ((Sum.elim (fun x : Hp => x) (fun r : (Int32 × Hp) => r.2)) q) := lpk (sh := (fun s : Int32 × Hp => s.2)) (rh := (Sum.elim (fun x : Hp => x) (fun r : (Int32 × Hp) => r.2))) (fun s q hb => kb_M_next_12 (C := C) (mi := mi) hb) FU s q hl
def f_M_next (a0 : Nat) (p1 : Int32) (p2 : Int32) (h : Hp) : Option (Int32 × Hp) :=
  cl (f_M_in p1 (nI 4) h) fun v3 h1 => if v3 = 0 then (some ((-1 : Int32), h1)) else (lk (l_M_next_12 a0 p1 p2 ((0 : Int32), h1)) (fun x14 => some ((-3 : Int32), x14)) some)
set_option maxRecDepth 100000 in
set_option maxHeartbeats 4000000 in
theorem zf_M_next {l : Launch} {C : Ct} {mi : Nat} {a0 : Nat} {p1 : Int32} {p2 : Int32} {h h' : Hp} {v : Int32} (hf : f_M_next a0 p1 p2 h = some (v, h')) : Z l C mi m_M_next 1 0 [(0, vr (some a0)), (1, vi p1), (2, vi p2)] [] h (some (vi v)) h' := by
  unfold f_M_next at hf
  refine z_iload_n 1 d_M_next_0 rfl rfl ?_
  refine z_iconst (v := (nI 4)) d_M_next_1 (by decide) ?_
  obtain ⟨v3, h1, ec2, hf⟩ := cl_some hf
  refine z_callS (c_M_in ec2) d_M_next_2 cw_M_in lk_M_125 (by decide +kernel) ⟨by decide, by decide⟩ (Nat.le_of_ble_eq_true rfl) rfl ?_
  refine z_if_ne (tgt := 10) d_M_next_5 (by decide) (fun c5 => ?_) (fun c5 => ?_)
  · rw [if_neg c5] at hf
    refine z_iconst (v := (0 : Int32)) d_M_next_10 (by decide) ?_
    refine z_istore_n (ls2 := [(3, vi (0 : Int32)), (0, vr (some a0)), (1, vi p1), (2, vi p2)]) d_M_next_11 rfl (by decide) rfl ?_
    rcases lk_some hf with ⟨x14, el15, hf⟩ | ⟨x14r, el15, hf⟩
    · skip
      refine z_ls [1, 2, 3, 0] rfl ?_
      refine zl_M_next_12 el15 (fun x2 e2 => ?_) (fun rv rh e2 => by cases e2)
      cases e2
      refine z_bipush (v := (-3 : Int32)) d_M_next_45 (by decide) ?_
      obtain ⟨rfl, rfl⟩ := Prod.mk.inj (Option.some.inj hf)
      exact z_ret d_M_next_47 rfl
    · skip
      refine z_ls [1, 2, 3, 0] rfl ?_
      refine zl_M_next_12 el15 (fun x2 e2 => by cases e2) (fun rv rh e2 => ?_)
      cases e2
      have e4 := Prod.mk.inj (Option.some.inj hf)
      exact ⟨e4.1.symm, e4.2.symm⟩
  · rw [if_pos c5] at hf
    refine z_iconst (v := (-1 : Int32)) d_M_next_8 (by decide) ?_
    obtain ⟨rfl, rfl⟩ := Prod.mk.inj (Option.some.inj hf)
    exact z_ret d_M_next_9 rfl
set_option maxRecDepth 100000 in
set_option maxHeartbeats 4000000 in
theorem fr_M_next {C : Ct} {mi : Nat} {a0 : Nat} {p1 : Int32} {p2 : Int32} {h h' : Hp} {v : Int32} (hf : f_M_next a0 p1 p2 h = some (v, h')) : Keep W_M_next h h' := by
  unfold f_M_next at hf
  obtain ⟨v3, h1, ec2, hf⟩ := cl_some hf
  have K4 := (Keep.refl W_M_next _).trans ((fr_M_in (C := C) (mi := mi) ec2).mono (by decide) (by decide))
  rcases (Classical.em (v3 = 0)).symm with c5 | c5
  · rw [if_neg c5] at hf
    rcases lk_some hf with ⟨x14, el15, hf⟩ | ⟨x14r, el15, hf⟩
    · skip
      have K16 := K4.trans (kl_M_next_12 (C := C) (mi := mi) el15)
      obtain ⟨rfl, rfl⟩ := Prod.mk.inj (Option.some.inj hf)
      exact K16
    · skip
      have K17 := K4.trans (kl_M_next_12 (C := C) (mi := mi) el15)
      cases (Option.some.inj hf)
      exact K17
  · rw [if_pos c5] at hf
    obtain ⟨rfl, rfl⟩ := Prod.mk.inj (Option.some.inj hf)
    exact K4
theorem c_M_next {l : Launch} {C : Ct} {mi : Nat} {a0 : Nat} {p1 : Int32} {p2 : Int32} {h h' : Hp} {v : Int32} (hf : f_M_next a0 p1 p2 h = some (v, h')) : Mt l C mi m_M_next 1 [vr (some a0), vi p1, vi p2] h (some (vi v)) h' := mt_I (ty := .int) rfl rfl rfl (by decide) (Nat.le_of_ble_eq_true rfl) (zf_M_next hf)
-- VersionMapsModel.isTouched(I)Z
def m_M_isTouched : Mi := (⟨"VersionMapsModel", "isTouched", "(I)Z"⟩, prog_11_method_24_code, 4, (Option.some Jvm.ClassFile.FieldType.boolean), .ireturn)
theorem cw_M_isTouched : cw_ok m_M_isTouched 1 := ⟨by decide +kernel, by decide +kernel, by decide +kernel, by decide +kernel⟩
theorem im_M_isTouched : Cond.instanceMethod m_M_isTouched.1 ∈ lw_w := by decide +kernel
theorem se_M_isTouched : Cond.selects "VersionMapsModel" m_M_isTouched.1 m_M_isTouched.1 ∈ lw_w := by decide +kernel
theorem d_M_isTouched_0 : decode prog_11_method_24_code 0 = .ok (.aload_n 0, 1) := by decide +kernel
theorem d_M_isTouched_1 : decode prog_11_method_24_code 1 = .ok (.getfield 16, 3) := by decide +kernel
theorem d_M_isTouched_4 : decode prog_11_method_24_code 4 = .ok (.iload_n 1, 1) := by decide +kernel
theorem d_M_isTouched_5 : decode prog_11_method_24_code 5 = .ok (.baload, 1) := by decide +kernel
theorem d_M_isTouched_6 : decode prog_11_method_24_code 6 = .ok (.istore_n 2, 1) := by decide +kernel
theorem d_M_isTouched_7 : decode prog_11_method_24_code 7 = .ok (.iconst 0, 1) := by decide +kernel
theorem d_M_isTouched_8 : decode prog_11_method_24_code 8 = .ok (.istore_n 3, 1) := by decide +kernel
theorem d_M_isTouched_9 : decode prog_11_method_24_code 9 = .ok (.iload_n 3, 1) := by decide +kernel
theorem d_M_isTouched_10 : decode prog_11_method_24_code 10 = .ok (.iconst 4, 1) := by decide +kernel
theorem d_M_isTouched_11 : decode prog_11_method_24_code 11 = .ok (.if_icmp .ge 22, 3) := by decide +kernel
theorem d_M_isTouched_14 : decode prog_11_method_24_code 14 = .ok (.iload_n 2, 1) := by decide +kernel
theorem d_M_isTouched_15 : decode prog_11_method_24_code 15 = .ok (.aload_n 0, 1) := by decide +kernel
theorem d_M_isTouched_16 : decode prog_11_method_24_code 16 = .ok (.getfield 13, 3) := by decide +kernel
theorem d_M_isTouched_19 : decode prog_11_method_24_code 19 = .ok (.iconst 4, 1) := by decide +kernel
theorem d_M_isTouched_20 : decode prog_11_method_24_code 20 = .ok (.iload_n 1, 1) := by decide +kernel
theorem d_M_isTouched_21 : decode prog_11_method_24_code 21 = .ok (.imul, 1) := by decide +kernel
theorem d_M_isTouched_22 : decode prog_11_method_24_code 22 = .ok (.iload_n 3, 1) := by decide +kernel
theorem d_M_isTouched_23 : decode prog_11_method_24_code 23 = .ok (.iadd, 1) := by decide +kernel
theorem d_M_isTouched_24 : decode prog_11_method_24_code 24 = .ok (.baload, 1) := by decide +kernel
theorem d_M_isTouched_25 : decode prog_11_method_24_code 25 = .ok (.ior, 1) := by decide +kernel
theorem d_M_isTouched_26 : decode prog_11_method_24_code 26 = .ok (.istore_n 2, 1) := by decide +kernel
theorem d_M_isTouched_27 : decode prog_11_method_24_code 27 = .ok (.iinc 3 1, 3) := by decide +kernel
theorem d_M_isTouched_30 : decode prog_11_method_24_code 30 = .ok (.goto (-21), 3) := by decide +kernel
theorem d_M_isTouched_33 : decode prog_11_method_24_code 33 = .ok (.iload_n 2, 1) := by decide +kernel
theorem d_M_isTouched_34 : decode prog_11_method_24_code 34 = .ok (.ireturn, 1) := by decide +kernel
def W_M_isTouched : Wl := ([], [])
def b_M_isTouched_9 (y0 : Nat) (y1 : Int32) (y2 : Int32) (y3 : Int32) (h : Hp) : Option ((Int32 × Int32 × Hp) ⊕ (Int32 × Hp)) :=
  if (nI 4) ≤ y3 then (some (.inr (y2, h))) else (gd (isK h y0 8) (dr (hpR h y0 1) fun a8 => gd (isK h a8 76) (gd (inb (((nI 4) * y1) + y3) (hpL h a8)) (nm ((y2 ||| (hpI h a8 (((nI 4) * y1) + y3).toNatClampNeg))) fun x12 => some (.inl (x12, (y3 + (1 : Int32)), h))))))
set_option maxRecDepth 100000 in
set_option maxHeartbeats 4000000 in
theorem zb_M_isTouched_9 {l : Launch} {C : Ct} {mi : Nat} {y0 : Nat} {y1 : Int32} {y2 : Int32} {y3 : Int32} {h h' : Hp} {v : Int32} {q : ((Int32 × Int32 × Hp) ⊕ (Int32 × Hp))} (hf : b_M_isTouched_9 y0 y1 y2 y3 h = some q) (kc : ∀ s, q = .inl s → Z l C mi m_M_isTouched 0 9 [(0, vr (some y0)), (1, vi y1), (2, vi s.1), (3, vi s.2.1)] [] s.2.2 (some (vi v)) h') (ke : ∀ x, q = .inr x → Z l C mi m_M_isTouched 0 33 [(2, vi x.1)] [] x.2 (some (vi v)) h') : Z l C mi m_M_isTouched 0 9 [(0, vr (some y0)), (1, vi y1), (2, vi y2), (3, vi y3)] [] h (some (vi v)) h' := by
  unfold b_M_isTouched_9 at hf
  refine z_iload_n 3 d_M_isTouched_9 rfl rfl ?_
  refine z_iconst (v := (nI 4)) d_M_isTouched_10 (by decide) ?_
  refine z_icmp_ge (tgt := 33) d_M_isTouched_11 (by decide) (fun c6 => ?_) (fun c6 => ?_)
  · rw [if_pos c6] at hf
    refine z_ls [2] rfl ?_
    exact ke (y2, h) (Option.some.inj hf).symm
  · rw [if_neg c6] at hf
    refine z_iload_n 2 d_M_isTouched_14 rfl rfl ?_
    refine z_aload_n 0 d_M_isTouched_15 rfl rfl ?_
    obtain ⟨g7, hf⟩ := gd_some hf
    refine z_getR d_M_isTouched_16 (fl_K (isK_eq g7) fl_M_13_8) (fi_K (isK_eq g7) rfl) rfl ?_
    refine z_iconst (v := (nI 4)) d_M_isTouched_19 (by decide) ?_
    refine z_iload_n 1 d_M_isTouched_20 rfl rfl ?_
    refine z_imul d_M_isTouched_21 ?_
    refine z_iload_n 3 d_M_isTouched_22 rfl rfl ?_
    refine z_iadd d_M_isTouched_23 ?_
    obtain ⟨a8, e9, hf⟩ := dr_some hf
    obtain ⟨g10, hf⟩ := gd_some hf
    obtain ⟨g11, hf⟩ := gd_some hf
    refine z_zald d_M_isTouched_24 e9 (by rw [isK_eq g10]; decide) (by rw [isK_eq g10]; rfl) (inb_vp g11) ?_
    refine z_ior d_M_isTouched_25 ?_
    obtain ⟨x12, ex13, hf⟩ := nm_some hf
    refine z_topi ex13 ?_
    refine z_istore_n (ls2 := [(2, vi x12), (0, vr (some y0)), (1, vi y1), (3, vi y3)]) d_M_isTouched_26 rfl (by decide) rfl ?_
    refine z_iinc (ls2 := [(3, vi (y3 + (1 : Int32))), (2, vi x12), (0, vr (some y0)), (1, vi y1)]) 3 d_M_isTouched_27 rfl rfl (by decide) rfl ?_
    refine z_goto (tgt := 9) d_M_isTouched_30 (by decide) ?_
    refine z_ls [2, 3, 1, 0] rfl ?_
    exact kc (x12, (y3 + (1 : Int32)), h) (Option.some.inj hf).symm
set_option maxRecDepth 100000 in
set_option maxHeartbeats 4000000 in
theorem kb_M_isTouched_9 {C : Ct} {mi : Nat} {y0 : Nat} {y1 : Int32} {y2 : Int32} {y3 : Int32} {h : Hp} {q : ((Int32 × Int32 × Hp) ⊕ (Int32 × Hp))} (hf : b_M_isTouched_9 y0 y1 y2 y3 h = some q) : Keep W_M_isTouched h (Sum.elim (fun s : Int32 × Int32 × Hp => s.2.2) (fun x : Int32 × Hp => x.2) q) := by
  unfold b_M_isTouched_9 at hf
  rcases Classical.em ((nI 4) ≤ y3) with c6 | c6
  · rw [if_pos c6] at hf
    cases (Option.some.inj hf)
    exact (Keep.refl W_M_isTouched _)
  · rw [if_neg c6] at hf
    obtain ⟨g7, hf⟩ := gd_some hf
    obtain ⟨a8, e9, hf⟩ := dr_some hf
    obtain ⟨g10, hf⟩ := gd_some hf
    obtain ⟨g11, hf⟩ := gd_some hf
    obtain ⟨x12, ex13, hf⟩ := nm_some hf
    cases (Option.some.inj hf)
    exact (Keep.refl W_M_isTouched _)
def l_M_isTouched_9 (y0 : Nat) (y1 : Int32) (s : Int32 × Int32 × Hp) : Option (Int32 × Hp) := lp (fun s => b_M_isTouched_9 y0 y1 s.1 s.2.1 s.2.2) FU s
theorem zzl_M_isTouched_9 {l : Launch} {C : Ct} {mi : Nat} {y0 : Nat} {y1 : Int32} {h' : Hp} {v : Int32} : ∀ (n : Nat) (s : Int32 × Int32 × Hp) (x : (Int32 × Hp)), lp (fun s : Int32 × Int32 × Hp => b_M_isTouched_9 y0 y1 s.1 s.2.1 s.2.2) n s = some x → Z l C mi m_M_isTouched 0 33 [(2, vi x.1)] [] x.2 (some (vi v)) h' → Z l C mi m_M_isTouched 0 9 [(0, vr (some y0)), (1, vi y1), (2, vi s.1), (3, vi s.2.1)] [] s.2.2 (some (vi v)) h' := by
  intro n
  induction n with
  | zero => intro s x hl; cases hl
  | succ n ih =>
    intro s x hl ke
    rcases lp_some hl with ⟨s2, hb, hl2⟩ | hb
    · exact zb_M_isTouched_9 hb (fun s3 e3 => by cases e3; refine z_ls [0, 1, 2, 3] rfl ?_; exact ih s2 x hl2 ke) (fun x e3 => by cases e3)
    · exact zb_M_isTouched_9 hb (fun s3 e3 => by cases e3) (fun x e3 => by cases e3; exact ke)
theorem zl_M_isTouched_9 {l : Launch} {C : Ct} {mi : Nat} {y0 : Nat} {y1 : Int32} {h' : Hp} {v : Int32} {s : Int32 × Int32 × Hp} {x : (Int32 × Hp)} (hl : l_M_isTouched_9 y0 y1 s = some x) (ke : Z l C mi m_M_isTouched 0 33 [(2, vi x.1)] [] x.2 (some (vi v)) h') : Z l C mi m_M_isTouched 0 9 [(0, vr (some y0)), (1, vi y1), (2, vi s.1), (3, vi s.2.1)] [] s.2.2 (some (vi v)) h' := zzl_M_isTouched_9 FU s x hl ke
theorem kl_M_isTouched_9 {C : Ct} {mi : Nat} {y0 : Nat} {y1 : Int32} {s : Int32 × Int32 × Hp} {q : (Int32 × Hp)} (hl : l_M_isTouched_9 y0 y1 s = some q) : Keep W_M_isTouched s.2.2 ((fun x : Int32 × Hp => x.2) q) := lpk (sh := (fun s : Int32 × Int32 × Hp => s.2.2)) (rh := (fun x : Int32 × Hp => x.2)) (fun s q hb => kb_M_isTouched_9 (C := C) (mi := mi) hb) FU s q hl
def f0_M_isTouched (a0 : Nat) (p1 : Int32) (h : Hp) : Option (Int32 × Hp) :=
  gd (isK h a0 8) (dr (hpR h a0 2) fun a2 => gd (isK h a2 77) (gd (inb p1 (hpL h a2)) (bd (l_M_isTouched_9 a0 p1 ((hpI h a2 p1.toNatClampNeg), (0 : Int32), h)) fun x14 => some (x14.1, x14.2))))
def f_M_isTouched (a0 : Nat) (p1 : Int32) (h : Hp) : Option (Int32 × Hp) := zbw (f0_M_isTouched a0 p1 h)
set_option maxRecDepth 100000 in
set_option maxHeartbeats 4000000 in
theorem zf_M_isTouched {l : Launch} {C : Ct} {mi : Nat} {a0 : Nat} {p1 : Int32} {h h' : Hp} {v : Int32} (hf : f0_M_isTouched a0 p1 h = some (v, h')) : Z l C mi m_M_isTouched 0 0 [(0, vr (some a0)), (1, vi p1)] [] h (some (vi v)) h' := by
  unfold f0_M_isTouched at hf
  refine z_aload_n 0 d_M_isTouched_0 rfl rfl ?_
  obtain ⟨g1, hf⟩ := gd_some hf
  refine z_getR d_M_isTouched_1 (fl_K (isK_eq g1) fl_M_16_8) (fi_K (isK_eq g1) rfl) rfl ?_
  refine z_iload_n 1 d_M_isTouched_4 rfl rfl ?_
  obtain ⟨a2, e3, hf⟩ := dr_some hf
  obtain ⟨g4, hf⟩ := gd_some hf
  obtain ⟨g5, hf⟩ := gd_some hf
  refine z_zald d_M_isTouched_5 e3 (by rw [isK_eq g4]; decide) (by rw [isK_eq g4]; rfl) (inb_vp g5) ?_
  refine z_istore_n (ls2 := [(2, vi (hpI h a2 p1.toNatClampNeg)), (0, vr (some a0)), (1, vi p1)]) d_M_isTouched_6 rfl (by decide) rfl ?_
  refine z_iconst (v := (0 : Int32)) d_M_isTouched_7 (by decide) ?_
  refine z_istore_n (ls2 := [(3, vi (0 : Int32)), (2, vi (hpI h a2 p1.toNatClampNeg)), (0, vr (some a0)), (1, vi p1)]) d_M_isTouched_8 rfl (by decide) rfl ?_
  obtain ⟨x14, el15, hf⟩ := bd_some hf
  refine z_ls [2, 3, 1, 0] rfl ?_
  refine zl_M_isTouched_9 el15 ?_
  refine z_iload_n 0 d_M_isTouched_33 rfl rfl ?_
  obtain ⟨rfl, rfl⟩ := Prod.mk.inj (Option.some.inj hf)
  exact z_ret d_M_isTouched_34 rfl
set_option maxRecDepth 100000 in
set_option maxHeartbeats 4000000 in
theorem fr0_M_isTouched {C : Ct} {mi : Nat} {a0 : Nat} {p1 : Int32} {h h' : Hp} {v : Int32} (hf : f0_M_isTouched a0 p1 h = some (v, h')) : Keep W_M_isTouched h h' := by
  unfold f0_M_isTouched at hf
  obtain ⟨g1, hf⟩ := gd_some hf
  obtain ⟨a2, e3, hf⟩ := dr_some hf
  obtain ⟨g4, hf⟩ := gd_some hf
  obtain ⟨g5, hf⟩ := gd_some hf
  obtain ⟨x14, el15, hf⟩ := bd_some hf
  have K16 := (Keep.refl W_M_isTouched _).trans (kl_M_isTouched_9 (C := C) (mi := mi) el15)
  obtain ⟨rfl, rfl⟩ := Prod.mk.inj (Option.some.inj hf)
  exact K16
theorem fr_M_isTouched {C : Ct} {mi : Nat} {a0 : Nat} {p1 : Int32} {h h' : Hp} {v : Int32} (hf : f_M_isTouched a0 p1 h = some (v, h')) : Keep W_M_isTouched h h' := fr0_M_isTouched (C := C) (mi := mi) (zbw_some hf).2
theorem c_M_isTouched {l : Launch} {C : Ct} {mi : Nat} {a0 : Nat} {p1 : Int32} {h h' : Hp} {v : Int32} (hf : f_M_isTouched a0 p1 h = some (v, h')) : Mt l C mi m_M_isTouched 0 [vr (some a0), vi p1] h (some (vi v)) h' := mt_I (ty := .boolean) rfl rfl (zb_eq (zbw_some hf).1) (by decide) (Nat.le_of_ble_eq_true rfl) (zf_M_isTouched (zbw_some hf).2)
-- VersionMapsModel.leafHas(II)Z
def m_M_leafHas : Mi := (⟨"VersionMapsModel", "leafHas", "(II)Z"⟩, prog_11_method_22_code, 4, (Option.some Jvm.ClassFile.FieldType.boolean), .ireturn)
theorem cw_M_leafHas : cw_ok m_M_leafHas 2 := ⟨by decide +kernel, by decide +kernel, by decide +kernel, by decide +kernel⟩
theorem im_M_leafHas : Cond.instanceMethod m_M_leafHas.1 ∈ lw_w := by decide +kernel
theorem se_M_leafHas : Cond.selects "VersionMapsModel" m_M_leafHas.1 m_M_leafHas.1 ∈ lw_w := by decide +kernel
theorem d_M_leafHas_0 : decode prog_11_method_22_code 0 = .ok (.bipush 8, 2) := by decide +kernel
theorem d_M_leafHas_2 : decode prog_11_method_22_code 2 = .ok (.iload_n 2, 1) := by decide +kernel
theorem d_M_leafHas_3 : decode prog_11_method_22_code 3 = .ok (.imul, 1) := by decide +kernel
theorem d_M_leafHas_4 : decode prog_11_method_22_code 4 = .ok (.istore_n 3, 1) := by decide +kernel
theorem d_M_leafHas_5 : decode prog_11_method_22_code 5 = .ok (.iload_n 3, 1) := by decide +kernel
theorem d_M_leafHas_6 : decode prog_11_method_22_code 6 = .ok (.bipush 8, 2) := by decide +kernel
theorem d_M_leafHas_8 : decode prog_11_method_22_code 8 = .ok (.iload_n 2, 1) := by decide +kernel
theorem d_M_leafHas_9 : decode prog_11_method_22_code 9 = .ok (.imul, 1) := by decide +kernel
theorem d_M_leafHas_10 : decode prog_11_method_22_code 10 = .ok (.bipush 8, 2) := by decide +kernel
theorem d_M_leafHas_12 : decode prog_11_method_22_code 12 = .ok (.iadd, 1) := by decide +kernel
theorem d_M_leafHas_13 : decode prog_11_method_22_code 13 = .ok (.if_icmp .ge 25, 3) := by decide +kernel
theorem d_M_leafHas_16 : decode prog_11_method_22_code 16 = .ok (.aload_n 0, 1) := by decide +kernel
theorem d_M_leafHas_17 : decode prog_11_method_22_code 17 = .ok (.getfield 7, 3) := by decide +kernel
theorem d_M_leafHas_20 : decode prog_11_method_22_code 20 = .ok (.bipush 32, 2) := by decide +kernel
theorem d_M_leafHas_22 : decode prog_11_method_22_code 22 = .ok (.iload_n 1, 1) := by decide +kernel
theorem d_M_leafHas_23 : decode prog_11_method_22_code 23 = .ok (.imul, 1) := by decide +kernel
theorem d_M_leafHas_24 : decode prog_11_method_22_code 24 = .ok (.iload_n 3, 1) := by decide +kernel
theorem d_M_leafHas_25 : decode prog_11_method_22_code 25 = .ok (.iadd, 1) := by decide +kernel
theorem d_M_leafHas_26 : decode prog_11_method_22_code 26 = .ok (.baload, 1) := by decide +kernel
theorem d_M_leafHas_27 : decode prog_11_method_22_code 27 = .ok (.ifCond .eq 5, 3) := by decide +kernel
theorem d_M_leafHas_30 : decode prog_11_method_22_code 30 = .ok (.iconst 1, 1) := by decide +kernel
theorem d_M_leafHas_31 : decode prog_11_method_22_code 31 = .ok (.ireturn, 1) := by decide +kernel
theorem d_M_leafHas_32 : decode prog_11_method_22_code 32 = .ok (.iinc 3 1, 3) := by decide +kernel
theorem d_M_leafHas_35 : decode prog_11_method_22_code 35 = .ok (.goto (-30), 3) := by decide +kernel
theorem d_M_leafHas_38 : decode prog_11_method_22_code 38 = .ok (.iconst 0, 1) := by decide +kernel
theorem d_M_leafHas_39 : decode prog_11_method_22_code 39 = .ok (.ireturn, 1) := by decide +kernel
def W_M_leafHas : Wl := ([], [])
def b_M_leafHas_5 (y0 : Nat) (y1 : Int32) (y2 : Int32) (y3 : Int32) (h : Hp) : Option ((Int32 × Hp) ⊕ ((Hp) ⊕ (Int32 × Hp))) :=
  if (((nI 8) * y2) + (nI 8)) ≤ y3 then (some (.inr (.inl h))) else (gd (isK h y0 8) (dr (hpR h y0 0) fun a3 => gd (isK h a3 75) (gd (inb (((nI 32) * y1) + y3) (hpL h a3)) (if (hpI h a3 (((nI 32) * y1) + y3).toNatClampNeg) = 0 then (some (.inl ((y3 + (1 : Int32)), h))) else (some (.inr (.inr ((1 : Int32), h))))))))
set_option maxRecDepth 100000 in
set_option maxHeartbeats 4000000 in
theorem zb_M_leafHas_5 {l : Launch} {C : Ct} {mi : Nat} {y0 : Nat} {y1 : Int32} {y2 : Int32} {y3 : Int32} {h h' : Hp} {v : Int32} {q : ((Int32 × Hp) ⊕ ((Hp) ⊕ (Int32 × Hp)))} (hf : b_M_leafHas_5 y0 y1 y2 y3 h = some q) (kc : ∀ s, q = .inl s → Z l C mi m_M_leafHas 0 5 [(0, vr (some y0)), (1, vi y1), (2, vi y2), (3, vi s.1)] [] s.2 (some (vi v)) h') (ke : ∀ x, q = .inr (.inl x) → Z l C mi m_M_leafHas 0 38 [] [] x (some (vi v)) h') (kr : ∀ rv rh, q = .inr (.inr (rv, rh)) → v = rv ∧ h' = rh) : Z l C mi m_M_leafHas 0 5 [(0, vr (some y0)), (1, vi y1), (2, vi y2), (3, vi y3)] [] h (some (vi v)) h' := by
  unfold b_M_leafHas_5 at hf
  refine z_iload_n 3 d_M_leafHas_5 rfl rfl ?_
  refine z_bipush (v := (nI 8)) d_M_leafHas_6 (by decide) ?_
  refine z_iload_n 2 d_M_leafHas_8 rfl rfl ?_
  refine z_imul d_M_leafHas_9 ?_
  refine z_bipush (v := (nI 8)) d_M_leafHas_10 (by decide) ?_
  refine z_iadd d_M_leafHas_12 ?_
  refine z_icmp_ge (tgt := 38) d_M_leafHas_13 (by decide) (fun c1 => ?_) (fun c1 => ?_)
  · rw [if_pos c1] at hf
    refine z_ls [] rfl ?_
    exact ke h (Option.some.inj hf).symm
  · rw [if_neg c1] at hf
    refine z_aload_n 0 d_M_leafHas_16 rfl rfl ?_
    obtain ⟨g2, hf⟩ := gd_some hf
    refine z_getR d_M_leafHas_17 (fl_K (isK_eq g2) fl_M_7_8) (fi_K (isK_eq g2) rfl) rfl ?_
    refine z_bipush (v := (nI 32)) d_M_leafHas_20 (by decide) ?_
    refine z_iload_n 1 d_M_leafHas_22 rfl rfl ?_
    refine z_imul d_M_leafHas_23 ?_
    refine z_iload_n 3 d_M_leafHas_24 rfl rfl ?_
    refine z_iadd d_M_leafHas_25 ?_
    obtain ⟨a3, e4, hf⟩ := dr_some hf
    obtain ⟨g5, hf⟩ := gd_some hf
    obtain ⟨g6, hf⟩ := gd_some hf
    refine z_zald d_M_leafHas_26 e4 (by rw [isK_eq g5]; decide) (by rw [isK_eq g5]; rfl) (inb_vp g6) ?_
    refine z_if_eq (tgt := 32) d_M_leafHas_27 (by decide) (fun c7 => ?_) (fun c7 => ?_)
    · rw [if_pos c7] at hf
      refine z_iinc (ls2 := [(3, vi (y3 + (1 : Int32))), (0, vr (some y0)), (1, vi y1), (2, vi y2)]) 3 d_M_leafHas_32 rfl rfl (by decide) rfl ?_
      refine z_goto (tgt := 5) d_M_leafHas_35 (by decide) ?_
      refine z_ls [1, 2, 3, 0] rfl ?_
      exact kc ((y3 + (1 : Int32)), h) (Option.some.inj hf).symm
    · rw [if_neg c7] at hf
      refine z_iconst (v := (1 : Int32)) d_M_leafHas_30 (by decide) ?_
      obtain ⟨rfl, rfl⟩ := kr _ _ (Option.some.inj hf).symm
      exact z_ret d_M_leafHas_31 rfl
set_option maxRecDepth 100000 in
set_option maxHeartbeats 4000000 in
theorem kb_M_leafHas_5 {C : Ct} {mi : Nat} {y0 : Nat} {y1 : Int32} {y2 : Int32} {y3 : Int32} {h : Hp} {q : ((Int32 × Hp) ⊕ ((Hp) ⊕ (Int32 × Hp)))} (hf : b_M_leafHas_5 y0 y1 y2 y3 h = some q) : Keep W_M_leafHas h (Sum.elim (fun s : Int32 × Hp => s.2) (Sum.elim (fun x : Hp => x) (fun r : (Int32 × Hp) => r.2)) q) := by
  unfold b_M_leafHas_5 at hf
  rcases Classical.em ((((nI 8) * y2) + (nI 8)) ≤ y3) with c1 | c1
  · rw [if_pos c1] at hf
    cases (Option.some.inj hf)
    exact (Keep.refl W_M_leafHas _)
  · rw [if_neg c1] at hf
    obtain ⟨g2, hf⟩ := gd_some hf
    obtain ⟨a3, e4, hf⟩ := dr_some hf
    obtain ⟨g5, hf⟩ := gd_some hf
    obtain ⟨g6, hf⟩ := gd_some hf
    rcases Classical.em ((hpI h a3 (((nI 32) * y1) + y3).toNatClampNeg) = 0) with c7 | c7
    · rw [if_pos c7] at hf
      cases (Option.some.inj hf)
      exact (Keep.refl W_M_leafHas _)
    · rw [if_neg c7] at hf
      cases (Option.some.inj hf)
      exact (Keep.refl W_M_leafHas _)
def l_M_leafHas_5 (y0 : Nat) (y1 : Int32) (y2 : Int32) (s : Int32 × Hp) : Option ((Hp) ⊕ (Int32 × Hp)) := lp (fun s => b_M_leafHas_5 y0 y1 y2 s.1 s.2) FU s
theorem zzl_M_leafHas_5 {l : Launch} {C : Ct} {mi : Nat} {y0 : Nat} {y1 : Int32} {y2 : Int32} {h' : Hp} {v : Int32} : ∀ (n : Nat) (s : Int32 × Hp) (q : ((Hp) ⊕ (Int32 × Hp))), lp (fun s : Int32 × Hp => b_M_leafHas_5 y0 y1 y2 s.1 s.2) n s = some q → (∀ x, q = .inl x → Z l C mi m_M_leafHas 0 38 [] [] x (some (vi v)) h') → (∀ rv rh, q = .inr (rv, rh) → v = rv ∧ h' = rh) → Z l C mi m_M_leafHas 0 5 [(0, vr (some y0)), (1, vi y1), (2, vi y2), (3, vi s.1)] [] s.2 (some (vi v)) h' := by
  intro n
  induction n with
  | zero => intro s q hl; cases hl
  | succ n ih =>
    intro s q hl ke kr
    rcases lp_some hl with ⟨s2, hb, hl2⟩ | hb
    · exact zb_M_leafHas_5 hb (fun s3 e3 => by cases e3; refine z_ls [0, 1, 2, 3] rfl ?_; exact ih s2 q hl2 ke kr) (fun x e3 => by cases e3) (fun rv rh e3 => by cases e3)
    · exact zb_M_leafHas_5 hb (fun s3 e3 => by cases e3) (fun x e3 => ke x (Sum.inr.inj e3)) (fun rv rh e3 => kr rv rh (Sum.inr.inj e3))
theorem zl_M_leafHas_5 {l : Launch} {C : Ct} {mi : Nat} {y0 : Nat} {y1 : Int32} {y2 : Int32} {h' : Hp} {v : Int32} {s : Int32 × Hp} {q : ((Hp) ⊕ (Int32 × Hp))} (hl : l_M_leafHas_5 y0 y1 y2 s = some q) (ke : ∀ x, q = .inl x → Z l C mi m_M_leafHas 0 38 [] [] x (some (vi v)) h') (kr : ∀ rv rh, q = .inr (rv, rh) → v = rv ∧ h' = rh) : Z l C mi m_M_leafHas 0 5 [(0, vr (some y0)), (1, vi y1), (2, vi y2), (3, vi s.1)] [] s.2 (some (vi v)) h' := zzl_M_leafHas_5 FU s q hl ke kr
theorem kl_M_leafHas_5 {C : Ct} {mi : Nat} {y0 : Nat} {y1 : Int32} {y2 : Int32} {s : Int32 × Hp} {q : ((Hp) ⊕ (Int32 × Hp))} (hl : l_M_leafHas_5 y0 y1 y2 s = some q) : Keep W_M_leafHas s.2 ((Sum.elim (fun x : Hp => x) (fun r : (Int32 × Hp) => r.2)) q) := lpk (sh := (fun s : Int32 × Hp => s.2)) (rh := (Sum.elim (fun x : Hp => x) (fun r : (Int32 × Hp) => r.2))) (fun s q hb => kb_M_leafHas_5 (C := C) (mi := mi) hb) FU s q hl
def f0_M_leafHas (a0 : Nat) (p1 : Int32) (p2 : Int32) (h : Hp) : Option (Int32 × Hp) :=
  lk (l_M_leafHas_5 a0 p1 p2 (((nI 8) * p2), h)) (fun x8 => some ((0 : Int32), x8)) some
def f_M_leafHas (a0 : Nat) (p1 : Int32) (p2 : Int32) (h : Hp) : Option (Int32 × Hp) := zbw (f0_M_leafHas a0 p1 p2 h)
set_option maxRecDepth 100000 in
set_option maxHeartbeats 4000000 in
theorem zf_M_leafHas {l : Launch} {C : Ct} {mi : Nat} {a0 : Nat} {p1 : Int32} {p2 : Int32} {h h' : Hp} {v : Int32} (hf : f0_M_leafHas a0 p1 p2 h = some (v, h')) : Z l C mi m_M_leafHas 0 0 [(0, vr (some a0)), (1, vi p1), (2, vi p2)] [] h (some (vi v)) h' := by
  unfold f0_M_leafHas at hf
  refine z_bipush (v := (nI 8)) d_M_leafHas_0 (by decide) ?_
  refine z_iload_n 2 d_M_leafHas_2 rfl rfl ?_
  refine z_imul d_M_leafHas_3 ?_
  refine z_istore_n (ls2 := [(3, vi ((nI 8) * p2)), (0, vr (some a0)), (1, vi p1), (2, vi p2)]) d_M_leafHas_4 rfl (by decide) rfl ?_
  rcases lk_some hf with ⟨x8, el9, hf⟩ | ⟨x8r, el9, hf⟩
  · skip
    refine z_ls [1, 2, 3, 0] rfl ?_
    refine zl_M_leafHas_5 el9 (fun x2 e2 => ?_) (fun rv rh e2 => by cases e2)
    cases e2
    refine z_iconst (v := (0 : Int32)) d_M_leafHas_38 (by decide) ?_
    obtain ⟨rfl, rfl⟩ := Prod.mk.inj (Option.some.inj hf)
    exact z_ret d_M_leafHas_39 rfl
  · skip
    refine z_ls [1, 2, 3, 0] rfl ?_
    refine zl_M_leafHas_5 el9 (fun x2 e2 => by cases e2) (fun rv rh e2 => ?_)
    cases e2
    have e4 := Prod.mk.inj (Option.some.inj hf)
    exact ⟨e4.1.symm, e4.2.symm⟩
set_option maxRecDepth 100000 in
set_option maxHeartbeats 4000000 in
theorem fr0_M_leafHas {C : Ct} {mi : Nat} {a0 : Nat} {p1 : Int32} {p2 : Int32} {h h' : Hp} {v : Int32} (hf : f0_M_leafHas a0 p1 p2 h = some (v, h')) : Keep W_M_leafHas h h' := by
  unfold f0_M_leafHas at hf
  rcases lk_some hf with ⟨x8, el9, hf⟩ | ⟨x8r, el9, hf⟩
  · skip
    have K10 := (Keep.refl W_M_leafHas _).trans (kl_M_leafHas_5 (C := C) (mi := mi) el9)
    obtain ⟨rfl, rfl⟩ := Prod.mk.inj (Option.some.inj hf)
    exact K10
  · skip
    have K11 := (Keep.refl W_M_leafHas _).trans (kl_M_leafHas_5 (C := C) (mi := mi) el9)
    cases (Option.some.inj hf)
    exact K11
theorem fr_M_leafHas {C : Ct} {mi : Nat} {a0 : Nat} {p1 : Int32} {p2 : Int32} {h h' : Hp} {v : Int32} (hf : f_M_leafHas a0 p1 p2 h = some (v, h')) : Keep W_M_leafHas h h' := fr0_M_leafHas (C := C) (mi := mi) (zbw_some hf).2
theorem c_M_leafHas {l : Launch} {C : Ct} {mi : Nat} {a0 : Nat} {p1 : Int32} {p2 : Int32} {h h' : Hp} {v : Int32} (hf : f_M_leafHas a0 p1 p2 h = some (v, h')) : Mt l C mi m_M_leafHas 0 [vr (some a0), vi p1, vi p2] h (some (vi v)) h' := mt_I (ty := .boolean) rfl rfl (zb_eq (zbw_some hf).1) (by decide) (Nat.le_of_ble_eq_true rfl) (zf_M_leafHas (zbw_some hf).2)
-- VersionMapsModel.mapHas(I)Z
def m_M_mapHas : Mi := (⟨"VersionMapsModel", "mapHas", "(I)Z"⟩, prog_11_method_23_code, 3, (Option.some Jvm.ClassFile.FieldType.boolean), .ireturn)
theorem cw_M_mapHas : cw_ok m_M_mapHas 1 := ⟨by decide +kernel, by decide +kernel, by decide +kernel, by decide +kernel⟩
theorem im_M_mapHas : Cond.instanceMethod m_M_mapHas.1 ∈ lw_w := by decide +kernel
theorem se_M_mapHas : Cond.selects "VersionMapsModel" m_M_mapHas.1 m_M_mapHas.1 ∈ lw_w := by decide +kernel
theorem d_M_mapHas_0 : decode prog_11_method_23_code 0 = .ok (.iconst 0, 1) := by decide +kernel
theorem d_M_mapHas_1 : decode prog_11_method_23_code 1 = .ok (.istore_n 2, 1) := by decide +kernel
theorem d_M_mapHas_2 : decode prog_11_method_23_code 2 = .ok (.iload_n 2, 1) := by decide +kernel
theorem d_M_mapHas_3 : decode prog_11_method_23_code 3 = .ok (.iconst 4, 1) := by decide +kernel
theorem d_M_mapHas_4 : decode prog_11_method_23_code 4 = .ok (.if_icmp .ge 20, 3) := by decide +kernel
theorem d_M_mapHas_7 : decode prog_11_method_23_code 7 = .ok (.aload_n 0, 1) := by decide +kernel
theorem d_M_mapHas_8 : decode prog_11_method_23_code 8 = .ok (.iload_n 1, 1) := by decide +kernel
theorem d_M_mapHas_9 : decode prog_11_method_23_code 9 = .ok (.iload_n 2, 1) := by decide +kernel
theorem d_M_mapHas_10 : decode prog_11_method_23_code 10 = .ok (.invokevirtual 143, 3) := by decide +kernel
theorem d_M_mapHas_13 : decode prog_11_method_23_code 13 = .ok (.ifCond .eq 5, 3) := by decide +kernel
theorem d_M_mapHas_16 : decode prog_11_method_23_code 16 = .ok (.iconst 1, 1) := by decide +kernel
theorem d_M_mapHas_17 : decode prog_11_method_23_code 17 = .ok (.ireturn, 1) := by decide +kernel
theorem d_M_mapHas_18 : decode prog_11_method_23_code 18 = .ok (.iinc 2 1, 3) := by decide +kernel
theorem d_M_mapHas_21 : decode prog_11_method_23_code 21 = .ok (.goto (-19), 3) := by decide +kernel
theorem d_M_mapHas_24 : decode prog_11_method_23_code 24 = .ok (.iconst 0, 1) := by decide +kernel
theorem d_M_mapHas_25 : decode prog_11_method_23_code 25 = .ok (.ireturn, 1) := by decide +kernel
def W_M_mapHas : Wl := ([], [])
def b_M_mapHas_2 (y0 : Nat) (y1 : Int32) (y2 : Int32) (h : Hp) : Option ((Int32 × Hp) ⊕ ((Hp) ⊕ (Int32 × Hp))) :=
  if (nI 4) ≤ y2 then (some (.inr (.inl h))) else (gd (isK h y0 8) (cl (f_M_leafHas y0 y1 y2 h) fun v5 h3 => if v5 = 0 then (some (.inl ((y2 + (1 : Int32)), h3))) else (some (.inr (.inr ((1 : Int32), h3))))))
set_option maxRecDepth 100000 in
set_option maxHeartbeats 4000000 in
theorem zb_M_mapHas_2 {l : Launch} {C : Ct} {mi : Nat} {y0 : Nat} {y1 : Int32} {y2 : Int32} {h h' : Hp} {v : Int32} {q : ((Int32 × Hp) ⊕ ((Hp) ⊕ (Int32 × Hp)))} (hf : b_M_mapHas_2 y0 y1 y2 h = some q) (kc : ∀ s, q = .inl s → Z l C mi m_M_mapHas 1 2 [(0, vr (some y0)), (1, vi y1), (2, vi s.1)] [] s.2 (some (vi v)) h') (ke : ∀ x, q = .inr (.inl x) → Z l C mi m_M_mapHas 1 24 [] [] x (some (vi v)) h') (kr : ∀ rv rh, q = .inr (.inr (rv, rh)) → v = rv ∧ h' = rh) : Z l C mi m_M_mapHas 1 2 [(0, vr (some y0)), (1, vi y1), (2, vi y2)] [] h (some (vi v)) h' := by
  unfold b_M_mapHas_2 at hf
  refine z_iload_n 2 d_M_mapHas_2 rfl rfl ?_
  refine z_iconst (v := (nI 4)) d_M_mapHas_3 (by decide) ?_
  refine z_icmp_ge (tgt := 24) d_M_mapHas_4 (by decide) (fun c1 => ?_) (fun c1 => ?_)
  · rw [if_pos c1] at hf
    refine z_ls [] rfl ?_
    exact ke h (Option.some.inj hf).symm
  · rw [if_neg c1] at hf
    refine z_aload_n 0 d_M_mapHas_7 rfl rfl ?_
    refine z_iload_n 1 d_M_mapHas_8 rfl rfl ?_
    refine z_iload_n 2 d_M_mapHas_9 rfl rfl ?_
    obtain ⟨g2, hf⟩ := gd_some hf
    obtain ⟨v5, h3, ec4, hf⟩ := cl_some hf
    refine z_callVx rfl (c_M_leafHas ec4) d_M_mapHas_10 cw_M_leafHas lk_M_143 im_M_leafHas se_M_leafHas (kc_K (isK_eq g2) kc_8) ⟨by decide, by decide⟩ (Nat.le_of_ble_eq_true rfl) rfl ?_
    refine z_if_eq (tgt := 18) d_M_mapHas_13 (by decide) (fun c7 => ?_) (fun c7 => ?_)
    · rw [if_pos c7] at hf
      refine z_iinc (ls2 := [(2, vi (y2 + (1 : Int32))), (0, vr (some y0)), (1, vi y1)]) 2 d_M_mapHas_18 rfl rfl (by decide) rfl ?_
      refine z_goto (tgt := 2) d_M_mapHas_21 (by decide) ?_
      refine z_ls [1, 2, 0] rfl ?_
      exact kc ((y2 + (1 : Int32)), h3) (Option.some.inj hf).symm
    · rw [if_neg c7] at hf
      refine z_iconst (v := (1 : Int32)) d_M_mapHas_16 (by decide) ?_
      obtain ⟨rfl, rfl⟩ := kr _ _ (Option.some.inj hf).symm
      exact z_ret d_M_mapHas_17 rfl
set_option maxRecDepth 100000 in
set_option maxHeartbeats 4000000 in
theorem kb_M_mapHas_2 {C : Ct} {mi : Nat} {y0 : Nat} {y1 : Int32} {y2 : Int32} {h : Hp} {q : ((Int32 × Hp) ⊕ ((Hp) ⊕ (Int32 × Hp)))} (hf : b_M_mapHas_2 y0 y1 y2 h = some q) : Keep W_M_mapHas h (Sum.elim (fun s : Int32 × Hp => s.2) (Sum.elim (fun x : Hp => x) (fun r : (Int32 × Hp) => r.2)) q) := by
  unfold b_M_mapHas_2 at hf
  rcases Classical.em ((nI 4) ≤ y2) with c1 | c1
  · rw [if_pos c1] at hf
    cases (Option.some.inj hf)
    exact (Keep.refl W_M_mapHas _)
  · rw [if_neg c1] at hf
    obtain ⟨g2, hf⟩ := gd_some hf
    obtain ⟨v5, h3, ec4, hf⟩ := cl_some hf
    have K6 := (Keep.refl W_M_mapHas _).trans ((fr_M_leafHas (C := C) (mi := mi) ec4).mono (by decide) (by decide))
    rcases Classical.em (v5 = 0) with c7 | c7
    · rw [if_pos c7] at hf
      cases (Option.some.inj hf)
      exact K6
    · rw [if_neg c7] at hf
      cases (Option.some.inj hf)
      exact K6
def l_M_mapHas_2 (y0 : Nat) (y1 : Int32) (s : Int32 × Hp) : Option ((Hp) ⊕ (Int32 × Hp)) := lp (fun s => b_M_mapHas_2 y0 y1 s.1 s.2) FU s
theorem zzl_M_mapHas_2 {l : Launch} {C : Ct} {mi : Nat} {y0 : Nat} {y1 : Int32} {h' : Hp} {v : Int32} : ∀ (n : Nat) (s : Int32 × Hp) (q : ((Hp) ⊕ (Int32 × Hp))), lp (fun s : Int32 × Hp => b_M_mapHas_2 y0 y1 s.1 s.2) n s = some q → (∀ x, q = .inl x → Z l C mi m_M_mapHas 1 24 [] [] x (some (vi v)) h') → (∀ rv rh, q = .inr (rv, rh) → v = rv ∧ h' = rh) → Z l C mi m_M_mapHas 1 2 [(0, vr (some y0)), (1, vi y1), (2, vi s.1)] [] s.2 (some (vi v)) h' := by
  intro n
  induction n with
  | zero => intro s q hl; cases hl
  | succ n ih =>
    intro s q hl ke kr
    rcases lp_some hl with ⟨s2, hb, hl2⟩ | hb
    · exact zb_M_mapHas_2 hb (fun s3 e3 => by cases e3; refine z_ls [0, 1, 2] rfl ?_; exact ih s2 q hl2 ke kr) (fun x e3 => by cases e3) (fun rv rh e3 => by cases e3)
    · exact zb_M_mapHas_2 hb (fun s3 e3 => by cases e3) (fun x e3 => ke x (Sum.inr.inj e3)) (fun rv rh e3 => kr rv rh (Sum.inr.inj e3))
theorem zl_M_mapHas_2 {l : Launch} {C : Ct} {mi : Nat} {y0 : Nat} {y1 : Int32} {h' : Hp} {v : Int32} {s : Int32 × Hp} {q : ((Hp) ⊕ (Int32 × Hp))} (hl : l_M_mapHas_2 y0 y1 s = some q) (ke : ∀ x, q = .inl x → Z l C mi m_M_mapHas 1 24 [] [] x (some (vi v)) h') (kr : ∀ rv rh, q = .inr (rv, rh) → v = rv ∧ h' = rh) : Z l C mi m_M_mapHas 1 2 [(0, vr (some y0)), (1, vi y1), (2, vi s.1)] [] s.2 (some (vi v)) h' := zzl_M_mapHas_2 FU s q hl ke kr
theorem kl_M_mapHas_2 {C : Ct} {mi : Nat} {y0 : Nat} {y1 : Int32} {s : Int32 × Hp} {q : ((Hp) ⊕ (Int32 × Hp))} (hl : l_M_mapHas_2 y0 y1 s = some q) : Keep W_M_mapHas s.2 ((Sum.elim (fun x : Hp => x) (fun r : (Int32 × Hp) => r.2)) q) := lpk (sh := (fun s : Int32 × Hp => s.2)) (rh := (Sum.elim (fun x : Hp => x) (fun r : (Int32 × Hp) => r.2))) (fun s q hb => kb_M_mapHas_2 (C := C) (mi := mi) hb) FU s q hl
def f0_M_mapHas (a0 : Nat) (p1 : Int32) (h : Hp) : Option (Int32 × Hp) :=
  lk (l_M_mapHas_2 a0 p1 ((0 : Int32), h)) (fun x8 => some ((0 : Int32), x8)) some
def f_M_mapHas (a0 : Nat) (p1 : Int32) (h : Hp) : Option (Int32 × Hp) := zbw (f0_M_mapHas a0 p1 h)
set_option maxRecDepth 100000 in
set_option maxHeartbeats 4000000 in
theorem zf_M_mapHas {l : Launch} {C : Ct} {mi : Nat} {a0 : Nat} {p1 : Int32} {h h' : Hp} {v : Int32} (hf : f0_M_mapHas a0 p1 h = some (v, h')) : Z l C mi m_M_mapHas 1 0 [(0, vr (some a0)), (1, vi p1)] [] h (some (vi v)) h' := by
  unfold f0_M_mapHas at hf
  refine z_iconst (v := (0 : Int32)) d_M_mapHas_0 (by decide) ?_
  refine z_istore_n (ls2 := [(2, vi (0 : Int32)), (0, vr (some a0)), (1, vi p1)]) d_M_mapHas_1 rfl (by decide) rfl ?_
  rcases lk_some hf with ⟨x8, el9, hf⟩ | ⟨x8r, el9, hf⟩
  · skip
    refine z_ls [1, 2, 0] rfl ?_
    refine zl_M_mapHas_2 el9 (fun x2 e2 => ?_) (fun rv rh e2 => by cases e2)
    cases e2
    refine z_iconst (v := (0 : Int32)) d_M_mapHas_24 (by decide) ?_
    obtain ⟨rfl, rfl⟩ := Prod.mk.inj (Option.some.inj hf)
    exact z_ret d_M_mapHas_25 rfl
  · skip
    refine z_ls [1, 2, 0] rfl ?_
    refine zl_M_mapHas_2 el9 (fun x2 e2 => by cases e2) (fun rv rh e2 => ?_)
    cases e2
    have e4 := Prod.mk.inj (Option.some.inj hf)
    exact ⟨e4.1.symm, e4.2.symm⟩
set_option maxRecDepth 100000 in
set_option maxHeartbeats 4000000 in
theorem fr0_M_mapHas {C : Ct} {mi : Nat} {a0 : Nat} {p1 : Int32} {h h' : Hp} {v : Int32} (hf : f0_M_mapHas a0 p1 h = some (v, h')) : Keep W_M_mapHas h h' := by
  unfold f0_M_mapHas at hf
  rcases lk_some hf with ⟨x8, el9, hf⟩ | ⟨x8r, el9, hf⟩
  · skip
    have K10 := (Keep.refl W_M_mapHas _).trans (kl_M_mapHas_2 (C := C) (mi := mi) el9)
    obtain ⟨rfl, rfl⟩ := Prod.mk.inj (Option.some.inj hf)
    exact K10
  · skip
    have K11 := (Keep.refl W_M_mapHas _).trans (kl_M_mapHas_2 (C := C) (mi := mi) el9)
    cases (Option.some.inj hf)
    exact K11
theorem fr_M_mapHas {C : Ct} {mi : Nat} {a0 : Nat} {p1 : Int32} {h h' : Hp} {v : Int32} (hf : f_M_mapHas a0 p1 h = some (v, h')) : Keep W_M_mapHas h h' := fr0_M_mapHas (C := C) (mi := mi) (zbw_some hf).2
theorem c_M_mapHas {l : Launch} {C : Ct} {mi : Nat} {a0 : Nat} {p1 : Int32} {h h' : Hp} {v : Int32} (hf : f_M_mapHas a0 p1 h = some (v, h')) : Mt l C mi m_M_mapHas 1 [vr (some a0), vi p1] h (some (vi v)) h' := mt_I (ty := .boolean) rfl rfl (zb_eq (zbw_some hf).1) (by decide) (Nat.le_of_ble_eq_true rfl) (zf_M_mapHas (zbw_some hf).2)
-- VersionMapsModel.pagesToWrite()I
def m_M_pagesToWrite : Mi := (⟨"VersionMapsModel", "pagesToWrite", "()I"⟩, prog_11_method_25_code, 4, (Option.some Jvm.ClassFile.FieldType.int), .ireturn)
theorem cw_M_pagesToWrite : cw_ok m_M_pagesToWrite 0 := ⟨by decide +kernel, by decide +kernel, by decide +kernel, by decide +kernel⟩
theorem im_M_pagesToWrite : Cond.instanceMethod m_M_pagesToWrite.1 ∈ lw_w := by decide +kernel
theorem se_M_pagesToWrite : Cond.selects "VersionMapsModel" m_M_pagesToWrite.1 m_M_pagesToWrite.1 ∈ lw_w := by decide +kernel
theorem d_M_pagesToWrite_0 : decode prog_11_method_25_code 0 = .ok (.iconst 1, 1) := by decide +kernel
theorem d_M_pagesToWrite_1 : decode prog_11_method_25_code 1 = .ok (.istore_n 1, 1) := by decide +kernel
theorem d_M_pagesToWrite_2 : decode prog_11_method_25_code 2 = .ok (.iconst 0, 1) := by decide +kernel
theorem d_M_pagesToWrite_3 : decode prog_11_method_25_code 3 = .ok (.istore_n 2, 1) := by decide +kernel
theorem d_M_pagesToWrite_4 : decode prog_11_method_25_code 4 = .ok (.iload_n 2, 1) := by decide +kernel
theorem d_M_pagesToWrite_5 : decode prog_11_method_25_code 5 = .ok (.iconst 4, 1) := by decide +kernel
theorem d_M_pagesToWrite_6 : decode prog_11_method_25_code 6 = .ok (.if_icmp .ge 66, 3) := by decide +kernel
theorem d_M_pagesToWrite_9 : decode prog_11_method_25_code 9 = .ok (.iconst 0, 1) := by decide +kernel
theorem d_M_pagesToWrite_10 : decode prog_11_method_25_code 10 = .ok (.istore_n 3, 1) := by decide +kernel
theorem d_M_pagesToWrite_11 : decode prog_11_method_25_code 11 = .ok (.iload_n 3, 1) := by decide +kernel
theorem d_M_pagesToWrite_12 : decode prog_11_method_25_code 12 = .ok (.iconst 4, 1) := by decide +kernel
theorem d_M_pagesToWrite_13 : decode prog_11_method_25_code 13 = .ok (.if_icmp .ge 34, 3) := by decide +kernel
theorem d_M_pagesToWrite_16 : decode prog_11_method_25_code 16 = .ok (.aload_n 0, 1) := by decide +kernel
theorem d_M_pagesToWrite_17 : decode prog_11_method_25_code 17 = .ok (.getfield 13, 3) := by decide +kernel
theorem d_M_pagesToWrite_20 : decode prog_11_method_25_code 20 = .ok (.iconst 4, 1) := by decide +kernel
theorem d_M_pagesToWrite_21 : decode prog_11_method_25_code 21 = .ok (.iload_n 2, 1) := by decide +kernel
theorem d_M_pagesToWrite_22 : decode prog_11_method_25_code 22 = .ok (.imul, 1) := by decide +kernel
theorem d_M_pagesToWrite_23 : decode prog_11_method_25_code 23 = .ok (.iload_n 3, 1) := by decide +kernel
theorem d_M_pagesToWrite_24 : decode prog_11_method_25_code 24 = .ok (.iadd, 1) := by decide +kernel
theorem d_M_pagesToWrite_25 : decode prog_11_method_25_code 25 = .ok (.baload, 1) := by decide +kernel
theorem d_M_pagesToWrite_26 : decode prog_11_method_25_code 26 = .ok (.ifCond .eq 15, 3) := by decide +kernel
theorem d_M_pagesToWrite_29 : decode prog_11_method_25_code 29 = .ok (.aload_n 0, 1) := by decide +kernel
theorem d_M_pagesToWrite_30 : decode prog_11_method_25_code 30 = .ok (.iload_n 2, 1) := by decide +kernel
theorem d_M_pagesToWrite_31 : decode prog_11_method_25_code 31 = .ok (.iload_n 3, 1) := by decide +kernel
theorem d_M_pagesToWrite_32 : decode prog_11_method_25_code 32 = .ok (.invokevirtual 143, 3) := by decide +kernel
theorem d_M_pagesToWrite_35 : decode prog_11_method_25_code 35 = .ok (.ifCond .eq 6, 3) := by decide +kernel
theorem d_M_pagesToWrite_38 : decode prog_11_method_25_code 38 = .ok (.iinc 1 1, 3) := by decide +kernel
theorem d_M_pagesToWrite_41 : decode prog_11_method_25_code 41 = .ok (.iinc 3 1, 3) := by decide +kernel
theorem d_M_pagesToWrite_44 : decode prog_11_method_25_code 44 = .ok (.goto (-33), 3) := by decide +kernel
theorem d_M_pagesToWrite_47 : decode prog_11_method_25_code 47 = .ok (.aload_n 0, 1) := by decide +kernel
theorem d_M_pagesToWrite_48 : decode prog_11_method_25_code 48 = .ok (.iload_n 2, 1) := by decide +kernel
theorem d_M_pagesToWrite_49 : decode prog_11_method_25_code 49 = .ok (.invokevirtual 146, 3) := by decide +kernel
theorem d_M_pagesToWrite_52 : decode prog_11_method_25_code 52 = .ok (.ifCond .eq 14, 3) := by decide +kernel
theorem d_M_pagesToWrite_55 : decode prog_11_method_25_code 55 = .ok (.aload_n 0, 1) := by decide +kernel
theorem d_M_pagesToWrite_56 : decode prog_11_method_25_code 56 = .ok (.iload_n 2, 1) := by decide +kernel
theorem d_M_pagesToWrite_57 : decode prog_11_method_25_code 57 = .ok (.invokevirtual 150, 3) := by decide +kernel
theorem d_M_pagesToWrite_60 : decode prog_11_method_25_code 60 = .ok (.ifCond .eq 6, 3) := by decide +kernel
theorem d_M_pagesToWrite_63 : decode prog_11_method_25_code 63 = .ok (.iinc 1 1, 3) := by decide +kernel
theorem d_M_pagesToWrite_66 : decode prog_11_method_25_code 66 = .ok (.iinc 2 1, 3) := by decide +kernel
theorem d_M_pagesToWrite_69 : decode prog_11_method_25_code 69 = .ok (.goto (-65), 3) := by decide +kernel
theorem d_M_pagesToWrite_72 : decode prog_11_method_25_code 72 = .ok (.iload_n 1, 1) := by decide +kernel
theorem d_M_pagesToWrite_73 : decode prog_11_method_25_code 73 = .ok (.ireturn, 1) := by decide +kernel
def W_M_pagesToWrite : Wl := ([], [])
def b_M_pagesToWrite_11 (y0 : Nat) (y1 : Int32) (y2 : Int32) (y3 : Int32) (h : Hp) : Option ((Int32 × Int32 × Hp) ⊕ (Int32 × Hp)) :=
  if (nI 4) ≤ y3 then (some (.inr (y1, h))) else (gd (isK h y0 8) (dr (hpR h y0 1) fun a4 => gd (isK h a4 76) (gd (inb (((nI 4) * y2) + y3) (hpL h a4)) (if (hpI h a4 (((nI 4) * y2) + y3).toNatClampNeg) = 0 then (some (.inl (y1, (y3 + (1 : Int32)), h))) else (cl (f_M_leafHas y0 y2 y3 h) fun v11 h9 => if v11 = 0 then (some (.inl (y1, (y3 + (1 : Int32)), h9))) else (some (.inl ((y1 + (1 : Int32)), (y3 + (1 : Int32)), h9))))))))
set_option maxRecDepth 100000 in
set_option maxHeartbeats 4000000 in
theorem zb_M_pagesToWrite_11 {l : Launch} {C : Ct} {mi : Nat} {y0 : Nat} {y1 : Int32} {y2 : Int32} {y3 : Int32} {h h' : Hp} {v : Int32} {q : ((Int32 × Int32 × Hp) ⊕ (Int32 × Hp))} (hf : b_M_pagesToWrite_11 y0 y1 y2 y3 h = some q) (kc : ∀ s, q = .inl s → Z l C mi m_M_pagesToWrite 2 11 [(0, vr (some y0)), (1, vi s.1), (2, vi y2), (3, vi s.2.1)] [] s.2.2 (some (vi v)) h') (ke : ∀ x, q = .inr x → Z l C mi m_M_pagesToWrite 2 47 [(0, vr (some y0)), (1, vi x.1), (2, vi y2)] [] x.2 (some (vi v)) h') : Z l C mi m_M_pagesToWrite 2 11 [(0, vr (some y0)), (1, vi y1), (2, vi y2), (3, vi y3)] [] h (some (vi v)) h' := by
  unfold b_M_pagesToWrite_11 at hf
  refine z_iload_n 3 d_M_pagesToWrite_11 rfl rfl ?_
  refine z_iconst (v := (nI 4)) d_M_pagesToWrite_12 (by decide) ?_
  refine z_icmp_ge (tgt := 47) d_M_pagesToWrite_13 (by decide) (fun c2 => ?_) (fun c2 => ?_)
  · rw [if_pos c2] at hf
    refine z_ls [0, 1, 2] rfl ?_
    exact ke (y1, h) (Option.some.inj hf).symm
  · rw [if_neg c2] at hf
    refine z_aload_n 0 d_M_pagesToWrite_16 rfl rfl ?_
    obtain ⟨g3, hf⟩ := gd_some hf
    refine z_getR d_M_pagesToWrite_17 (fl_K (isK_eq g3) fl_M_13_8) (fi_K (isK_eq g3) rfl) rfl ?_
    refine z_iconst (v := (nI 4)) d_M_pagesToWrite_20 (by decide) ?_
    refine z_iload_n 2 d_M_pagesToWrite_21 rfl rfl ?_
    refine z_imul d_M_pagesToWrite_22 ?_
    refine z_iload_n 3 d_M_pagesToWrite_23 rfl rfl ?_
    refine z_iadd d_M_pagesToWrite_24 ?_
    obtain ⟨a4, e5, hf⟩ := dr_some hf
    obtain ⟨g6, hf⟩ := gd_some hf
    obtain ⟨g7, hf⟩ := gd_some hf
    refine z_zald d_M_pagesToWrite_25 e5 (by rw [isK_eq g6]; decide) (by rw [isK_eq g6]; rfl) (inb_vp g7) ?_
    refine z_if_eq (tgt := 41) d_M_pagesToWrite_26 (by decide) (fun c8 => ?_) (fun c8 => ?_)
    · rw [if_pos c8] at hf
      refine z_iinc (ls2 := [(3, vi (y3 + (1 : Int32))), (0, vr (some y0)), (1, vi y1), (2, vi y2)]) 3 d_M_pagesToWrite_41 rfl rfl (by decide) rfl ?_
      refine z_goto (tgt := 11) d_M_pagesToWrite_44 (by decide) ?_
      refine z_ls [1, 2, 3, 0] rfl ?_
      exact kc (y1, (y3 + (1 : Int32)), h) (Option.some.inj hf).symm
    · rw [if_neg c8] at hf
      refine z_aload_n 0 d_M_pagesToWrite_29 rfl rfl ?_
      refine z_iload_n 2 d_M_pagesToWrite_30 rfl rfl ?_
      refine z_iload_n 3 d_M_pagesToWrite_31 rfl rfl ?_
      obtain ⟨v11, h9, ec10, hf⟩ := cl_some hf
      refine z_callVx rfl (c_M_leafHas ec10) d_M_pagesToWrite_32 cw_M_leafHas lk_M_143 im_M_leafHas se_M_leafHas (kc_K (isK_eq g3) kc_8) ⟨by decide, by decide⟩ (Nat.le_of_ble_eq_true rfl) rfl ?_
      refine z_if_eq (tgt := 41) d_M_pagesToWrite_35 (by decide) (fun c13 => ?_) (fun c13 => ?_)
      · rw [if_pos c13] at hf
        refine z_iinc (ls2 := [(3, vi (y3 + (1 : Int32))), (0, vr (some y0)), (1, vi y1), (2, vi y2)]) 3 d_M_pagesToWrite_41 rfl rfl (by decide) rfl ?_
        refine z_goto (tgt := 11) d_M_pagesToWrite_44 (by decide) ?_
        refine z_ls [1, 2, 3, 0] rfl ?_
        exact kc (y1, (y3 + (1 : Int32)), h9) (Option.some.inj hf).symm
      · rw [if_neg c13] at hf
        refine z_iinc (ls2 := [(1, vi (y1 + (1 : Int32))), (0, vr (some y0)), (2, vi y2), (3, vi y3)]) 1 d_M_pagesToWrite_38 rfl rfl (by decide) rfl ?_
        refine z_iinc (ls2 := [(3, vi (y3 + (1 : Int32))), (1, vi (y1 + (1 : Int32))), (0, vr (some y0)), (2, vi y2)]) 3 d_M_pagesToWrite_41 rfl rfl (by decide) rfl ?_
        refine z_goto (tgt := 11) d_M_pagesToWrite_44 (by decide) ?_
        refine z_ls [2, 1, 3, 0] rfl ?_
        exact kc ((y1 + (1 : Int32)), (y3 + (1 : Int32)), h9) (Option.some.inj hf).symm
set_option maxRecDepth 100000 in
set_option maxHeartbeats 4000000 in
theorem kb_M_pagesToWrite_11 {C : Ct} {mi : Nat} {y0 : Nat} {y1 : Int32} {y2 : Int32} {y3 : Int32} {h : Hp} {q : ((Int32 × Int32 × Hp) ⊕ (Int32 × Hp))} (hf : b_M_pagesToWrite_11 y0 y1 y2 y3 h = some q) : Keep W_M_pagesToWrite h (Sum.elim (fun s : Int32 × Int32 × Hp => s.2.2) (fun x : Int32 × Hp => x.2) q) := by
  unfold b_M_pagesToWrite_11 at hf
  rcases Classical.em ((nI 4) ≤ y3) with c2 | c2
  · rw [if_pos c2] at hf
    cases (Option.some.inj hf)
    exact (Keep.refl W_M_pagesToWrite _)
  · rw [if_neg c2] at hf
    obtain ⟨g3, hf⟩ := gd_some hf
    obtain ⟨a4, e5, hf⟩ := dr_some hf
    obtain ⟨g6, hf⟩ := gd_some hf
    obtain ⟨g7, hf⟩ := gd_some hf
    rcases Classical.em ((hpI h a4 (((nI 4) * y2) + y3).toNatClampNeg) = 0) with c8 | c8
    · rw [if_pos c8] at hf
      cases (Option.some.inj hf)
      exact (Keep.refl W_M_pagesToWrite _)
    · rw [if_neg c8] at hf
      obtain ⟨v11, h9, ec10, hf⟩ := cl_some hf
      have K12 := (Keep.refl W_M_pagesToWrite _).trans ((fr_M_leafHas (C := C) (mi := mi) ec10).mono (by decide) (by decide))
      rcases Classical.em (v11 = 0) with c13 | c13
      · rw [if_pos c13] at hf
        cases (Option.some.inj hf)
        exact K12
      · rw [if_neg c13] at hf
        cases (Option.some.inj hf)
        exact K12
def l_M_pagesToWrite_11 (y0 : Nat) (y2 : Int32) (s : Int32 × Int32 × Hp) : Option (Int32 × Hp) := lp (fun s => b_M_pagesToWrite_11 y0 s.1 y2 s.2.1 s.2.2) FU s
theorem zzl_M_pagesToWrite_11 {l : Launch} {C : Ct} {mi : Nat} {y0 : Nat} {y2 : Int32} {h' : Hp} {v : Int32} : ∀ (n : Nat) (s : Int32 × Int32 × Hp) (x : (Int32 × Hp)), lp (fun s : Int32 × Int32 × Hp => b_M_pagesToWrite_11 y0 s.1 y2 s.2.1 s.2.2) n s = some x → Z l C mi m_M_pagesToWrite 2 47 [(0, vr (some y0)), (1, vi x.1), (2, vi y2)] [] x.2 (some (vi v)) h' → Z l C mi m_M_pagesToWrite 2 11 [(0, vr (some y0)), (1, vi s.1), (2, vi y2), (3, vi s.2.1)] [] s.2.2 (some (vi v)) h' := by
  intro n
  induction n with
  | zero => intro s x hl; cases hl
  | succ n ih =>
    intro s x hl ke
    rcases lp_some hl with ⟨s2, hb, hl2⟩ | hb
    · exact zb_M_pagesToWrite_11 hb (fun s3 e3 => by cases e3; refine z_ls [0, 1, 2, 3] rfl ?_; exact ih s2 x hl2 ke) (fun x e3 => by cases e3)
    · exact zb_M_pagesToWrite_11 hb (fun s3 e3 => by cases e3) (fun x e3 => by cases e3; exact ke)
theorem zl_M_pagesToWrite_11 {l : Launch} {C : Ct} {mi : Nat} {y0 : Nat} {y2 : Int32} {h' : Hp} {v : Int32} {s : Int32 × Int32 × Hp} {x : (Int32 × Hp)} (hl : l_M_pagesToWrite_11 y0 y2 s = some x) (ke : Z l C mi m_M_pagesToWrite 2 47 [(0, vr (some y0)), (1, vi x.1), (2, vi y2)] [] x.2 (some (vi v)) h') : Z l C mi m_M_pagesToWrite 2 11 [(0, vr (some y0)), (1, vi s.1), (2, vi y2), (3, vi s.2.1)] [] s.2.2 (some (vi v)) h' := zzl_M_pagesToWrite_11 FU s x hl ke
theorem kl_M_pagesToWrite_11 {C : Ct} {mi : Nat} {y0 : Nat} {y2 : Int32} {s : Int32 × Int32 × Hp} {q : (Int32 × Hp)} (hl : l_M_pagesToWrite_11 y0 y2 s = some q) : Keep W_M_pagesToWrite s.2.2 ((fun x : Int32 × Hp => x.2) q) := lpk (sh := (fun s : Int32 × Int32 × Hp => s.2.2)) (rh := (fun x : Int32 × Hp => x.2)) (fun s q hb => kb_M_pagesToWrite_11 (C := C) (mi := mi) hb) FU s q hl
def b_M_pagesToWrite_4 (y0 : Nat) (y1 : Int32) (y2 : Int32) (h : Hp) : Option ((Int32 × Int32 × Hp) ⊕ (Int32 × Hp)) :=
  if (nI 4) ≤ y2 then (some (.inr (y1, h))) else (bd (l_M_pagesToWrite_11 y0 y2 (y1, (0 : Int32), h)) fun x14 => gd (isK x14.2 y0 8) (cl (f_M_isTouched y0 y2 x14.2) fun v20 h18 => if v20 = 0 then (some (.inl (x14.1, (y2 + (1 : Int32)), h18))) else (gd (isK h18 y0 8) (cl (f_M_mapHas y0 y2 h18) fun v26 h24 => if v26 = 0 then (some (.inl (x14.1, (y2 + (1 : Int32)), h24))) else (some (.inl ((x14.1 + (1 : Int32)), (y2 + (1 : Int32)), h24)))))))
set_option maxRecDepth 100000 in
set_option maxHeartbeats 4000000 in
theorem zb_M_pagesToWrite_4 {l : Launch} {C : Ct} {mi : Nat} {y0 : Nat} {y1 : Int32} {y2 : Int32} {h h' : Hp} {v : Int32} {q : ((Int32 × Int32 × Hp) ⊕ (Int32 × Hp))} (hf : b_M_pagesToWrite_4 y0 y1 y2 h = some q) (kc : ∀ s, q = .inl s → Z l C mi m_M_pagesToWrite 2 4 [(0, vr (some y0)), (1, vi s.1), (2, vi s.2.1)] [] s.2.2 (some (vi v)) h') (ke : ∀ x, q = .inr x → Z l C mi m_M_pagesToWrite 2 72 [(1, vi x.1)] [] x.2 (some (vi v)) h') : Z l C mi m_M_pagesToWrite 2 4 [(0, vr (some y0)), (1, vi y1), (2, vi y2)] [] h (some (vi v)) h' := by
  unfold b_M_pagesToWrite_4 at hf
  refine z_iload_n 2 d_M_pagesToWrite_4 rfl rfl ?_
  refine z_iconst (v := (nI 4)) d_M_pagesToWrite_5 (by decide) ?_
  refine z_icmp_ge (tgt := 72) d_M_pagesToWrite_6 (by decide) (fun c1 => ?_) (fun c1 => ?_)
  · rw [if_pos c1] at hf
    refine z_ls [1] rfl ?_
    exact ke (y1, h) (Option.some.inj hf).symm
  · rw [if_neg c1] at hf
    refine z_iconst (v := (0 : Int32)) d_M_pagesToWrite_9 (by decide) ?_
    refine z_istore_n (ls2 := [(3, vi (0 : Int32)), (0, vr (some y0)), (1, vi y1), (2, vi y2)]) d_M_pagesToWrite_10 rfl (by decide) rfl ?_
    obtain ⟨x14, el15, hf⟩ := bd_some hf
    refine z_ls [1, 2, 3, 0] rfl ?_
    refine zl_M_pagesToWrite_11 el15 ?_
    refine z_aload_n 0 d_M_pagesToWrite_47 rfl rfl ?_
    refine z_iload_n 2 d_M_pagesToWrite_48 rfl rfl ?_
    obtain ⟨g17, hf⟩ := gd_some hf
    obtain ⟨v20, h18, ec19, hf⟩ := cl_some hf
    refine z_callVx rfl (c_M_isTouched ec19) d_M_pagesToWrite_49 cw_M_isTouched lk_M_146 im_M_isTouched se_M_isTouched (kc_K (isK_eq g17) kc_8) ⟨by decide, by decide⟩ (Nat.le_of_ble_eq_true rfl) rfl ?_
    refine z_if_eq (tgt := 66) d_M_pagesToWrite_52 (by decide) (fun c22 => ?_) (fun c22 => ?_)
    · rw [if_pos c22] at hf
      refine z_iinc (ls2 := [(2, vi (y2 + (1 : Int32))), (0, vr (some y0)), (1, vi x14.1)]) 2 d_M_pagesToWrite_66 rfl rfl (by decide) rfl ?_
      refine z_goto (tgt := 4) d_M_pagesToWrite_69 (by decide) ?_
      refine z_ls [1, 2, 0] rfl ?_
      exact kc (x14.1, (y2 + (1 : Int32)), h18) (Option.some.inj hf).symm
    · rw [if_neg c22] at hf
      refine z_aload_n 0 d_M_pagesToWrite_55 rfl rfl ?_
      refine z_iload_n 2 d_M_pagesToWrite_56 rfl rfl ?_
      obtain ⟨g23, hf⟩ := gd_some hf
      obtain ⟨v26, h24, ec25, hf⟩ := cl_some hf
      refine z_callVx rfl (c_M_mapHas ec25) d_M_pagesToWrite_57 cw_M_mapHas lk_M_150 im_M_mapHas se_M_mapHas (kc_K (isK_eq g23) kc_8) ⟨by decide, by decide⟩ (Nat.le_of_ble_eq_true rfl) rfl ?_
      refine z_if_eq (tgt := 66) d_M_pagesToWrite_60 (by decide) (fun c28 => ?_) (fun c28 => ?_)
      · rw [if_pos c28] at hf
        refine z_iinc (ls2 := [(2, vi (y2 + (1 : Int32))), (0, vr (some y0)), (1, vi x14.1)]) 2 d_M_pagesToWrite_66 rfl rfl (by decide) rfl ?_
        refine z_goto (tgt := 4) d_M_pagesToWrite_69 (by decide) ?_
        refine z_ls [1, 2, 0] rfl ?_
        exact kc (x14.1, (y2 + (1 : Int32)), h24) (Option.some.inj hf).symm
      · rw [if_neg c28] at hf
        refine z_iinc (ls2 := [(1, vi (x14.1 + (1 : Int32))), (0, vr (some y0)), (2, vi y2)]) 1 d_M_pagesToWrite_63 rfl rfl (by decide) rfl ?_
        refine z_iinc (ls2 := [(2, vi (y2 + (1 : Int32))), (1, vi (x14.1 + (1 : Int32))), (0, vr (some y0))]) 2 d_M_pagesToWrite_66 rfl rfl (by decide) rfl ?_
        refine z_goto (tgt := 4) d_M_pagesToWrite_69 (by decide) ?_
        refine z_ls [2, 1, 0] rfl ?_
        exact kc ((x14.1 + (1 : Int32)), (y2 + (1 : Int32)), h24) (Option.some.inj hf).symm
set_option maxRecDepth 100000 in
set_option maxHeartbeats 4000000 in
theorem kb_M_pagesToWrite_4 {C : Ct} {mi : Nat} {y0 : Nat} {y1 : Int32} {y2 : Int32} {h : Hp} {q : ((Int32 × Int32 × Hp) ⊕ (Int32 × Hp))} (hf : b_M_pagesToWrite_4 y0 y1 y2 h = some q) : Keep W_M_pagesToWrite h (Sum.elim (fun s : Int32 × Int32 × Hp => s.2.2) (fun x : Int32 × Hp => x.2) q) := by
  unfold b_M_pagesToWrite_4 at hf
  rcases Classical.em ((nI 4) ≤ y2) with c1 | c1
  · rw [if_pos c1] at hf
    cases (Option.some.inj hf)
    exact (Keep.refl W_M_pagesToWrite _)
  · rw [if_neg c1] at hf
    obtain ⟨x14, el15, hf⟩ := bd_some hf
    have K16 := (Keep.refl W_M_pagesToWrite _).trans (kl_M_pagesToWrite_11 (C := C) (mi := mi) el15)
    obtain ⟨g17, hf⟩ := gd_some hf
    obtain ⟨v20, h18, ec19, hf⟩ := cl_some hf
    have K21 := K16.trans ((fr_M_isTouched (C := C) (mi := mi) ec19).mono (by decide) (by decide))
    rcases Classical.em (v20 = 0) with c22 | c22
    · rw [if_pos c22] at hf
      cases (Option.some.inj hf)
      exact K21
    · rw [if_neg c22] at hf
      obtain ⟨g23, hf⟩ := gd_some hf
      obtain ⟨v26, h24, ec25, hf⟩ := cl_some hf
      have K27 := K21.trans ((fr_M_mapHas (C := C) (mi := mi) ec25).mono (by decide) (by decide))
      rcases Classical.em (v26 = 0) with c28 | c28
      · rw [if_pos c28] at hf
        cases (Option.some.inj hf)
        exact K27
      · rw [if_neg c28] at hf
        cases (Option.some.inj hf)
        exact K27
def l_M_pagesToWrite_4 (y0 : Nat) (s : Int32 × Int32 × Hp) : Option (Int32 × Hp) := lp (fun s => b_M_pagesToWrite_4 y0 s.1 s.2.1 s.2.2) FU s
theorem zzl_M_pagesToWrite_4 {l : Launch} {C : Ct} {mi : Nat} {y0 : Nat} {h' : Hp} {v : Int32} : ∀ (n : Nat) (s : Int32 × Int32 × Hp) (x : (Int32 × Hp)), lp (fun s : Int32 × Int32 × Hp => b_M_pagesToWrite_4 y0 s.1 s.2.1 s.2.2) n s = some x → Z l C mi m_M_pagesToWrite 2 72 [(1, vi x.1)] [] x.2 (some (vi v)) h' → Z l C mi m_M_pagesToWrite 2 4 [(0, vr (some y0)), (1, vi s.1), (2, vi s.2.1)] [] s.2.2 (some (vi v)) h' := by
  intro n
  induction n with
  | zero => intro s x hl; cases hl
  | succ n ih =>
    intro s x hl ke
    rcases lp_some hl with ⟨s2, hb, hl2⟩ | hb
    · exact zb_M_pagesToWrite_4 hb (fun s3 e3 => by cases e3; refine z_ls [0, 1, 2] rfl ?_; exact ih s2 x hl2 ke) (fun x e3 => by cases e3)
    · exact zb_M_pagesToWrite_4 hb (fun s3 e3 => by cases e3) (fun x e3 => by cases e3; exact ke)
theorem zl_M_pagesToWrite_4 {l : Launch} {C : Ct} {mi : Nat} {y0 : Nat} {h' : Hp} {v : Int32} {s : Int32 × Int32 × Hp} {x : (Int32 × Hp)} (hl : l_M_pagesToWrite_4 y0 s = some x) (ke : Z l C mi m_M_pagesToWrite 2 72 [(1, vi x.1)] [] x.2 (some (vi v)) h') : Z l C mi m_M_pagesToWrite 2 4 [(0, vr (some y0)), (1, vi s.1), (2, vi s.2.1)] [] s.2.2 (some (vi v)) h' := zzl_M_pagesToWrite_4 FU s x hl ke
theorem kl_M_pagesToWrite_4 {C : Ct} {mi : Nat} {y0 : Nat} {s : Int32 × Int32 × Hp} {q : (Int32 × Hp)} (hl : l_M_pagesToWrite_4 y0 s = some q) : Keep W_M_pagesToWrite s.2.2 ((fun x : Int32 × Hp => x.2) q) := lpk (sh := (fun s : Int32 × Int32 × Hp => s.2.2)) (rh := (fun x : Int32 × Hp => x.2)) (fun s q hb => kb_M_pagesToWrite_4 (C := C) (mi := mi) hb) FU s q hl
def f_M_pagesToWrite (a0 : Nat) (h : Hp) : Option (Int32 × Hp) :=
  bd (l_M_pagesToWrite_4 a0 ((1 : Int32), (0 : Int32), h)) fun x29 => some (x29.1, x29.2)
set_option maxRecDepth 100000 in
set_option maxHeartbeats 4000000 in
theorem zf_M_pagesToWrite {l : Launch} {C : Ct} {mi : Nat} {a0 : Nat} {h h' : Hp} {v : Int32} (hf : f_M_pagesToWrite a0 h = some (v, h')) : Z l C mi m_M_pagesToWrite 2 0 [(0, vr (some a0))] [] h (some (vi v)) h' := by
  unfold f_M_pagesToWrite at hf
  refine z_iconst (v := (1 : Int32)) d_M_pagesToWrite_0 (by decide) ?_
  refine z_istore_n (ls2 := [(1, vi (1 : Int32)), (0, vr (some a0))]) d_M_pagesToWrite_1 rfl (by decide) rfl ?_
  refine z_iconst (v := (0 : Int32)) d_M_pagesToWrite_2 (by decide) ?_
  refine z_istore_n (ls2 := [(2, vi (0 : Int32)), (1, vi (1 : Int32)), (0, vr (some a0))]) d_M_pagesToWrite_3 rfl (by decide) rfl ?_
  obtain ⟨x29, el30, hf⟩ := bd_some hf
  refine z_ls [2, 1, 0] rfl ?_
  refine zl_M_pagesToWrite_4 el30 ?_
  refine z_iload_n 0 d_M_pagesToWrite_72 rfl rfl ?_
  obtain ⟨rfl, rfl⟩ := Prod.mk.inj (Option.some.inj hf)
  exact z_ret d_M_pagesToWrite_73 rfl
set_option maxRecDepth 100000 in
set_option maxHeartbeats 4000000 in
theorem fr_M_pagesToWrite {C : Ct} {mi : Nat} {a0 : Nat} {h h' : Hp} {v : Int32} (hf : f_M_pagesToWrite a0 h = some (v, h')) : Keep W_M_pagesToWrite h h' := by
  unfold f_M_pagesToWrite at hf
  obtain ⟨x29, el30, hf⟩ := bd_some hf
  have K31 := (Keep.refl W_M_pagesToWrite _).trans (kl_M_pagesToWrite_4 (C := C) (mi := mi) el30)
  obtain ⟨rfl, rfl⟩ := Prod.mk.inj (Option.some.inj hf)
  exact K31
theorem c_M_pagesToWrite {l : Launch} {C : Ct} {mi : Nat} {a0 : Nat} {h h' : Hp} {v : Int32} (hf : f_M_pagesToWrite a0 h = some (v, h')) : Mt l C mi m_M_pagesToWrite 2 [vr (some a0)] h (some (vi v)) h' := mt_I (ty := .int) rfl rfl rfl (by decide) (Nat.le_of_ble_eq_true rfl) (zf_M_pagesToWrite hf)
-- VersionMapsModel.room(I)I
def m_M_room : Mi := (⟨"VersionMapsModel", "room", "(I)I"⟩, prog_11_method_26_code, 4, (Option.some Jvm.ClassFile.FieldType.int), .ireturn)
theorem cw_M_room : cw_ok m_M_room 1 := ⟨by decide +kernel, by decide +kernel, by decide +kernel, by decide +kernel⟩
theorem im_M_room : Cond.instanceMethod m_M_room.1 ∈ lw_w := by decide +kernel
theorem se_M_room : Cond.selects "VersionMapsModel" m_M_room.1 m_M_room.1 ∈ lw_w := by decide +kernel
theorem d_M_room_0 : decode prog_11_method_26_code 0 = .ok (.iconst 0, 1) := by decide +kernel
theorem d_M_room_1 : decode prog_11_method_26_code 1 = .ok (.istore_n 2, 1) := by decide +kernel
theorem d_M_room_2 : decode prog_11_method_26_code 2 = .ok (.iconst 0, 1) := by decide +kernel
theorem d_M_room_3 : decode prog_11_method_26_code 3 = .ok (.istore_n 3, 1) := by decide +kernel
theorem d_M_room_4 : decode prog_11_method_26_code 4 = .ok (.iload_n 3, 1) := by decide +kernel
theorem d_M_room_5 : decode prog_11_method_26_code 5 = .ok (.bipush 32, 2) := by decide +kernel
theorem d_M_room_7 : decode prog_11_method_26_code 7 = .ok (.if_icmp .ge 37, 3) := by decide +kernel
theorem d_M_room_10 : decode prog_11_method_26_code 10 = .ok (.aload_n 0, 1) := by decide +kernel
theorem d_M_room_11 : decode prog_11_method_26_code 11 = .ok (.getfield 65, 3) := by decide +kernel
theorem d_M_room_14 : decode prog_11_method_26_code 14 = .ok (.iload_n 3, 1) := by decide +kernel
theorem d_M_room_15 : decode prog_11_method_26_code 15 = .ok (.baload, 1) := by decide +kernel
theorem d_M_room_16 : decode prog_11_method_26_code 16 = .ok (.ifCond .eq 9, 3) := by decide +kernel
theorem d_M_room_19 : decode prog_11_method_26_code 19 = .ok (.iload_n 2, 1) := by decide +kernel
theorem d_M_room_20 : decode prog_11_method_26_code 20 = .ok (.iconst 1, 1) := by decide +kernel
theorem d_M_room_21 : decode prog_11_method_26_code 21 = .ok (.iadd, 1) := by decide +kernel
theorem d_M_room_22 : decode prog_11_method_26_code 22 = .ok (.goto 4, 3) := by decide +kernel
theorem d_M_room_25 : decode prog_11_method_26_code 25 = .ok (.iconst 0, 1) := by decide +kernel
theorem d_M_room_26 : decode prog_11_method_26_code 26 = .ok (.istore_n 2, 1) := by decide +kernel
theorem d_M_room_27 : decode prog_11_method_26_code 27 = .ok (.iload_n 2, 1) := by decide +kernel
theorem d_M_room_28 : decode prog_11_method_26_code 28 = .ok (.iload_n 1, 1) := by decide +kernel
theorem d_M_room_29 : decode prog_11_method_26_code 29 = .ok (.if_icmp .ne 9, 3) := by decide +kernel
theorem d_M_room_32 : decode prog_11_method_26_code 32 = .ok (.iload_n 3, 1) := by decide +kernel
theorem d_M_room_33 : decode prog_11_method_26_code 33 = .ok (.iload_n 1, 1) := by decide +kernel
theorem d_M_room_34 : decode prog_11_method_26_code 34 = .ok (.isub, 1) := by decide +kernel
theorem d_M_room_35 : decode prog_11_method_26_code 35 = .ok (.iconst 1, 1) := by decide +kernel
theorem d_M_room_36 : decode prog_11_method_26_code 36 = .ok (.iadd, 1) := by decide +kernel
theorem d_M_room_37 : decode prog_11_method_26_code 37 = .ok (.ireturn, 1) := by decide +kernel
theorem d_M_room_38 : decode prog_11_method_26_code 38 = .ok (.iinc 3 1, 3) := by decide +kernel
theorem d_M_room_41 : decode prog_11_method_26_code 41 = .ok (.goto (-37), 3) := by decide +kernel
theorem d_M_room_44 : decode prog_11_method_26_code 44 = .ok (.iconst (-1), 1) := by decide +kernel
theorem d_M_room_45 : decode prog_11_method_26_code 45 = .ok (.ireturn, 1) := by decide +kernel
def W_M_room : Wl := ([], [])
def j_M_room_26_L4 (y0 : Nat) (y1 : Int32) (y3 : Int32) (w0 : Int32) (h : Hp) : Option ((Int32 × Int32 × Hp) ⊕ ((Hp) ⊕ (Int32 × Hp))) :=
  if w0 = y1 then (some (.inr (.inr (((y3 - y1) + (1 : Int32)), h)))) else (some (.inl (w0, (y3 + (1 : Int32)), h)))
set_option maxRecDepth 100000 in
set_option maxHeartbeats 4000000 in
theorem zj_M_room_26_L4 {l : Launch} {C : Ct} {mi : Nat} {y0 : Nat} {y1 : Int32} {y3 : Int32} {w0 : Int32} {h h' : Hp} {v : Int32} {q : ((Int32 × Int32 × Hp) ⊕ ((Hp) ⊕ (Int32 × Hp)))} (hf : j_M_room_26_L4 y0 y1 y3 w0 h = some q) (kc : ∀ s, q = .inl s → Z l C mi m_M_room 0 4 [(0, vr (some y0)), (1, vi y1), (2, vi s.1), (3, vi s.2.1)] [] s.2.2 (some (vi v)) h') (ke : ∀ x, q = .inr (.inl x) → Z l C mi m_M_room 0 44 [] [] x (some (vi v)) h') (kr : ∀ rv rh, q = .inr (.inr (rv, rh)) → v = rv ∧ h' = rh) : Z l C mi m_M_room 0 26 [(0, vr (some y0)), (1, vi y1), (3, vi y3)] [vi w0] h (some (vi v)) h' := by
  unfold j_M_room_26_L4 at hf
  refine z_istore_n (ls2 := [(2, vi w0), (0, vr (some y0)), (1, vi y1), (3, vi y3)]) d_M_room_26 rfl (by decide) rfl ?_
  refine z_iload_n 0 d_M_room_27 rfl rfl ?_
  refine z_iload_n 2 d_M_room_28 rfl rfl ?_
  refine z_icmp_ne (tgt := 38) d_M_room_29 (by decide) (fun c8 => ?_) (fun c8 => ?_)
  · rw [if_neg c8] at hf
    refine z_iinc (ls2 := [(3, vi (y3 + (1 : Int32))), (2, vi w0), (0, vr (some y0)), (1, vi y1)]) 3 d_M_room_38 rfl rfl (by decide) rfl ?_
    refine z_goto (tgt := 4) d_M_room_41 (by decide) ?_
    refine z_ls [2, 3, 1, 0] rfl ?_
    exact kc (w0, (y3 + (1 : Int32)), h) (Option.some.inj hf).symm
  · rw [if_pos c8] at hf
    refine z_iload_n 3 d_M_room_32 rfl rfl ?_
    refine z_iload_n 2 d_M_room_33 rfl rfl ?_
    refine z_isub d_M_room_34 ?_
    refine z_iconst (v := (1 : Int32)) d_M_room_35 (by decide) ?_
    refine z_iadd d_M_room_36 ?_
    obtain ⟨rfl, rfl⟩ := kr _ _ (Option.some.inj hf).symm
    exact z_ret d_M_room_37 rfl
set_option maxRecDepth 100000 in
set_option maxHeartbeats 4000000 in
theorem kj_M_room_26_L4 {C : Ct} {mi : Nat} {y0 : Nat} {y1 : Int32} {y3 : Int32} {w0 : Int32} {h : Hp} {q : ((Int32 × Int32 × Hp) ⊕ ((Hp) ⊕ (Int32 × Hp)))} (hf : j_M_room_26_L4 y0 y1 y3 w0 h = some q) : Keep W_M_room h (Sum.elim (fun s : Int32 × Int32 × Hp => s.2.2) (Sum.elim (fun x : Hp => x) (fun r : (Int32 × Hp) => r.2)) q) := by
  unfold j_M_room_26_L4 at hf
  rcases (Classical.em (w0 = y1)).symm with c8 | c8
  · rw [if_neg c8] at hf
    cases (Option.some.inj hf)
    exact (Keep.refl W_M_room _)
  · rw [if_pos c8] at hf
    cases (Option.some.inj hf)
    exact (Keep.refl W_M_room _)
def b_M_room_4 (y0 : Nat) (y1 : Int32) (y2 : Int32) (y3 : Int32) (h : Hp) : Option ((Int32 × Int32 × Hp) ⊕ ((Hp) ⊕ (Int32 × Hp))) :=
  if (nI 32) ≤ y3 then (some (.inr (.inl h))) else (gd (isK h y0 8) (dr (hpR h y0 18) fun a3 => gd (isK h a3 93) (gd (inb y3 (hpL h a3)) (if (hpI h a3 y3.toNatClampNeg) = 0 then (j_M_room_26_L4 y0 y1 y3 (0 : Int32) h) else (j_M_room_26_L4 y0 y1 y3 (y2 + (1 : Int32)) h)))))
set_option maxRecDepth 100000 in
set_option maxHeartbeats 4000000 in
theorem zb_M_room_4 {l : Launch} {C : Ct} {mi : Nat} {y0 : Nat} {y1 : Int32} {y2 : Int32} {y3 : Int32} {h h' : Hp} {v : Int32} {q : ((Int32 × Int32 × Hp) ⊕ ((Hp) ⊕ (Int32 × Hp)))} (hf : b_M_room_4 y0 y1 y2 y3 h = some q) (kc : ∀ s, q = .inl s → Z l C mi m_M_room 0 4 [(0, vr (some y0)), (1, vi y1), (2, vi s.1), (3, vi s.2.1)] [] s.2.2 (some (vi v)) h') (ke : ∀ x, q = .inr (.inl x) → Z l C mi m_M_room 0 44 [] [] x (some (vi v)) h') (kr : ∀ rv rh, q = .inr (.inr (rv, rh)) → v = rv ∧ h' = rh) : Z l C mi m_M_room 0 4 [(0, vr (some y0)), (1, vi y1), (2, vi y2), (3, vi y3)] [] h (some (vi v)) h' := by
  unfold b_M_room_4 at hf
  refine z_iload_n 3 d_M_room_4 rfl rfl ?_
  refine z_bipush (v := (nI 32)) d_M_room_5 (by decide) ?_
  refine z_icmp_ge (tgt := 44) d_M_room_7 (by decide) (fun c1 => ?_) (fun c1 => ?_)
  · rw [if_pos c1] at hf
    refine z_ls [] rfl ?_
    exact ke h (Option.some.inj hf).symm
  · rw [if_neg c1] at hf
    refine z_aload_n 0 d_M_room_10 rfl rfl ?_
    obtain ⟨g2, hf⟩ := gd_some hf
    refine z_getR d_M_room_11 (fl_K (isK_eq g2) fl_M_65_8) (fi_K (isK_eq g2) rfl) rfl ?_
    refine z_iload_n 3 d_M_room_14 rfl rfl ?_
    obtain ⟨a3, e4, hf⟩ := dr_some hf
    obtain ⟨g5, hf⟩ := gd_some hf
    obtain ⟨g6, hf⟩ := gd_some hf
    refine z_zald d_M_room_15 e4 (by rw [isK_eq g5]; decide) (by rw [isK_eq g5]; rfl) (inb_vp g6) ?_
    refine z_if_eq (tgt := 25) d_M_room_16 (by decide) (fun c7 => ?_) (fun c7 => ?_)
    · rw [if_pos c7] at hf
      refine z_iconst (v := (0 : Int32)) d_M_room_25 (by decide) ?_
      refine z_ls [0, 1, 3] rfl ?_
      exact zj_M_room_26_L4 hf kc ke kr
    · rw [if_neg c7] at hf
      refine z_iload_n 2 d_M_room_19 rfl rfl ?_
      refine z_iconst (v := (1 : Int32)) d_M_room_20 (by decide) ?_
      refine z_iadd d_M_room_21 ?_
      refine z_goto (tgt := 26) d_M_room_22 (by decide) ?_
      refine z_ls [0, 1, 3] rfl ?_
      exact zj_M_room_26_L4 hf kc ke kr
set_option maxRecDepth 100000 in
set_option maxHeartbeats 4000000 in
theorem kb_M_room_4 {C : Ct} {mi : Nat} {y0 : Nat} {y1 : Int32} {y2 : Int32} {y3 : Int32} {h : Hp} {q : ((Int32 × Int32 × Hp) ⊕ ((Hp) ⊕ (Int32 × Hp)))} (hf : b_M_room_4 y0 y1 y2 y3 h = some q) : Keep W_M_room h (Sum.elim (fun s : Int32 × Int32 × Hp => s.2.2) (Sum.elim (fun x : Hp => x) (fun r : (Int32 × Hp) => r.2)) q) := by
  unfold b_M_room_4 at hf
  rcases Classical.em ((nI 32) ≤ y3) with c1 | c1
  · rw [if_pos c1] at hf
    cases (Option.some.inj hf)
    exact (Keep.refl W_M_room _)
  · rw [if_neg c1] at hf
    obtain ⟨g2, hf⟩ := gd_some hf
    obtain ⟨a3, e4, hf⟩ := dr_some hf
    obtain ⟨g5, hf⟩ := gd_some hf
    obtain ⟨g6, hf⟩ := gd_some hf
    rcases Classical.em ((hpI h a3 y3.toNatClampNeg) = 0) with c7 | c7
    · rw [if_pos c7] at hf
      exact (Keep.refl W_M_room _).trans (kj_M_room_26_L4 (C := C) (mi := mi) hf)
    · rw [if_neg c7] at hf
      exact (Keep.refl W_M_room _).trans (kj_M_room_26_L4 (C := C) (mi := mi) hf)
def l_M_room_4 (y0 : Nat) (y1 : Int32) (s : Int32 × Int32 × Hp) : Option ((Hp) ⊕ (Int32 × Hp)) := lp (fun s => b_M_room_4 y0 y1 s.1 s.2.1 s.2.2) FU s
theorem zzl_M_room_4 {l : Launch} {C : Ct} {mi : Nat} {y0 : Nat} {y1 : Int32} {h' : Hp} {v : Int32} : ∀ (n : Nat) (s : Int32 × Int32 × Hp) (q : ((Hp) ⊕ (Int32 × Hp))), lp (fun s : Int32 × Int32 × Hp => b_M_room_4 y0 y1 s.1 s.2.1 s.2.2) n s = some q → (∀ x, q = .inl x → Z l C mi m_M_room 0 44 [] [] x (some (vi v)) h') → (∀ rv rh, q = .inr (rv, rh) → v = rv ∧ h' = rh) → Z l C mi m_M_room 0 4 [(0, vr (some y0)), (1, vi y1), (2, vi s.1), (3, vi s.2.1)] [] s.2.2 (some (vi v)) h' := by
  intro n
  induction n with
  | zero => intro s q hl; cases hl
  | succ n ih =>
    intro s q hl ke kr
    rcases lp_some hl with ⟨s2, hb, hl2⟩ | hb
    · exact zb_M_room_4 hb (fun s3 e3 => by cases e3; refine z_ls [0, 1, 2, 3] rfl ?_; exact ih s2 q hl2 ke kr) (fun x e3 => by cases e3) (fun rv rh e3 => by cases e3)
    · exact zb_M_room_4 hb (fun s3 e3 => by cases e3) (fun x e3 => ke x (Sum.inr.inj e3)) (fun rv rh e3 => kr rv rh (Sum.inr.inj e3))
theorem zl_M_room_4 {l : Launch} {C : Ct} {mi : Nat} {y0 : Nat} {y1 : Int32} {h' : Hp} {v : Int32} {s : Int32 × Int32 × Hp} {q : ((Hp) ⊕ (Int32 × Hp))} (hl : l_M_room_4 y0 y1 s = some q) (ke : ∀ x, q = .inl x → Z l C mi m_M_room 0 44 [] [] x (some (vi v)) h') (kr : ∀ rv rh, q = .inr (rv, rh) → v = rv ∧ h' = rh) : Z l C mi m_M_room 0 4 [(0, vr (some y0)), (1, vi y1), (2, vi s.1), (3, vi s.2.1)] [] s.2.2 (some (vi v)) h' := zzl_M_room_4 FU s q hl ke kr
theorem kl_M_room_4 {C : Ct} {mi : Nat} {y0 : Nat} {y1 : Int32} {s : Int32 × Int32 × Hp} {q : ((Hp) ⊕ (Int32 × Hp))} (hl : l_M_room_4 y0 y1 s = some q) : Keep W_M_room s.2.2 ((Sum.elim (fun x : Hp => x) (fun r : (Int32 × Hp) => r.2)) q) := lpk (sh := (fun s : Int32 × Int32 × Hp => s.2.2)) (rh := (Sum.elim (fun x : Hp => x) (fun r : (Int32 × Hp) => r.2))) (fun s q hb => kb_M_room_4 (C := C) (mi := mi) hb) FU s q hl
def f_M_room (a0 : Nat) (p1 : Int32) (h : Hp) : Option (Int32 × Hp) :=
  lk (l_M_room_4 a0 p1 ((0 : Int32), (0 : Int32), h)) (fun x9 => some ((-1 : Int32), x9)) some
set_option maxRecDepth 100000 in
set_option maxHeartbeats 4000000 in
theorem zf_M_room {l : Launch} {C : Ct} {mi : Nat} {a0 : Nat} {p1 : Int32} {h h' : Hp} {v : Int32} (hf : f_M_room a0 p1 h = some (v, h')) : Z l C mi m_M_room 0 0 [(0, vr (some a0)), (1, vi p1)] [] h (some (vi v)) h' := by
  unfold f_M_room at hf
  refine z_iconst (v := (0 : Int32)) d_M_room_0 (by decide) ?_
  refine z_istore_n (ls2 := [(2, vi (0 : Int32)), (0, vr (some a0)), (1, vi p1)]) d_M_room_1 rfl (by decide) rfl ?_
  refine z_iconst (v := (0 : Int32)) d_M_room_2 (by decide) ?_
  refine z_istore_n (ls2 := [(3, vi (0 : Int32)), (2, vi (0 : Int32)), (0, vr (some a0)), (1, vi p1)]) d_M_room_3 rfl (by decide) rfl ?_
  rcases lk_some hf with ⟨x9, el10, hf⟩ | ⟨x9r, el10, hf⟩
  · skip
    refine z_ls [2, 3, 1, 0] rfl ?_
    refine zl_M_room_4 el10 (fun x2 e2 => ?_) (fun rv rh e2 => by cases e2)
    cases e2
    refine z_iconst (v := (-1 : Int32)) d_M_room_44 (by decide) ?_
    obtain ⟨rfl, rfl⟩ := Prod.mk.inj (Option.some.inj hf)
    exact z_ret d_M_room_45 rfl
  · skip
    refine z_ls [2, 3, 1, 0] rfl ?_
    refine zl_M_room_4 el10 (fun x2 e2 => by cases e2) (fun rv rh e2 => ?_)
    cases e2
    have e4 := Prod.mk.inj (Option.some.inj hf)
    exact ⟨e4.1.symm, e4.2.symm⟩
set_option maxRecDepth 100000 in
set_option maxHeartbeats 4000000 in
theorem fr_M_room {C : Ct} {mi : Nat} {a0 : Nat} {p1 : Int32} {h h' : Hp} {v : Int32} (hf : f_M_room a0 p1 h = some (v, h')) : Keep W_M_room h h' := by
  unfold f_M_room at hf
  rcases lk_some hf with ⟨x9, el10, hf⟩ | ⟨x9r, el10, hf⟩
  · skip
    have K11 := (Keep.refl W_M_room _).trans (kl_M_room_4 (C := C) (mi := mi) el10)
    obtain ⟨rfl, rfl⟩ := Prod.mk.inj (Option.some.inj hf)
    exact K11
  · skip
    have K12 := (Keep.refl W_M_room _).trans (kl_M_room_4 (C := C) (mi := mi) el10)
    cases (Option.some.inj hf)
    exact K12
theorem c_M_room {l : Launch} {C : Ct} {mi : Nat} {a0 : Nat} {p1 : Int32} {h h' : Hp} {v : Int32} (hf : f_M_room a0 p1 h = some (v, h')) : Mt l C mi m_M_room 0 [vr (some a0), vi p1] h (some (vi v)) h' := mt_I (ty := .int) rfl rfl rfl (by decide) (Nat.le_of_ble_eq_true rfl) (zf_M_room hf)
-- VersionMapsModel.holds(IIZ)Z
def m_M_holds : Mi := (⟨"VersionMapsModel", "holds", "(IIZ)Z"⟩, prog_11_method_4_code, 5, (Option.some Jvm.ClassFile.FieldType.boolean), .ireturn)
theorem cw_M_holds : cw_ok m_M_holds 3 := ⟨by decide +kernel, by decide +kernel, by decide +kernel, by decide +kernel⟩
theorem im_M_holds : Cond.instanceMethod m_M_holds.1 ∈ lw_w := by decide +kernel
theorem se_M_holds : Cond.selects "VersionMapsModel" m_M_holds.1 m_M_holds.1 ∈ lw_w := by decide +kernel
theorem d_M_holds_0 : decode prog_11_method_4_code 0 = .ok (.iconst 0, 1) := by decide +kernel
theorem d_M_holds_1 : decode prog_11_method_4_code 1 = .ok (.istore 4, 2) := by decide +kernel
theorem d_M_holds_3 : decode prog_11_method_4_code 3 = .ok (.iload 4, 2) := by decide +kernel
theorem d_M_holds_5 : decode prog_11_method_4_code 5 = .ok (.bipush 32, 2) := by decide +kernel
theorem d_M_holds_7 : decode prog_11_method_4_code 7 = .ok (.if_icmp .ge 62, 3) := by decide +kernel
theorem d_M_holds_10 : decode prog_11_method_4_code 10 = .ok (.iload_n 3, 1) := by decide +kernel
theorem d_M_holds_11 : decode prog_11_method_4_code 11 = .ok (.ifCond .eq 28, 3) := by decide +kernel
theorem d_M_holds_14 : decode prog_11_method_4_code 14 = .ok (.aload_n 0, 1) := by decide +kernel
theorem d_M_holds_15 : decode prog_11_method_4_code 15 = .ok (.getfield 56, 3) := by decide +kernel
theorem d_M_holds_18 : decode prog_11_method_4_code 18 = .ok (.iload 4, 2) := by decide +kernel
theorem d_M_holds_20 : decode prog_11_method_4_code 20 = .ok (.iaload, 1) := by decide +kernel
theorem d_M_holds_21 : decode prog_11_method_4_code 21 = .ok (.iload_n 1, 1) := by decide +kernel
theorem d_M_holds_22 : decode prog_11_method_4_code 22 = .ok (.if_icmp .ne 41, 3) := by decide +kernel
theorem d_M_holds_25 : decode prog_11_method_4_code 25 = .ok (.aload_n 0, 1) := by decide +kernel
theorem d_M_holds_26 : decode prog_11_method_4_code 26 = .ok (.getfield 59, 3) := by decide +kernel
theorem d_M_holds_29 : decode prog_11_method_4_code 29 = .ok (.iload 4, 2) := by decide +kernel
theorem d_M_holds_31 : decode prog_11_method_4_code 31 = .ok (.iaload, 1) := by decide +kernel
theorem d_M_holds_32 : decode prog_11_method_4_code 32 = .ok (.iload_n 2, 1) := by decide +kernel
theorem d_M_holds_33 : decode prog_11_method_4_code 33 = .ok (.if_icmp .ne 30, 3) := by decide +kernel
theorem d_M_holds_36 : decode prog_11_method_4_code 36 = .ok (.goto 25, 3) := by decide +kernel
theorem d_M_holds_39 : decode prog_11_method_4_code 39 = .ok (.aload_n 0, 1) := by decide +kernel
theorem d_M_holds_40 : decode prog_11_method_4_code 40 = .ok (.getfield 50, 3) := by decide +kernel
theorem d_M_holds_43 : decode prog_11_method_4_code 43 = .ok (.iload 4, 2) := by decide +kernel
theorem d_M_holds_45 : decode prog_11_method_4_code 45 = .ok (.iaload, 1) := by decide +kernel
theorem d_M_holds_46 : decode prog_11_method_4_code 46 = .ok (.iload_n 1, 1) := by decide +kernel
theorem d_M_holds_47 : decode prog_11_method_4_code 47 = .ok (.if_icmp .ne 16, 3) := by decide +kernel
theorem d_M_holds_50 : decode prog_11_method_4_code 50 = .ok (.aload_n 0, 1) := by decide +kernel
theorem d_M_holds_51 : decode prog_11_method_4_code 51 = .ok (.getfield 53, 3) := by decide +kernel
theorem d_M_holds_54 : decode prog_11_method_4_code 54 = .ok (.iload 4, 2) := by decide +kernel
theorem d_M_holds_56 : decode prog_11_method_4_code 56 = .ok (.iaload, 1) := by decide +kernel
theorem d_M_holds_57 : decode prog_11_method_4_code 57 = .ok (.iload_n 2, 1) := by decide +kernel
theorem d_M_holds_58 : decode prog_11_method_4_code 58 = .ok (.if_icmp .ne 5, 3) := by decide +kernel
theorem d_M_holds_61 : decode prog_11_method_4_code 61 = .ok (.iconst 1, 1) := by decide +kernel
theorem d_M_holds_62 : decode prog_11_method_4_code 62 = .ok (.ireturn, 1) := by decide +kernel
theorem d_M_holds_63 : decode prog_11_method_4_code 63 = .ok (.iinc 4 1, 3) := by decide +kernel
theorem d_M_holds_66 : decode prog_11_method_4_code 66 = .ok (.goto (-63), 3) := by decide +kernel
theorem d_M_holds_69 : decode prog_11_method_4_code 69 = .ok (.iconst 0, 1) := by decide +kernel
theorem d_M_holds_70 : decode prog_11_method_4_code 70 = .ok (.ireturn, 1) := by decide +kernel
def W_M_holds : Wl := ([], [])
def b_M_holds_3 (y0 : Nat) (y1 : Int32) (y2 : Int32) (y3 : Int32) (y4 : Int32) (h : Hp) : Option ((Int32 × Hp) ⊕ ((Hp) ⊕ (Int32 × Hp))) :=
  if (nI 32) ≤ y4 then (some (.inr (.inl h))) else (if y3 = 0 then (gd (isK h y0 8) (dr (hpR h y0 13) fun a4 => gd (isK h a4 88) (gd (inb y4 (hpL h a4)) (if (hpI h a4 y4.toNatClampNeg) = y1 then (dr (hpR h y0 14) fun a9 => gd (isK h a9 89) (gd (inb y4 (hpL h a9)) (if (hpI h a9 y4.toNatClampNeg) = y2 then (some (.inr (.inr ((1 : Int32), h)))) else (some (.inl ((y4 + (1 : Int32)), h)))))) else (some (.inl ((y4 + (1 : Int32)), h))))))) else (gd (isK h y0 8) (dr (hpR h y0 15) fun a15 => gd (isK h a15 90) (gd (inb y4 (hpL h a15)) (if (hpI h a15 y4.toNatClampNeg) = y1 then (dr (hpR h y0 16) fun a20 => gd (isK h a20 91) (gd (inb y4 (hpL h a20)) (if (hpI h a20 y4.toNatClampNeg) = y2 then (some (.inr (.inr ((1 : Int32), h)))) else (some (.inl ((y4 + (1 : Int32)), h)))))) else (some (.inl ((y4 + (1 : Int32)), h))))))))
set_option maxRecDepth 100000 in
set_option maxHeartbeats 4000000 in
theorem zb_M_holds_3 {l : Launch} {C : Ct} {mi : Nat} {y0 : Nat} {y1 : Int32} {y2 : Int32} {y3 : Int32} {y4 : Int32} {h h' : Hp} {v : Int32} {q : ((Int32 × Hp) ⊕ ((Hp) ⊕ (Int32 × Hp)))} (hf : b_M_holds_3 y0 y1 y2 y3 y4 h = some q) (kc : ∀ s, q = .inl s → Z l C mi m_M_holds 0 3 [(0, vr (some y0)), (1, vi y1), (2, vi y2), (3, vi y3), (4, vi s.1)] [] s.2 (some (vi v)) h') (ke : ∀ x, q = .inr (.inl x) → Z l C mi m_M_holds 0 69 [] [] x (some (vi v)) h') (kr : ∀ rv rh, q = .inr (.inr (rv, rh)) → v = rv ∧ h' = rh) : Z l C mi m_M_holds 0 3 [(0, vr (some y0)), (1, vi y1), (2, vi y2), (3, vi y3), (4, vi y4)] [] h (some (vi v)) h' := by
  unfold b_M_holds_3 at hf
  refine z_iload 4 d_M_holds_3 rfl ?_
  refine z_bipush (v := (nI 32)) d_M_holds_5 (by decide) ?_
  refine z_icmp_ge (tgt := 69) d_M_holds_7 (by decide) (fun c1 => ?_) (fun c1 => ?_)
  · rw [if_pos c1] at hf
    refine z_ls [] rfl ?_
    exact ke h (Option.some.inj hf).symm
  · rw [if_neg c1] at hf
    refine z_iload_n 3 d_M_holds_10 rfl rfl ?_
    refine z_if_eq (tgt := 39) d_M_holds_11 (by decide) (fun c2 => ?_) (fun c2 => ?_)
    · rw [if_pos c2] at hf
      refine z_aload_n 0 d_M_holds_39 rfl rfl ?_
      obtain ⟨g3, hf⟩ := gd_some hf
      refine z_getR d_M_holds_40 (fl_K (isK_eq g3) fl_M_50_8) (fi_K (isK_eq g3) rfl) rfl ?_
      refine z_iload 4 d_M_holds_43 rfl ?_
      obtain ⟨a4, e5, hf⟩ := dr_some hf
      obtain ⟨g6, hf⟩ := gd_some hf
      obtain ⟨g7, hf⟩ := gd_some hf
      refine z_iald d_M_holds_45 e5 (by rw [isK_eq g6]; decide) (by rw [isK_eq g6]; rfl) (inb_vp g7) ?_
      refine z_iload_n 1 d_M_holds_46 rfl rfl ?_
      refine z_icmp_ne (tgt := 63) d_M_holds_47 (by decide) (fun c8 => ?_) (fun c8 => ?_)
      · rw [if_neg c8] at hf
        refine z_iinc (ls2 := [(4, vi (y4 + (1 : Int32))), (0, vr (some y0)), (1, vi y1), (2, vi y2), (3, vi y3)]) 4 d_M_holds_63 rfl rfl (by decide) rfl ?_
        refine z_goto (tgt := 3) d_M_holds_66 (by decide) ?_
        refine z_ls [1, 2, 3, 4, 0] rfl ?_
        exact kc ((y4 + (1 : Int32)), h) (Option.some.inj hf).symm
      · rw [if_pos c8] at hf
        refine z_aload_n 0 d_M_holds_50 rfl rfl ?_
        refine z_getR d_M_holds_51 (fl_K (isK_eq g3) fl_M_53_8) (fi_K (isK_eq g3) rfl) rfl ?_
        refine z_iload 4 d_M_holds_54 rfl ?_
        obtain ⟨a9, e10, hf⟩ := dr_some hf
        obtain ⟨g11, hf⟩ := gd_some hf
        obtain ⟨g12, hf⟩ := gd_some hf
        refine z_iald d_M_holds_56 e10 (by rw [isK_eq g11]; decide) (by rw [isK_eq g11]; rfl) (inb_vp g12) ?_
        refine z_iload_n 2 d_M_holds_57 rfl rfl ?_
        refine z_icmp_ne (tgt := 63) d_M_holds_58 (by decide) (fun c13 => ?_) (fun c13 => ?_)
        · rw [if_neg c13] at hf
          refine z_iinc (ls2 := [(4, vi (y4 + (1 : Int32))), (0, vr (some y0)), (1, vi y1), (2, vi y2), (3, vi y3)]) 4 d_M_holds_63 rfl rfl (by decide) rfl ?_
          refine z_goto (tgt := 3) d_M_holds_66 (by decide) ?_
          refine z_ls [1, 2, 3, 4, 0] rfl ?_
          exact kc ((y4 + (1 : Int32)), h) (Option.some.inj hf).symm
        · rw [if_pos c13] at hf
          refine z_iconst (v := (1 : Int32)) d_M_holds_61 (by decide) ?_
          obtain ⟨rfl, rfl⟩ := kr _ _ (Option.some.inj hf).symm
          exact z_ret d_M_holds_62 rfl
    · rw [if_neg c2] at hf
      refine z_aload_n 0 d_M_holds_14 rfl rfl ?_
      obtain ⟨g14, hf⟩ := gd_some hf
      refine z_getR d_M_holds_15 (fl_K (isK_eq g14) fl_M_56_8) (fi_K (isK_eq g14) rfl) rfl ?_
      refine z_iload 4 d_M_holds_18 rfl ?_
      obtain ⟨a15, e16, hf⟩ := dr_some hf
      obtain ⟨g17, hf⟩ := gd_some hf
      obtain ⟨g18, hf⟩ := gd_some hf
      refine z_iald d_M_holds_20 e16 (by rw [isK_eq g17]; decide) (by rw [isK_eq g17]; rfl) (inb_vp g18) ?_
      refine z_iload_n 1 d_M_holds_21 rfl rfl ?_
      refine z_icmp_ne (tgt := 63) d_M_holds_22 (by decide) (fun c19 => ?_) (fun c19 => ?_)
      · rw [if_neg c19] at hf
        refine z_iinc (ls2 := [(4, vi (y4 + (1 : Int32))), (0, vr (some y0)), (1, vi y1), (2, vi y2), (3, vi y3)]) 4 d_M_holds_63 rfl rfl (by decide) rfl ?_
        refine z_goto (tgt := 3) d_M_holds_66 (by decide) ?_
        refine z_ls [1, 2, 3, 4, 0] rfl ?_
        exact kc ((y4 + (1 : Int32)), h) (Option.some.inj hf).symm
      · rw [if_pos c19] at hf
        refine z_aload_n 0 d_M_holds_25 rfl rfl ?_
        refine z_getR d_M_holds_26 (fl_K (isK_eq g14) fl_M_59_8) (fi_K (isK_eq g14) rfl) rfl ?_
        refine z_iload 4 d_M_holds_29 rfl ?_
        obtain ⟨a20, e21, hf⟩ := dr_some hf
        obtain ⟨g22, hf⟩ := gd_some hf
        obtain ⟨g23, hf⟩ := gd_some hf
        refine z_iald d_M_holds_31 e21 (by rw [isK_eq g22]; decide) (by rw [isK_eq g22]; rfl) (inb_vp g23) ?_
        refine z_iload_n 2 d_M_holds_32 rfl rfl ?_
        refine z_icmp_ne (tgt := 63) d_M_holds_33 (by decide) (fun c24 => ?_) (fun c24 => ?_)
        · rw [if_neg c24] at hf
          refine z_iinc (ls2 := [(4, vi (y4 + (1 : Int32))), (0, vr (some y0)), (1, vi y1), (2, vi y2), (3, vi y3)]) 4 d_M_holds_63 rfl rfl (by decide) rfl ?_
          refine z_goto (tgt := 3) d_M_holds_66 (by decide) ?_
          refine z_ls [1, 2, 3, 4, 0] rfl ?_
          exact kc ((y4 + (1 : Int32)), h) (Option.some.inj hf).symm
        · rw [if_pos c24] at hf
          refine z_goto (tgt := 61) d_M_holds_36 (by decide) ?_
          refine z_iconst (v := (1 : Int32)) d_M_holds_61 (by decide) ?_
          obtain ⟨rfl, rfl⟩ := kr _ _ (Option.some.inj hf).symm
          exact z_ret d_M_holds_62 rfl
set_option maxRecDepth 100000 in
set_option maxHeartbeats 4000000 in
theorem kb_M_holds_3 {C : Ct} {mi : Nat} {y0 : Nat} {y1 : Int32} {y2 : Int32} {y3 : Int32} {y4 : Int32} {h : Hp} {q : ((Int32 × Hp) ⊕ ((Hp) ⊕ (Int32 × Hp)))} (hf : b_M_holds_3 y0 y1 y2 y3 y4 h = some q) : Keep W_M_holds h (Sum.elim (fun s : Int32 × Hp => s.2) (Sum.elim (fun x : Hp => x) (fun r : (Int32 × Hp) => r.2)) q) := by
  unfold b_M_holds_3 at hf
  rcases Classical.em ((nI 32) ≤ y4) with c1 | c1
  · rw [if_pos c1] at hf
    cases (Option.some.inj hf)
    exact (Keep.refl W_M_holds _)
  · rw [if_neg c1] at hf
    rcases Classical.em (y3 = 0) with c2 | c2
    · rw [if_pos c2] at hf
      obtain ⟨g3, hf⟩ := gd_some hf
      obtain ⟨a4, e5, hf⟩ := dr_some hf
      obtain ⟨g6, hf⟩ := gd_some hf
      obtain ⟨g7, hf⟩ := gd_some hf
      rcases (Classical.em ((hpI h a4 y4.toNatClampNeg) = y1)).symm with c8 | c8
      · rw [if_neg c8] at hf
        cases (Option.some.inj hf)
        exact (Keep.refl W_M_holds _)
      · rw [if_pos c8] at hf
        obtain ⟨a9, e10, hf⟩ := dr_some hf
        obtain ⟨g11, hf⟩ := gd_some hf
        obtain ⟨g12, hf⟩ := gd_some hf
        rcases (Classical.em ((hpI h a9 y4.toNatClampNeg) = y2)).symm with c13 | c13
        · rw [if_neg c13] at hf
          cases (Option.some.inj hf)
          exact (Keep.refl W_M_holds _)
        · rw [if_pos c13] at hf
          cases (Option.some.inj hf)
          exact (Keep.refl W_M_holds _)
    · rw [if_neg c2] at hf
      obtain ⟨g14, hf⟩ := gd_some hf
      obtain ⟨a15, e16, hf⟩ := dr_some hf
      obtain ⟨g17, hf⟩ := gd_some hf
      obtain ⟨g18, hf⟩ := gd_some hf
      rcases (Classical.em ((hpI h a15 y4.toNatClampNeg) = y1)).symm with c19 | c19
      · rw [if_neg c19] at hf
        cases (Option.some.inj hf)
        exact (Keep.refl W_M_holds _)
      · rw [if_pos c19] at hf
        obtain ⟨a20, e21, hf⟩ := dr_some hf
        obtain ⟨g22, hf⟩ := gd_some hf
        obtain ⟨g23, hf⟩ := gd_some hf
        rcases (Classical.em ((hpI h a20 y4.toNatClampNeg) = y2)).symm with c24 | c24
        · rw [if_neg c24] at hf
          cases (Option.some.inj hf)
          exact (Keep.refl W_M_holds _)
        · rw [if_pos c24] at hf
          cases (Option.some.inj hf)
          exact (Keep.refl W_M_holds _)
def l_M_holds_3 (y0 : Nat) (y1 : Int32) (y2 : Int32) (y3 : Int32) (s : Int32 × Hp) : Option ((Hp) ⊕ (Int32 × Hp)) := lp (fun s => b_M_holds_3 y0 y1 y2 y3 s.1 s.2) FU s
theorem zzl_M_holds_3 {l : Launch} {C : Ct} {mi : Nat} {y0 : Nat} {y1 : Int32} {y2 : Int32} {y3 : Int32} {h' : Hp} {v : Int32} : ∀ (n : Nat) (s : Int32 × Hp) (q : ((Hp) ⊕ (Int32 × Hp))), lp (fun s : Int32 × Hp => b_M_holds_3 y0 y1 y2 y3 s.1 s.2) n s = some q → (∀ x, q = .inl x → Z l C mi m_M_holds 0 69 [] [] x (some (vi v)) h') → (∀ rv rh, q = .inr (rv, rh) → v = rv ∧ h' = rh) → Z l C mi m_M_holds 0 3 [(0, vr (some y0)), (1, vi y1), (2, vi y2), (3, vi y3), (4, vi s.1)] [] s.2 (some (vi v)) h' := by
  intro n
  induction n with
  | zero => intro s q hl; cases hl
  | succ n ih =>
    intro s q hl ke kr
    rcases lp_some hl with ⟨s2, hb, hl2⟩ | hb
    · exact zb_M_holds_3 hb (fun s3 e3 => by cases e3; refine z_ls [0, 1, 2, 3, 4] rfl ?_; exact ih s2 q hl2 ke kr) (fun x e3 => by cases e3) (fun rv rh e3 => by cases e3)
    · exact zb_M_holds_3 hb (fun s3 e3 => by cases e3) (fun x e3 => ke x (Sum.inr.inj e3)) (fun rv rh e3 => kr rv rh (Sum.inr.inj e3))
theorem zl_M_holds_3 {l : Launch} {C : Ct} {mi : Nat} {y0 : Nat} {y1 : Int32} {y2 : Int32} {y3 : Int32} {h' : Hp} {v : Int32} {s : Int32 × Hp} {q : ((Hp) ⊕ (Int32 × Hp))} (hl : l_M_holds_3 y0 y1 y2 y3 s = some q) (ke : ∀ x, q = .inl x → Z l C mi m_M_holds 0 69 [] [] x (some (vi v)) h') (kr : ∀ rv rh, q = .inr (rv, rh) → v = rv ∧ h' = rh) : Z l C mi m_M_holds 0 3 [(0, vr (some y0)), (1, vi y1), (2, vi y2), (3, vi y3), (4, vi s.1)] [] s.2 (some (vi v)) h' := zzl_M_holds_3 FU s q hl ke kr
theorem kl_M_holds_3 {C : Ct} {mi : Nat} {y0 : Nat} {y1 : Int32} {y2 : Int32} {y3 : Int32} {s : Int32 × Hp} {q : ((Hp) ⊕ (Int32 × Hp))} (hl : l_M_holds_3 y0 y1 y2 y3 s = some q) : Keep W_M_holds s.2 ((Sum.elim (fun x : Hp => x) (fun r : (Int32 × Hp) => r.2)) q) := lpk (sh := (fun s : Int32 × Hp => s.2)) (rh := (Sum.elim (fun x : Hp => x) (fun r : (Int32 × Hp) => r.2))) (fun s q hb => kb_M_holds_3 (C := C) (mi := mi) hb) FU s q hl
def f0_M_holds (a0 : Nat) (p1 : Int32) (p2 : Int32) (p3 : Int32) (h : Hp) : Option (Int32 × Hp) :=
  lk (l_M_holds_3 a0 p1 p2 p3 ((0 : Int32), h)) (fun x25 => some ((0 : Int32), x25)) some
def f_M_holds (a0 : Nat) (p1 : Int32) (p2 : Int32) (p3 : Int32) (h : Hp) : Option (Int32 × Hp) := zbw (f0_M_holds a0 p1 p2 p3 h)
set_option maxRecDepth 100000 in
set_option maxHeartbeats 4000000 in
theorem zf_M_holds {l : Launch} {C : Ct} {mi : Nat} {a0 : Nat} {p1 : Int32} {p2 : Int32} {p3 : Int32} {h h' : Hp} {v : Int32} (hf : f0_M_holds a0 p1 p2 p3 h = some (v, h')) : Z l C mi m_M_holds 0 0 [(0, vr (some a0)), (1, vi p1), (2, vi p2), (3, vi p3)] [] h (some (vi v)) h' := by
  unfold f0_M_holds at hf
  refine z_iconst (v := (0 : Int32)) d_M_holds_0 (by decide) ?_
  refine z_istore (ls2 := [(4, vi (0 : Int32)), (0, vr (some a0)), (1, vi p1), (2, vi p2), (3, vi p3)]) d_M_holds_1 (by decide) rfl ?_
  rcases lk_some hf with ⟨x25, el26, hf⟩ | ⟨x25r, el26, hf⟩
  · skip
    refine z_ls [1, 2, 3, 4, 0] rfl ?_
    refine zl_M_holds_3 el26 (fun x2 e2 => ?_) (fun rv rh e2 => by cases e2)
    cases e2
    refine z_iconst (v := (0 : Int32)) d_M_holds_69 (by decide) ?_
    obtain ⟨rfl, rfl⟩ := Prod.mk.inj (Option.some.inj hf)
    exact z_ret d_M_holds_70 rfl
  · skip
    refine z_ls [1, 2, 3, 4, 0] rfl ?_
    refine zl_M_holds_3 el26 (fun x2 e2 => by cases e2) (fun rv rh e2 => ?_)
    cases e2
    have e4 := Prod.mk.inj (Option.some.inj hf)
    exact ⟨e4.1.symm, e4.2.symm⟩
set_option maxRecDepth 100000 in
set_option maxHeartbeats 4000000 in
theorem fr0_M_holds {C : Ct} {mi : Nat} {a0 : Nat} {p1 : Int32} {p2 : Int32} {p3 : Int32} {h h' : Hp} {v : Int32} (hf : f0_M_holds a0 p1 p2 p3 h = some (v, h')) : Keep W_M_holds h h' := by
  unfold f0_M_holds at hf
  rcases lk_some hf with ⟨x25, el26, hf⟩ | ⟨x25r, el26, hf⟩
  · skip
    have K27 := (Keep.refl W_M_holds _).trans (kl_M_holds_3 (C := C) (mi := mi) el26)
    obtain ⟨rfl, rfl⟩ := Prod.mk.inj (Option.some.inj hf)
    exact K27
  · skip
    have K28 := (Keep.refl W_M_holds _).trans (kl_M_holds_3 (C := C) (mi := mi) el26)
    cases (Option.some.inj hf)
    exact K28
theorem fr_M_holds {C : Ct} {mi : Nat} {a0 : Nat} {p1 : Int32} {p2 : Int32} {p3 : Int32} {h h' : Hp} {v : Int32} (hf : f_M_holds a0 p1 p2 p3 h = some (v, h')) : Keep W_M_holds h h' := fr0_M_holds (C := C) (mi := mi) (zbw_some hf).2
theorem c_M_holds {l : Launch} {C : Ct} {mi : Nat} {a0 : Nat} {p1 : Int32} {p2 : Int32} {p3 : Int32} {h h' : Hp} {v : Int32} (hf : f_M_holds a0 p1 p2 p3 h = some (v, h')) : Mt l C mi m_M_holds 0 [vr (some a0), vi p1, vi p2, vi p3] h (some (vi v)) h' := mt_I (ty := .boolean) rfl rfl (zb_eq (zbw_some hf).1) (by decide) (Nat.le_of_ble_eq_true rfl) (zf_M_holds (zbw_some hf).2)
-- VersionMapsModel.purge()V
def m_M_purge : Mi := (⟨"VersionMapsModel", "purge", "()V"⟩, prog_11_method_5_code, 5, (Option.none : Option Jvm.ClassFile.FieldType), .return_)
theorem cw_M_purge : cw_ok m_M_purge 0 := ⟨by decide +kernel, by decide +kernel, by decide +kernel, by decide +kernel⟩
theorem im_M_purge : Cond.instanceMethod m_M_purge.1 ∈ lw_w := by decide +kernel
theorem se_M_purge : Cond.selects "VersionMapsModel" m_M_purge.1 m_M_purge.1 ∈ lw_w := by decide +kernel
theorem d_M_purge_0 : decode prog_11_method_5_code 0 = .ok (.iconst 0, 1) := by decide +kernel
theorem d_M_purge_1 : decode prog_11_method_5_code 1 = .ok (.istore_n 1, 1) := by decide +kernel
theorem d_M_purge_2 : decode prog_11_method_5_code 2 = .ok (.iload_n 1, 1) := by decide +kernel
theorem d_M_purge_3 : decode prog_11_method_5_code 3 = .ok (.sipush 160, 3) := by decide +kernel
theorem d_M_purge_6 : decode prog_11_method_5_code 6 = .ok (.if_icmp .ge 68, 3) := by decide +kernel
theorem d_M_purge_9 : decode prog_11_method_5_code 9 = .ok (.aload_n 0, 1) := by decide +kernel
theorem d_M_purge_10 : decode prog_11_method_5_code 10 = .ok (.getfield 23, 3) := by decide +kernel
theorem d_M_purge_13 : decode prog_11_method_5_code 13 = .ok (.iload_n 1, 1) := by decide +kernel
theorem d_M_purge_14 : decode prog_11_method_5_code 14 = .ok (.iaload, 1) := by decide +kernel
theorem d_M_purge_15 : decode prog_11_method_5_code 15 = .ok (.istore_n 2, 1) := by decide +kernel
theorem d_M_purge_16 : decode prog_11_method_5_code 16 = .ok (.aload_n 0, 1) := by decide +kernel
theorem d_M_purge_17 : decode prog_11_method_5_code 17 = .ok (.getfield 26, 3) := by decide +kernel
theorem d_M_purge_20 : decode prog_11_method_5_code 20 = .ok (.iload_n 1, 1) := by decide +kernel
theorem d_M_purge_21 : decode prog_11_method_5_code 21 = .ok (.iaload, 1) := by decide +kernel
theorem d_M_purge_22 : decode prog_11_method_5_code 22 = .ok (.iconst 2, 1) := by decide +kernel
theorem d_M_purge_23 : decode prog_11_method_5_code 23 = .ok (.idiv, 1) := by decide +kernel
theorem d_M_purge_24 : decode prog_11_method_5_code 24 = .ok (.istore_n 3, 1) := by decide +kernel
theorem d_M_purge_25 : decode prog_11_method_5_code 25 = .ok (.iload_n 2, 1) := by decide +kernel
theorem d_M_purge_26 : decode prog_11_method_5_code 26 = .ok (.ifCond .le 27, 3) := by decide +kernel
theorem d_M_purge_29 : decode prog_11_method_5_code 29 = .ok (.aload_n 0, 1) := by decide +kernel
theorem d_M_purge_30 : decode prog_11_method_5_code 30 = .ok (.iload_n 2, 1) := by decide +kernel
theorem d_M_purge_31 : decode prog_11_method_5_code 31 = .ok (.iload_n 3, 1) := by decide +kernel
theorem d_M_purge_32 : decode prog_11_method_5_code 32 = .ok (.iconst 0, 1) := by decide +kernel
theorem d_M_purge_33 : decode prog_11_method_5_code 33 = .ok (.invokevirtual 105, 3) := by decide +kernel
theorem d_M_purge_36 : decode prog_11_method_5_code 36 = .ok (.ifCond .ne 13, 3) := by decide +kernel
theorem d_M_purge_39 : decode prog_11_method_5_code 39 = .ok (.aload_n 0, 1) := by decide +kernel
theorem d_M_purge_40 : decode prog_11_method_5_code 40 = .ok (.iload_n 2, 1) := by decide +kernel
theorem d_M_purge_41 : decode prog_11_method_5_code 41 = .ok (.iload_n 3, 1) := by decide +kernel
theorem d_M_purge_42 : decode prog_11_method_5_code 42 = .ok (.iconst 1, 1) := by decide +kernel
theorem d_M_purge_43 : decode prog_11_method_5_code 43 = .ok (.invokevirtual 105, 3) := by decide +kernel
theorem d_M_purge_46 : decode prog_11_method_5_code 46 = .ok (.ifCond .eq 7, 3) := by decide +kernel
theorem d_M_purge_49 : decode prog_11_method_5_code 49 = .ok (.iconst 1, 1) := by decide +kernel
theorem d_M_purge_50 : decode prog_11_method_5_code 50 = .ok (.goto 4, 3) := by decide +kernel
theorem d_M_purge_53 : decode prog_11_method_5_code 53 = .ok (.iconst 0, 1) := by decide +kernel
theorem d_M_purge_54 : decode prog_11_method_5_code 54 = .ok (.istore 4, 2) := by decide +kernel
theorem d_M_purge_56 : decode prog_11_method_5_code 56 = .ok (.iload 4, 2) := by decide +kernel
theorem d_M_purge_58 : decode prog_11_method_5_code 58 = .ok (.ifCond .ne 10, 3) := by decide +kernel
theorem d_M_purge_61 : decode prog_11_method_5_code 61 = .ok (.aload_n 0, 1) := by decide +kernel
theorem d_M_purge_62 : decode prog_11_method_5_code 62 = .ok (.getfield 23, 3) := by decide +kernel
theorem d_M_purge_65 : decode prog_11_method_5_code 65 = .ok (.iload_n 1, 1) := by decide +kernel
theorem d_M_purge_66 : decode prog_11_method_5_code 66 = .ok (.iconst 0, 1) := by decide +kernel
theorem d_M_purge_67 : decode prog_11_method_5_code 67 = .ok (.iastore, 1) := by decide +kernel
theorem d_M_purge_68 : decode prog_11_method_5_code 68 = .ok (.iinc 1 1, 3) := by decide +kernel
theorem d_M_purge_71 : decode prog_11_method_5_code 71 = .ok (.goto (-69), 3) := by decide +kernel
theorem d_M_purge_74 : decode prog_11_method_5_code 74 = .ok (.return_, 1) := by decide +kernel
def W_M_purge : Wl := ([], [79])
def j_M_purge_54_L2 (y0 : Nat) (y1 : Int32) (w0 : Int32) (h : Hp) : Option ((Int32 × Hp) ⊕ (Hp)) :=
  if w0 = 0 then (gd (isK h y0 8) (dr (hpR h y0 4) fun a14 => gd (isK h a14 79) (gd (inb y1 (hpL h a14)) (nm (wI h a14 y1.toNatClampNeg (0 : Int32)) fun h18 => some (.inl ((y1 + (1 : Int32)), h18)))))) else (some (.inl ((y1 + (1 : Int32)), h)))
set_option maxRecDepth 100000 in
set_option maxHeartbeats 4000000 in
theorem zj_M_purge_54_L2 {l : Launch} {C : Ct} {mi : Nat} {y0 : Nat} {y1 : Int32} {w0 : Int32} {h h' : Hp} {q : ((Int32 × Hp) ⊕ (Hp))} (hf : j_M_purge_54_L2 y0 y1 w0 h = some q) (kc : ∀ s, q = .inl s → Z l C mi m_M_purge 1 2 [(0, vr (some y0)), (1, vi s.1)] [] s.2 none h') (ke : ∀ x, q = .inr x → Z l C mi m_M_purge 1 74 [] [] x none h') : Z l C mi m_M_purge 1 54 [(0, vr (some y0)), (1, vi y1)] [vi w0] h none h' := by
  unfold j_M_purge_54_L2 at hf
  refine z_istore (ls2 := [(4, vi w0), (0, vr (some y0)), (1, vi y1)]) d_M_purge_54 (by decide) rfl ?_
  refine z_iload 0 d_M_purge_56 rfl ?_
  refine z_if_ne (tgt := 68) d_M_purge_58 (by decide) (fun c12 => ?_) (fun c12 => ?_)
  · rw [if_neg c12] at hf
    refine z_iinc (ls2 := [(1, vi (y1 + (1 : Int32))), (4, vi w0), (0, vr (some y0))]) 2 d_M_purge_68 rfl rfl (by decide) rfl ?_
    refine z_goto (tgt := 2) d_M_purge_71 (by decide) ?_
    refine z_ls [2, 0] rfl ?_
    exact kc ((y1 + (1 : Int32)), h) (Option.some.inj hf).symm
  · rw [if_pos c12] at hf
    refine z_aload_n 1 d_M_purge_61 rfl rfl ?_
    obtain ⟨g13, hf⟩ := gd_some hf
    refine z_getR d_M_purge_62 (fl_K (isK_eq g13) fl_M_23_8) (fi_K (isK_eq g13) rfl) rfl ?_
    refine z_iload_n 2 d_M_purge_65 rfl rfl ?_
    refine z_iconst (v := (0 : Int32)) d_M_purge_66 (by decide) ?_
    obtain ⟨a14, e15, hf⟩ := dr_some hf
    obtain ⟨g16, hf⟩ := gd_some hf
    obtain ⟨g17, hf⟩ := gd_some hf
    obtain ⟨h18, eh19, hf⟩ := nm_some hf
    refine z_iast d_M_purge_67 e15 (by rw [isK_eq g16]; decide) (by rw [isK_eq g16]; rfl) (inb_vp g17) ?_
    refine z_hp eh19 ?_
    refine z_iinc (ls2 := [(1, vi (y1 + (1 : Int32))), (4, vi w0), (0, vr (some y0))]) 2 d_M_purge_68 rfl rfl (by decide) rfl ?_
    refine z_goto (tgt := 2) d_M_purge_71 (by decide) ?_
    refine z_ls [2, 0] rfl ?_
    exact kc ((y1 + (1 : Int32)), h18) (Option.some.inj hf).symm
set_option maxRecDepth 100000 in
set_option maxHeartbeats 4000000 in
theorem kj_M_purge_54_L2 {C : Ct} {mi : Nat} {y0 : Nat} {y1 : Int32} {w0 : Int32} {h : Hp} {q : ((Int32 × Hp) ⊕ (Hp))} (hf : j_M_purge_54_L2 y0 y1 w0 h = some q) : Keep W_M_purge h (Sum.elim (fun s : Int32 × Hp => s.2) (fun x : Hp => x) q) := by
  unfold j_M_purge_54_L2 at hf
  rcases (Classical.em (w0 = 0)).symm with c12 | c12
  · rw [if_neg c12] at hf
    cases (Option.some.inj hf)
    exact (Keep.refl W_M_purge _)
  · rw [if_pos c12] at hf
    obtain ⟨g13, hf⟩ := gd_some hf
    obtain ⟨a14, e15, hf⟩ := dr_some hf
    obtain ⟨g16, hf⟩ := gd_some hf
    obtain ⟨g17, hf⟩ := gd_some hf
    obtain ⟨h18, eh19, hf⟩ := nm_some hf
    have K20 := (Keep.refl W_M_purge _).trans (kw_I eh19 (isK_eq g16) (Or.inr (by decide)))
    cases (Option.some.inj hf)
    exact K20
def j_M_purge_53_L2 (y0 : Nat) (y1 : Int32) (h : Hp) : Option ((Int32 × Hp) ⊕ (Hp)) :=
  j_M_purge_54_L2 y0 y1 (0 : Int32) h
set_option maxRecDepth 100000 in
set_option maxHeartbeats 4000000 in
theorem zj_M_purge_53_L2 {l : Launch} {C : Ct} {mi : Nat} {y0 : Nat} {y1 : Int32} {h h' : Hp} {q : ((Int32 × Hp) ⊕ (Hp))} (hf : j_M_purge_53_L2 y0 y1 h = some q) (kc : ∀ s, q = .inl s → Z l C mi m_M_purge 1 2 [(0, vr (some y0)), (1, vi s.1)] [] s.2 none h') (ke : ∀ x, q = .inr x → Z l C mi m_M_purge 1 74 [] [] x none h') : Z l C mi m_M_purge 1 53 [(0, vr (some y0)), (1, vi y1)] [] h none h' := by
  unfold j_M_purge_53_L2 at hf
  refine z_iconst (v := (0 : Int32)) d_M_purge_53 (by decide) ?_
  refine z_ls [0, 1] rfl ?_
  exact zj_M_purge_54_L2 hf kc ke
set_option maxRecDepth 100000 in
set_option maxHeartbeats 4000000 in
theorem kj_M_purge_53_L2 {C : Ct} {mi : Nat} {y0 : Nat} {y1 : Int32} {h : Hp} {q : ((Int32 × Hp) ⊕ (Hp))} (hf : j_M_purge_53_L2 y0 y1 h = some q) : Keep W_M_purge h (Sum.elim (fun s : Int32 × Hp => s.2) (fun x : Hp => x) q) := by
  unfold j_M_purge_53_L2 at hf
  exact (Keep.refl W_M_purge _).trans (kj_M_purge_54_L2 (C := C) (mi := mi) hf)
def j_M_purge_49_L2 (y0 : Nat) (y1 : Int32) (h : Hp) : Option ((Int32 × Hp) ⊕ (Hp)) :=
  j_M_purge_54_L2 y0 y1 (1 : Int32) h
set_option maxRecDepth 100000 in
set_option maxHeartbeats 4000000 in
theorem zj_M_purge_49_L2 {l : Launch} {C : Ct} {mi : Nat} {y0 : Nat} {y1 : Int32} {h h' : Hp} {q : ((Int32 × Hp) ⊕ (Hp))} (hf : j_M_purge_49_L2 y0 y1 h = some q) (kc : ∀ s, q = .inl s → Z l C mi m_M_purge 1 2 [(0, vr (some y0)), (1, vi s.1)] [] s.2 none h') (ke : ∀ x, q = .inr x → Z l C mi m_M_purge 1 74 [] [] x none h') : Z l C mi m_M_purge 1 49 [(0, vr (some y0)), (1, vi y1)] [] h none h' := by
  unfold j_M_purge_49_L2 at hf
  refine z_iconst (v := (1 : Int32)) d_M_purge_49 (by decide) ?_
  refine z_goto (tgt := 54) d_M_purge_50 (by decide) ?_
  refine z_ls [0, 1] rfl ?_
  exact zj_M_purge_54_L2 hf kc ke
set_option maxRecDepth 100000 in
set_option maxHeartbeats 4000000 in
theorem kj_M_purge_49_L2 {C : Ct} {mi : Nat} {y0 : Nat} {y1 : Int32} {h : Hp} {q : ((Int32 × Hp) ⊕ (Hp))} (hf : j_M_purge_49_L2 y0 y1 h = some q) : Keep W_M_purge h (Sum.elim (fun s : Int32 × Hp => s.2) (fun x : Hp => x) q) := by
  unfold j_M_purge_49_L2 at hf
  exact (Keep.refl W_M_purge _).trans (kj_M_purge_54_L2 (C := C) (mi := mi) hf)
def b_M_purge_2 (y0 : Nat) (y1 : Int32) (h : Hp) : Option ((Int32 × Hp) ⊕ (Hp)) :=
  if (nI 160) ≤ y1 then (some (.inr h)) else (gd (isK h y0 8) (dr (hpR h y0 4) fun a3 => gd (isK h a3 79) (gd (inb y1 (hpL h a3)) (dr (hpR h y0 5) fun a7 => gd (isK h a7 80) (gd (inb y1 (hpL h a7)) (if (hpI h a3 y1.toNatClampNeg) ≤ 0 then (j_M_purge_53_L2 y0 y1 h) else (cl (f_M_holds y0 (hpI h a3 y1.toNatClampNeg) ((hpI h a7 y1.toNatClampNeg) / (nI 2)) (0 : Int32) h) fun v23 h21 => if v23 = 0 then (gd (isK h21 y0 8) (cl (f_M_holds y0 (hpI h a3 y1.toNatClampNeg) ((hpI h a7 y1.toNatClampNeg) / (nI 2)) (1 : Int32) h21) fun v29 h27 => if v29 = 0 then (j_M_purge_53_L2 y0 y1 h27) else (j_M_purge_49_L2 y0 y1 h27))) else (j_M_purge_49_L2 y0 y1 h21))))))))
set_option maxRecDepth 100000 in
set_option maxHeartbeats 4000000 in
theorem zb_M_purge_2 {l : Launch} {C : Ct} {mi : Nat} {y0 : Nat} {y1 : Int32} {h h' : Hp} {q : ((Int32 × Hp) ⊕ (Hp))} (hf : b_M_purge_2 y0 y1 h = some q) (kc : ∀ s, q = .inl s → Z l C mi m_M_purge 1 2 [(0, vr (some y0)), (1, vi s.1)] [] s.2 none h') (ke : ∀ x, q = .inr x → Z l C mi m_M_purge 1 74 [] [] x none h') : Z l C mi m_M_purge 1 2 [(0, vr (some y0)), (1, vi y1)] [] h none h' := by
  unfold b_M_purge_2 at hf
  refine z_iload_n 1 d_M_purge_2 rfl rfl ?_
  refine z_sipush (v := (nI 160)) d_M_purge_3 (by decide) ?_
  refine z_icmp_ge (tgt := 74) d_M_purge_6 (by decide) (fun c1 => ?_) (fun c1 => ?_)
  · rw [if_pos c1] at hf
    refine z_ls [] rfl ?_
    exact ke h (Option.some.inj hf).symm
  · rw [if_neg c1] at hf
    refine z_aload_n 0 d_M_purge_9 rfl rfl ?_
    obtain ⟨g2, hf⟩ := gd_some hf
    refine z_getR d_M_purge_10 (fl_K (isK_eq g2) fl_M_23_8) (fi_K (isK_eq g2) rfl) rfl ?_
    refine z_iload_n 1 d_M_purge_13 rfl rfl ?_
    obtain ⟨a3, e4, hf⟩ := dr_some hf
    obtain ⟨g5, hf⟩ := gd_some hf
    obtain ⟨g6, hf⟩ := gd_some hf
    refine z_iald d_M_purge_14 e4 (by rw [isK_eq g5]; decide) (by rw [isK_eq g5]; rfl) (inb_vp g6) ?_
    refine z_istore_n (ls2 := [(2, vi (hpI h a3 y1.toNatClampNeg)), (0, vr (some y0)), (1, vi y1)]) d_M_purge_15 rfl (by decide) rfl ?_
    refine z_aload_n 1 d_M_purge_16 rfl rfl ?_
    refine z_getR d_M_purge_17 (fl_K (isK_eq g2) fl_M_26_8) (fi_K (isK_eq g2) rfl) rfl ?_
    refine z_iload_n 2 d_M_purge_20 rfl rfl ?_
    obtain ⟨a7, e8, hf⟩ := dr_some hf
    obtain ⟨g9, hf⟩ := gd_some hf
    obtain ⟨g10, hf⟩ := gd_some hf
    refine z_iald d_M_purge_21 e8 (by rw [isK_eq g9]; decide) (by rw [isK_eq g9]; rfl) (inb_vp g10) ?_
    refine z_iconst (v := (nI 2)) d_M_purge_22 (by decide) ?_
    refine z_idiv d_M_purge_23 (by decide) ?_
    refine z_istore_n (ls2 := [(3, vi ((hpI h a7 y1.toNatClampNeg) / (nI 2))), (2, vi (hpI h a3 y1.toNatClampNeg)), (0, vr (some y0)), (1, vi y1)]) d_M_purge_24 rfl (by decide) rfl ?_
    refine z_iload_n 1 d_M_purge_25 rfl rfl ?_
    refine z_if_le (tgt := 53) d_M_purge_26 (by decide) (fun c11 => ?_) (fun c11 => ?_)
    · rw [if_pos c11] at hf
      refine z_ls [2, 3] rfl ?_
      exact zj_M_purge_53_L2 hf kc ke
    · rw [if_neg c11] at hf
      refine z_aload_n 2 d_M_purge_29 rfl rfl ?_
      refine z_iload_n 1 d_M_purge_30 rfl rfl ?_
      refine z_iload_n 0 d_M_purge_31 rfl rfl ?_
      refine z_iconst (v := (0 : Int32)) d_M_purge_32 (by decide) ?_
      obtain ⟨v23, h21, ec22, hf⟩ := cl_some hf
      refine z_callVx rfl (c_M_holds ec22) d_M_purge_33 cw_M_holds lk_M_105 im_M_holds se_M_holds (kc_K (isK_eq g2) kc_8) ⟨by decide, by decide⟩ (Nat.le_of_ble_eq_true rfl) rfl ?_
      refine z_if_ne (tgt := 49) d_M_purge_36 (by decide) (fun c25 => ?_) (fun c25 => ?_)
      · rw [if_neg c25] at hf
        refine z_ls [2, 3] rfl ?_
        exact zj_M_purge_49_L2 hf kc ke
      · rw [if_pos c25] at hf
        refine z_aload_n 2 d_M_purge_39 rfl rfl ?_
        refine z_iload_n 1 d_M_purge_40 rfl rfl ?_
        refine z_iload_n 0 d_M_purge_41 rfl rfl ?_
        refine z_iconst (v := (1 : Int32)) d_M_purge_42 (by decide) ?_
        obtain ⟨g26, hf⟩ := gd_some hf
        obtain ⟨v29, h27, ec28, hf⟩ := cl_some hf
        refine z_callVx rfl (c_M_holds ec28) d_M_purge_43 cw_M_holds lk_M_105 im_M_holds se_M_holds (kc_K (isK_eq g26) kc_8) ⟨by decide, by decide⟩ (Nat.le_of_ble_eq_true rfl) rfl ?_
        refine z_if_eq (tgt := 53) d_M_purge_46 (by decide) (fun c31 => ?_) (fun c31 => ?_)
        · rw [if_pos c31] at hf
          refine z_ls [2, 3] rfl ?_
          exact zj_M_purge_53_L2 hf kc ke
        · rw [if_neg c31] at hf
          refine z_ls [2, 3] rfl ?_
          exact zj_M_purge_49_L2 hf kc ke
set_option maxRecDepth 100000 in
set_option maxHeartbeats 4000000 in
theorem kb_M_purge_2 {C : Ct} {mi : Nat} {y0 : Nat} {y1 : Int32} {h : Hp} {q : ((Int32 × Hp) ⊕ (Hp))} (hf : b_M_purge_2 y0 y1 h = some q) : Keep W_M_purge h (Sum.elim (fun s : Int32 × Hp => s.2) (fun x : Hp => x) q) := by
  unfold b_M_purge_2 at hf
  rcases Classical.em ((nI 160) ≤ y1) with c1 | c1
  · rw [if_pos c1] at hf
    cases (Option.some.inj hf)
    exact (Keep.refl W_M_purge _)
  · rw [if_neg c1] at hf
    obtain ⟨g2, hf⟩ := gd_some hf
    obtain ⟨a3, e4, hf⟩ := dr_some hf
    obtain ⟨g5, hf⟩ := gd_some hf
    obtain ⟨g6, hf⟩ := gd_some hf
    obtain ⟨a7, e8, hf⟩ := dr_some hf
    obtain ⟨g9, hf⟩ := gd_some hf
    obtain ⟨g10, hf⟩ := gd_some hf
    rcases Classical.em ((hpI h a3 y1.toNatClampNeg) ≤ 0) with c11 | c11
    · rw [if_pos c11] at hf
      exact (Keep.refl W_M_purge _).trans (kj_M_purge_53_L2 (C := C) (mi := mi) hf)
    · rw [if_neg c11] at hf
      obtain ⟨v23, h21, ec22, hf⟩ := cl_some hf
      have K24 := (Keep.refl W_M_purge _).trans ((fr_M_holds (C := C) (mi := mi) ec22).mono (by decide) (by decide))
      rcases (Classical.em (v23 = 0)).symm with c25 | c25
      · rw [if_neg c25] at hf
        exact K24.trans (kj_M_purge_49_L2 (C := C) (mi := mi) hf)
      · rw [if_pos c25] at hf
        obtain ⟨g26, hf⟩ := gd_some hf
        obtain ⟨v29, h27, ec28, hf⟩ := cl_some hf
        have K30 := K24.trans ((fr_M_holds (C := C) (mi := mi) ec28).mono (by decide) (by decide))
        rcases Classical.em (v29 = 0) with c31 | c31
        · rw [if_pos c31] at hf
          exact K30.trans (kj_M_purge_53_L2 (C := C) (mi := mi) hf)
        · rw [if_neg c31] at hf
          exact K30.trans (kj_M_purge_49_L2 (C := C) (mi := mi) hf)
def l_M_purge_2 (y0 : Nat) (s : Int32 × Hp) : Option (Hp) := lp (fun s => b_M_purge_2 y0 s.1 s.2) FU s
theorem zzl_M_purge_2 {l : Launch} {C : Ct} {mi : Nat} {y0 : Nat} {h' : Hp} : ∀ (n : Nat) (s : Int32 × Hp) (x : (Hp)), lp (fun s : Int32 × Hp => b_M_purge_2 y0 s.1 s.2) n s = some x → Z l C mi m_M_purge 1 74 [] [] x none h' → Z l C mi m_M_purge 1 2 [(0, vr (some y0)), (1, vi s.1)] [] s.2 none h' := by
  intro n
  induction n with
  | zero => intro s x hl; cases hl
  | succ n ih =>
    intro s x hl ke
    rcases lp_some hl with ⟨s2, hb, hl2⟩ | hb
    · exact zb_M_purge_2 hb (fun s3 e3 => by cases e3; refine z_ls [0, 1] rfl ?_; exact ih s2 x hl2 ke) (fun x e3 => by cases e3)
    · exact zb_M_purge_2 hb (fun s3 e3 => by cases e3) (fun x e3 => by cases e3; exact ke)
theorem zl_M_purge_2 {l : Launch} {C : Ct} {mi : Nat} {y0 : Nat} {h' : Hp} {s : Int32 × Hp} {x : (Hp)} (hl : l_M_purge_2 y0 s = some x) (ke : Z l C mi m_M_purge 1 74 [] [] x none h') : Z l C mi m_M_purge 1 2 [(0, vr (some y0)), (1, vi s.1)] [] s.2 none h' := zzl_M_purge_2 FU s x hl ke
theorem kl_M_purge_2 {C : Ct} {mi : Nat} {y0 : Nat} {s : Int32 × Hp} {q : (Hp)} (hl : l_M_purge_2 y0 s = some q) : Keep W_M_purge s.2 ((fun x : Hp => x) q) := lpk (sh := (fun s : Int32 × Hp => s.2)) (rh := (fun x : Hp => x)) (fun s q hb => kb_M_purge_2 (C := C) (mi := mi) hb) FU s q hl
def f_M_purge (a0 : Nat) (h : Hp) : Option Hp :=
  bd (l_M_purge_2 a0 ((0 : Int32), h)) fun x32 => some x32
set_option maxRecDepth 100000 in
set_option maxHeartbeats 4000000 in
theorem zf_M_purge {l : Launch} {C : Ct} {mi : Nat} {a0 : Nat} {h h' : Hp} (hf : f_M_purge a0 h = some h') : Z l C mi m_M_purge 1 0 [(0, vr (some a0))] [] h none h' := by
  unfold f_M_purge at hf
  refine z_iconst (v := (0 : Int32)) d_M_purge_0 (by decide) ?_
  refine z_istore_n (ls2 := [(1, vi (0 : Int32)), (0, vr (some a0))]) d_M_purge_1 rfl (by decide) rfl ?_
  obtain ⟨x32, el33, hf⟩ := bd_some hf
  refine z_ls [1, 0] rfl ?_
  refine zl_M_purge_2 el33 ?_
  cases (Option.some.inj hf)
  exact z_ret d_M_purge_74 rfl
set_option maxRecDepth 100000 in
set_option maxHeartbeats 4000000 in
theorem fr_M_purge {C : Ct} {mi : Nat} {a0 : Nat} {h h' : Hp} (hf : f_M_purge a0 h = some h') : Keep W_M_purge h h' := by
  unfold f_M_purge at hf
  obtain ⟨x32, el33, hf⟩ := bd_some hf
  have K34 := (Keep.refl W_M_purge _).trans (kl_M_purge_2 (C := C) (mi := mi) el33)
  cases (Option.some.inj hf)
  exact K34
theorem c_M_purge {l : Launch} {C : Ct} {mi : Nat} {a0 : Nat} {h h' : Hp} (hf : f_M_purge a0 h = some h') : Mt l C mi m_M_purge 1 [vr (some a0)] h none h' := mt_V rfl rfl (by decide) (Nat.le_of_ble_eq_true rfl) (zf_M_purge hf)
-- VersionMapsModel.add(IIIII)I
def m_M_add : Mi := (⟨"VersionMapsModel", "add", "(IIIII)I"⟩, prog_11_method_6_code, 8, (Option.some Jvm.ClassFile.FieldType.int), .ireturn)
theorem cw_M_add : cw_ok m_M_add 5 := ⟨by decide +kernel, by decide +kernel, by decide +kernel, by decide +kernel⟩
theorem im_M_add : Cond.instanceMethod m_M_add.1 ∈ lw_w := by decide +kernel
theorem se_M_add : Cond.selects "VersionMapsModel" m_M_add.1 m_M_add.1 ∈ lw_w := by decide +kernel
theorem d_M_add_0 : decode prog_11_method_6_code 0 = .ok (.iconst 0, 1) := by decide +kernel
theorem d_M_add_1 : decode prog_11_method_6_code 1 = .ok (.istore 6, 2) := by decide +kernel
theorem d_M_add_3 : decode prog_11_method_6_code 3 = .ok (.iload 6, 2) := by decide +kernel
theorem d_M_add_5 : decode prog_11_method_6_code 5 = .ok (.sipush 160, 3) := by decide +kernel
theorem d_M_add_8 : decode prog_11_method_6_code 8 = .ok (.if_icmp .ge 19, 3) := by decide +kernel
theorem d_M_add_11 : decode prog_11_method_6_code 11 = .ok (.aload_n 0, 1) := by decide +kernel
theorem d_M_add_12 : decode prog_11_method_6_code 12 = .ok (.getfield 23, 3) := by decide +kernel
theorem d_M_add_15 : decode prog_11_method_6_code 15 = .ok (.iload 6, 2) := by decide +kernel
theorem d_M_add_17 : decode prog_11_method_6_code 17 = .ok (.iaload, 1) := by decide +kernel
theorem d_M_add_18 : decode prog_11_method_6_code 18 = .ok (.ifCond .le 9, 3) := by decide +kernel
theorem d_M_add_21 : decode prog_11_method_6_code 21 = .ok (.iinc 6 1, 3) := by decide +kernel
theorem d_M_add_24 : decode prog_11_method_6_code 24 = .ok (.goto (-21), 3) := by decide +kernel
theorem d_M_add_27 : decode prog_11_method_6_code 27 = .ok (.aload_n 0, 1) := by decide +kernel
theorem d_M_add_28 : decode prog_11_method_6_code 28 = .ok (.getfield 23, 3) := by decide +kernel
theorem d_M_add_31 : decode prog_11_method_6_code 31 = .ok (.iload 6, 2) := by decide +kernel
theorem d_M_add_33 : decode prog_11_method_6_code 33 = .ok (.iload_n 1, 1) := by decide +kernel
theorem d_M_add_34 : decode prog_11_method_6_code 34 = .ok (.iastore, 1) := by decide +kernel
theorem d_M_add_35 : decode prog_11_method_6_code 35 = .ok (.aload_n 0, 1) := by decide +kernel
theorem d_M_add_36 : decode prog_11_method_6_code 36 = .ok (.getfield 26, 3) := by decide +kernel
theorem d_M_add_39 : decode prog_11_method_6_code 39 = .ok (.iload 6, 2) := by decide +kernel
theorem d_M_add_41 : decode prog_11_method_6_code 41 = .ok (.iload_n 2, 1) := by decide +kernel
theorem d_M_add_42 : decode prog_11_method_6_code 42 = .ok (.iastore, 1) := by decide +kernel
theorem d_M_add_43 : decode prog_11_method_6_code 43 = .ok (.aload_n 0, 1) := by decide +kernel
theorem d_M_add_44 : decode prog_11_method_6_code 44 = .ok (.getfield 29, 3) := by decide +kernel
theorem d_M_add_47 : decode prog_11_method_6_code 47 = .ok (.iload 6, 2) := by decide +kernel
theorem d_M_add_49 : decode prog_11_method_6_code 49 = .ok (.iload_n 3, 1) := by decide +kernel
theorem d_M_add_50 : decode prog_11_method_6_code 50 = .ok (.iastore, 1) := by decide +kernel
theorem d_M_add_51 : decode prog_11_method_6_code 51 = .ok (.aload_n 0, 1) := by decide +kernel
theorem d_M_add_52 : decode prog_11_method_6_code 52 = .ok (.getfield 32, 3) := by decide +kernel
theorem d_M_add_55 : decode prog_11_method_6_code 55 = .ok (.iload 6, 2) := by decide +kernel
theorem d_M_add_57 : decode prog_11_method_6_code 57 = .ok (.iload 4, 2) := by decide +kernel
theorem d_M_add_59 : decode prog_11_method_6_code 59 = .ok (.iastore, 1) := by decide +kernel
theorem d_M_add_60 : decode prog_11_method_6_code 60 = .ok (.aload_n 0, 1) := by decide +kernel
theorem d_M_add_61 : decode prog_11_method_6_code 61 = .ok (.getfield 35, 3) := by decide +kernel
theorem d_M_add_64 : decode prog_11_method_6_code 64 = .ok (.iload 6, 2) := by decide +kernel
theorem d_M_add_66 : decode prog_11_method_6_code 66 = .ok (.iload 5, 2) := by decide +kernel
theorem d_M_add_68 : decode prog_11_method_6_code 68 = .ok (.iastore, 1) := by decide +kernel
theorem d_M_add_69 : decode prog_11_method_6_code 69 = .ok (.aload_n 0, 1) := by decide +kernel
theorem d_M_add_70 : decode prog_11_method_6_code 70 = .ok (.getfield 38, 3) := by decide +kernel
theorem d_M_add_73 : decode prog_11_method_6_code 73 = .ok (.iload 6, 2) := by decide +kernel
theorem d_M_add_75 : decode prog_11_method_6_code 75 = .ok (.iconst 0, 1) := by decide +kernel
theorem d_M_add_76 : decode prog_11_method_6_code 76 = .ok (.iastore, 1) := by decide +kernel
theorem d_M_add_77 : decode prog_11_method_6_code 77 = .ok (.iconst 0, 1) := by decide +kernel
theorem d_M_add_78 : decode prog_11_method_6_code 78 = .ok (.istore 7, 2) := by decide +kernel
theorem d_M_add_80 : decode prog_11_method_6_code 80 = .ok (.iload 7, 2) := by decide +kernel
theorem d_M_add_82 : decode prog_11_method_6_code 82 = .ok (.iconst 4, 1) := by decide +kernel
theorem d_M_add_83 : decode prog_11_method_6_code 83 = .ok (.if_icmp .ge 22, 3) := by decide +kernel
theorem d_M_add_86 : decode prog_11_method_6_code 86 = .ok (.aload_n 0, 1) := by decide +kernel
theorem d_M_add_87 : decode prog_11_method_6_code 87 = .ok (.getfield 44, 3) := by decide +kernel
theorem d_M_add_90 : decode prog_11_method_6_code 90 = .ok (.iconst 4, 1) := by decide +kernel
theorem d_M_add_91 : decode prog_11_method_6_code 91 = .ok (.iload 6, 2) := by decide +kernel
theorem d_M_add_93 : decode prog_11_method_6_code 93 = .ok (.imul, 1) := by decide +kernel
theorem d_M_add_94 : decode prog_11_method_6_code 94 = .ok (.iload 7, 2) := by decide +kernel
theorem d_M_add_96 : decode prog_11_method_6_code 96 = .ok (.iadd, 1) := by decide +kernel
theorem d_M_add_97 : decode prog_11_method_6_code 97 = .ok (.iconst 0, 1) := by decide +kernel
theorem d_M_add_98 : decode prog_11_method_6_code 98 = .ok (.iastore, 1) := by decide +kernel
theorem d_M_add_99 : decode prog_11_method_6_code 99 = .ok (.iinc 7 1, 3) := by decide +kernel
theorem d_M_add_102 : decode prog_11_method_6_code 102 = .ok (.goto (-22), 3) := by decide +kernel
theorem d_M_add_105 : decode prog_11_method_6_code 105 = .ok (.iload 6, 2) := by decide +kernel
theorem d_M_add_107 : decode prog_11_method_6_code 107 = .ok (.ireturn, 1) := by decide +kernel
def W_M_add : Wl := ([], [79, 80, 81, 82, 83, 84, 86])
def b_M_add_3 (y0 : Nat) (y1 : Int32) (y2 : Int32) (y3 : Int32) (y4 : Int32) (y5 : Int32) (y6 : Int32) (h : Hp) : Option ((Int32 × Hp) ⊕ (Int32 × Hp)) :=
  if (nI 160) ≤ y6 then (some (.inr (y6, h))) else (gd (isK h y0 8) (dr (hpR h y0 4) fun a3 => gd (isK h a3 79) (gd (inb y6 (hpL h a3)) (if (hpI h a3 y6.toNatClampNeg) ≤ 0 then (some (.inr (y6, h))) else (some (.inl ((y6 + (1 : Int32)), h)))))))
set_option maxRecDepth 100000 in
set_option maxHeartbeats 4000000 in
theorem zb_M_add_3 {l : Launch} {C : Ct} {mi : Nat} {y0 : Nat} {y1 : Int32} {y2 : Int32} {y3 : Int32} {y4 : Int32} {y5 : Int32} {y6 : Int32} {h h' : Hp} {v : Int32} {q : ((Int32 × Hp) ⊕ (Int32 × Hp))} (hf : b_M_add_3 y0 y1 y2 y3 y4 y5 y6 h = some q) (kc : ∀ s, q = .inl s → Z l C mi m_M_add 0 3 [(0, vr (some y0)), (1, vi y1), (2, vi y2), (3, vi y3), (4, vi y4), (5, vi y5), (6, vi s.1)] [] s.2 (some (vi v)) h') (ke : ∀ x, q = .inr x → Z l C mi m_M_add 0 27 [(0, vr (some y0)), (1, vi y1), (2, vi y2), (3, vi y3), (4, vi y4), (5, vi y5), (6, vi x.1)] [] x.2 (some (vi v)) h') : Z l C mi m_M_add 0 3 [(0, vr (some y0)), (1, vi y1), (2, vi y2), (3, vi y3), (4, vi y4), (5, vi y5), (6, vi y6)] [] h (some (vi v)) h' := by
  unfold b_M_add_3 at hf
  refine z_iload 6 d_M_add_3 rfl ?_
  refine z_sipush (v := (nI 160)) d_M_add_5 (by decide) ?_
  refine z_icmp_ge (tgt := 27) d_M_add_8 (by decide) (fun c1 => ?_) (fun c1 => ?_)
  · rw [if_pos c1] at hf
    refine z_ls [0, 1, 2, 3, 4, 5, 6] rfl ?_
    exact ke (y6, h) (Option.some.inj hf).symm
  · rw [if_neg c1] at hf
    refine z_aload_n 0 d_M_add_11 rfl rfl ?_
    obtain ⟨g2, hf⟩ := gd_some hf
    refine z_getR d_M_add_12 (fl_K (isK_eq g2) fl_M_23_8) (fi_K (isK_eq g2) rfl) rfl ?_
    refine z_iload 6 d_M_add_15 rfl ?_
    obtain ⟨a3, e4, hf⟩ := dr_some hf
    obtain ⟨g5, hf⟩ := gd_some hf
    obtain ⟨g6, hf⟩ := gd_some hf
    refine z_iald d_M_add_17 e4 (by rw [isK_eq g5]; decide) (by rw [isK_eq g5]; rfl) (inb_vp g6) ?_
    refine z_if_le (tgt := 27) d_M_add_18 (by decide) (fun c7 => ?_) (fun c7 => ?_)
    · rw [if_pos c7] at hf
      refine z_ls [0, 1, 2, 3, 4, 5, 6] rfl ?_
      exact ke (y6, h) (Option.some.inj hf).symm
    · rw [if_neg c7] at hf
      refine z_iinc (ls2 := [(6, vi (y6 + (1 : Int32))), (0, vr (some y0)), (1, vi y1), (2, vi y2), (3, vi y3), (4, vi y4), (5, vi y5)]) 6 d_M_add_21 rfl rfl (by decide) rfl ?_
      refine z_goto (tgt := 3) d_M_add_24 (by decide) ?_
      refine z_ls [1, 2, 3, 4, 5, 6, 0] rfl ?_
      exact kc ((y6 + (1 : Int32)), h) (Option.some.inj hf).symm
set_option maxRecDepth 100000 in
set_option maxHeartbeats 4000000 in
theorem kb_M_add_3 {C : Ct} {mi : Nat} {y0 : Nat} {y1 : Int32} {y2 : Int32} {y3 : Int32} {y4 : Int32} {y5 : Int32} {y6 : Int32} {h : Hp} {q : ((Int32 × Hp) ⊕ (Int32 × Hp))} (hf : b_M_add_3 y0 y1 y2 y3 y4 y5 y6 h = some q) : Keep W_M_add h (Sum.elim (fun s : Int32 × Hp => s.2) (fun x : Int32 × Hp => x.2) q) := by
  unfold b_M_add_3 at hf
  rcases Classical.em ((nI 160) ≤ y6) with c1 | c1
  · rw [if_pos c1] at hf
    cases (Option.some.inj hf)
    exact (Keep.refl W_M_add _)
  · rw [if_neg c1] at hf
    obtain ⟨g2, hf⟩ := gd_some hf
    obtain ⟨a3, e4, hf⟩ := dr_some hf
    obtain ⟨g5, hf⟩ := gd_some hf
    obtain ⟨g6, hf⟩ := gd_some hf
    rcases Classical.em ((hpI h a3 y6.toNatClampNeg) ≤ 0) with c7 | c7
    · rw [if_pos c7] at hf
      cases (Option.some.inj hf)
      exact (Keep.refl W_M_add _)
    · rw [if_neg c7] at hf
      cases (Option.some.inj hf)
      exact (Keep.refl W_M_add _)
def l_M_add_3 (y0 : Nat) (y1 : Int32) (y2 : Int32) (y3 : Int32) (y4 : Int32) (y5 : Int32) (s : Int32 × Hp) : Option (Int32 × Hp) := lp (fun s => b_M_add_3 y0 y1 y2 y3 y4 y5 s.1 s.2) FU s
theorem zzl_M_add_3 {l : Launch} {C : Ct} {mi : Nat} {y0 : Nat} {y1 : Int32} {y2 : Int32} {y3 : Int32} {y4 : Int32} {y5 : Int32} {h' : Hp} {v : Int32} : ∀ (n : Nat) (s : Int32 × Hp) (x : (Int32 × Hp)), lp (fun s : Int32 × Hp => b_M_add_3 y0 y1 y2 y3 y4 y5 s.1 s.2) n s = some x → Z l C mi m_M_add 0 27 [(0, vr (some y0)), (1, vi y1), (2, vi y2), (3, vi y3), (4, vi y4), (5, vi y5), (6, vi x.1)] [] x.2 (some (vi v)) h' → Z l C mi m_M_add 0 3 [(0, vr (some y0)), (1, vi y1), (2, vi y2), (3, vi y3), (4, vi y4), (5, vi y5), (6, vi s.1)] [] s.2 (some (vi v)) h' := by
  intro n
  induction n with
  | zero => intro s x hl; cases hl
  | succ n ih =>
    intro s x hl ke
    rcases lp_some hl with ⟨s2, hb, hl2⟩ | hb
    · exact zb_M_add_3 hb (fun s3 e3 => by cases e3; refine z_ls [0, 1, 2, 3, 4, 5, 6] rfl ?_; exact ih s2 x hl2 ke) (fun x e3 => by cases e3)
    · exact zb_M_add_3 hb (fun s3 e3 => by cases e3) (fun x e3 => by cases e3; exact ke)
theorem zl_M_add_3 {l : Launch} {C : Ct} {mi : Nat} {y0 : Nat} {y1 : Int32} {y2 : Int32} {y3 : Int32} {y4 : Int32} {y5 : Int32} {h' : Hp} {v : Int32} {s : Int32 × Hp} {x : (Int32 × Hp)} (hl : l_M_add_3 y0 y1 y2 y3 y4 y5 s = some x) (ke : Z l C mi m_M_add 0 27 [(0, vr (some y0)), (1, vi y1), (2, vi y2), (3, vi y3), (4, vi y4), (5, vi y5), (6, vi x.1)] [] x.2 (some (vi v)) h') : Z l C mi m_M_add 0 3 [(0, vr (some y0)), (1, vi y1), (2, vi y2), (3, vi y3), (4, vi y4), (5, vi y5), (6, vi s.1)] [] s.2 (some (vi v)) h' := zzl_M_add_3 FU s x hl ke
theorem kl_M_add_3 {C : Ct} {mi : Nat} {y0 : Nat} {y1 : Int32} {y2 : Int32} {y3 : Int32} {y4 : Int32} {y5 : Int32} {s : Int32 × Hp} {q : (Int32 × Hp)} (hl : l_M_add_3 y0 y1 y2 y3 y4 y5 s = some q) : Keep W_M_add s.2 ((fun x : Int32 × Hp => x.2) q) := lpk (sh := (fun s : Int32 × Hp => s.2)) (rh := (fun x : Int32 × Hp => x.2)) (fun s q hb => kb_M_add_3 (C := C) (mi := mi) hb) FU s q hl
def b_M_add_80 (y0 : Nat) (y6 : Int32) (y7 : Int32) (h : Hp) : Option ((Int32 × Hp) ⊕ (Hp)) :=
  if (nI 4) ≤ y7 then (some (.inr h)) else (gd (isK h y0 8) (dr (hpR h y0 11) fun a56 => gd (isK h a56 86) (gd (inb (((nI 4) * y6) + y7) (hpL h a56)) (nm (wI h a56 (((nI 4) * y6) + y7).toNatClampNeg (0 : Int32)) fun h60 => some (.inl ((y7 + (1 : Int32)), h60))))))
set_option maxRecDepth 100000 in
set_option maxHeartbeats 4000000 in
theorem zb_M_add_80 {l : Launch} {C : Ct} {mi : Nat} {y0 : Nat} {y6 : Int32} {y7 : Int32} {h h' : Hp} {v : Int32} {q : ((Int32 × Hp) ⊕ (Hp))} (hf : b_M_add_80 y0 y6 y7 h = some q) (kc : ∀ s, q = .inl s → Z l C mi m_M_add 0 80 [(0, vr (some y0)), (6, vi y6), (7, vi s.1)] [] s.2 (some (vi v)) h') (ke : ∀ x, q = .inr x → Z l C mi m_M_add 0 105 [(6, vi y6)] [] x (some (vi v)) h') : Z l C mi m_M_add 0 80 [(0, vr (some y0)), (6, vi y6), (7, vi y7)] [] h (some (vi v)) h' := by
  unfold b_M_add_80 at hf
  refine z_iload 2 d_M_add_80 rfl ?_
  refine z_iconst (v := (nI 4)) d_M_add_82 (by decide) ?_
  refine z_icmp_ge (tgt := 105) d_M_add_83 (by decide) (fun c54 => ?_) (fun c54 => ?_)
  · rw [if_pos c54] at hf
    refine z_ls [1] rfl ?_
    exact ke h (Option.some.inj hf).symm
  · rw [if_neg c54] at hf
    refine z_aload_n 0 d_M_add_86 rfl rfl ?_
    obtain ⟨g55, hf⟩ := gd_some hf
    refine z_getR d_M_add_87 (fl_K (isK_eq g55) fl_M_44_8) (fi_K (isK_eq g55) rfl) rfl ?_
    refine z_iconst (v := (nI 4)) d_M_add_90 (by decide) ?_
    refine z_iload 1 d_M_add_91 rfl ?_
    refine z_imul d_M_add_93 ?_
    refine z_iload 2 d_M_add_94 rfl ?_
    refine z_iadd d_M_add_96 ?_
    refine z_iconst (v := (0 : Int32)) d_M_add_97 (by decide) ?_
    obtain ⟨a56, e57, hf⟩ := dr_some hf
    obtain ⟨g58, hf⟩ := gd_some hf
    obtain ⟨g59, hf⟩ := gd_some hf
    obtain ⟨h60, eh61, hf⟩ := nm_some hf
    refine z_iast d_M_add_98 e57 (by rw [isK_eq g58]; decide) (by rw [isK_eq g58]; rfl) (inb_vp g59) ?_
    refine z_hp eh61 ?_
    refine z_iinc (ls2 := [(7, vi (y7 + (1 : Int32))), (0, vr (some y0)), (6, vi y6)]) 2 d_M_add_99 rfl rfl (by decide) rfl ?_
    refine z_goto (tgt := 80) d_M_add_102 (by decide) ?_
    refine z_ls [1, 2, 0] rfl ?_
    exact kc ((y7 + (1 : Int32)), h60) (Option.some.inj hf).symm
set_option maxRecDepth 100000 in
set_option maxHeartbeats 4000000 in
theorem kb_M_add_80 {C : Ct} {mi : Nat} {y0 : Nat} {y6 : Int32} {y7 : Int32} {h : Hp} {q : ((Int32 × Hp) ⊕ (Hp))} (hf : b_M_add_80 y0 y6 y7 h = some q) : Keep W_M_add h (Sum.elim (fun s : Int32 × Hp => s.2) (fun x : Hp => x) q) := by
  unfold b_M_add_80 at hf
  rcases Classical.em ((nI 4) ≤ y7) with c54 | c54
  · rw [if_pos c54] at hf
    cases (Option.some.inj hf)
    exact (Keep.refl W_M_add _)
  · rw [if_neg c54] at hf
    obtain ⟨g55, hf⟩ := gd_some hf
    obtain ⟨a56, e57, hf⟩ := dr_some hf
    obtain ⟨g58, hf⟩ := gd_some hf
    obtain ⟨g59, hf⟩ := gd_some hf
    obtain ⟨h60, eh61, hf⟩ := nm_some hf
    have K62 := (Keep.refl W_M_add _).trans (kw_I eh61 (isK_eq g58) (Or.inr (by decide)))
    cases (Option.some.inj hf)
    exact K62
def l_M_add_80 (y0 : Nat) (y6 : Int32) (s : Int32 × Hp) : Option (Hp) := lp (fun s => b_M_add_80 y0 y6 s.1 s.2) FU s
theorem zzl_M_add_80 {l : Launch} {C : Ct} {mi : Nat} {y0 : Nat} {y6 : Int32} {h' : Hp} {v : Int32} : ∀ (n : Nat) (s : Int32 × Hp) (x : (Hp)), lp (fun s : Int32 × Hp => b_M_add_80 y0 y6 s.1 s.2) n s = some x → Z l C mi m_M_add 0 105 [(6, vi y6)] [] x (some (vi v)) h' → Z l C mi m_M_add 0 80 [(0, vr (some y0)), (6, vi y6), (7, vi s.1)] [] s.2 (some (vi v)) h' := by
  intro n
  induction n with
  | zero => intro s x hl; cases hl
  | succ n ih =>
    intro s x hl ke
    rcases lp_some hl with ⟨s2, hb, hl2⟩ | hb
    · exact zb_M_add_80 hb (fun s3 e3 => by cases e3; refine z_ls [0, 1, 2] rfl ?_; exact ih s2 x hl2 ke) (fun x e3 => by cases e3)
    · exact zb_M_add_80 hb (fun s3 e3 => by cases e3) (fun x e3 => by cases e3; exact ke)
theorem zl_M_add_80 {l : Launch} {C : Ct} {mi : Nat} {y0 : Nat} {y6 : Int32} {h' : Hp} {v : Int32} {s : Int32 × Hp} {x : (Hp)} (hl : l_M_add_80 y0 y6 s = some x) (ke : Z l C mi m_M_add 0 105 [(6, vi y6)] [] x (some (vi v)) h') : Z l C mi m_M_add 0 80 [(0, vr (some y0)), (6, vi y6), (7, vi s.1)] [] s.2 (some (vi v)) h' := zzl_M_add_80 FU s x hl ke
theorem kl_M_add_80 {C : Ct} {mi : Nat} {y0 : Nat} {y6 : Int32} {s : Int32 × Hp} {q : (Hp)} (hl : l_M_add_80 y0 y6 s = some q) : Keep W_M_add s.2 ((fun x : Hp => x) q) := lpk (sh := (fun s : Int32 × Hp => s.2)) (rh := (fun x : Hp => x)) (fun s q hb => kb_M_add_80 (C := C) (mi := mi) hb) FU s q hl
def j_M_add_27_M (y0 : Nat) (y1 : Int32) (y2 : Int32) (y3 : Int32) (y4 : Int32) (y5 : Int32) (y6 : Int32) (h : Hp) : Option (Int32 × Hp) :=
  gd (isK h y0 8) (dr (hpR h y0 4) fun a12 => gd (isK h a12 79) (gd (inb y6 (hpL h a12)) (nm (wI h a12 y6.toNatClampNeg y1) fun h16 => dr (hpR h16 y0 5) fun a19 => gd (isK h16 a19 80) (gd (inb y6 (hpL h16 a19)) (nm (wI h16 a19 y6.toNatClampNeg y2) fun h23 => dr (hpR h23 y0 6) fun a26 => gd (isK h23 a26 81) (gd (inb y6 (hpL h23 a26)) (nm (wI h23 a26 y6.toNatClampNeg y3) fun h30 => dr (hpR h30 y0 7) fun a33 => gd (isK h30 a33 82) (gd (inb y6 (hpL h30 a33)) (nm (wI h30 a33 y6.toNatClampNeg y4) fun h37 => dr (hpR h37 y0 8) fun a40 => gd (isK h37 a40 83) (gd (inb y6 (hpL h37 a40)) (nm (wI h37 a40 y6.toNatClampNeg y5) fun h44 => dr (hpR h44 y0 9) fun a47 => gd (isK h44 a47 84) (gd (inb y6 (hpL h44 a47)) (nm (wI h44 a47 y6.toNatClampNeg (0 : Int32)) fun h51 => bd (l_M_add_80 y0 y6 ((0 : Int32), h51)) fun x63 => some (y6, x63))))))))))))))
set_option maxRecDepth 100000 in
set_option maxHeartbeats 4000000 in
theorem zj_M_add_27_M {l : Launch} {C : Ct} {mi : Nat} {y0 : Nat} {y1 : Int32} {y2 : Int32} {y3 : Int32} {y4 : Int32} {y5 : Int32} {y6 : Int32} {h h' : Hp} {v : Int32} (hf : j_M_add_27_M y0 y1 y2 y3 y4 y5 y6 h = some (v, h')) : Z l C mi m_M_add 0 27 [(0, vr (some y0)), (1, vi y1), (2, vi y2), (3, vi y3), (4, vi y4), (5, vi y5), (6, vi y6)] [] h (some (vi v)) h' := by
  unfold j_M_add_27_M at hf
  refine z_aload_n 0 d_M_add_27 rfl rfl ?_
  obtain ⟨g11, hf⟩ := gd_some hf
  refine z_getR d_M_add_28 (fl_K (isK_eq g11) fl_M_23_8) (fi_K (isK_eq g11) rfl) rfl ?_
  refine z_iload 6 d_M_add_31 rfl ?_
  refine z_iload_n 1 d_M_add_33 rfl rfl ?_
  obtain ⟨a12, e13, hf⟩ := dr_some hf
  obtain ⟨g14, hf⟩ := gd_some hf
  obtain ⟨g15, hf⟩ := gd_some hf
  obtain ⟨h16, eh17, hf⟩ := nm_some hf
  refine z_iast d_M_add_34 e13 (by rw [isK_eq g14]; decide) (by rw [isK_eq g14]; rfl) (inb_vp g15) ?_
  refine z_hp eh17 ?_
  refine z_aload_n 0 d_M_add_35 rfl rfl ?_
  refine z_getR d_M_add_36 (fl_K (isK_eq (isK_wI eh17 g11)) fl_M_26_8) (fi_K (isK_eq (isK_wI eh17 g11)) rfl) rfl ?_
  refine z_iload 6 d_M_add_39 rfl ?_
  refine z_iload_n 2 d_M_add_41 rfl rfl ?_
  obtain ⟨a19, e20, hf⟩ := dr_some hf
  obtain ⟨g21, hf⟩ := gd_some hf
  obtain ⟨g22, hf⟩ := gd_some hf
  obtain ⟨h23, eh24, hf⟩ := nm_some hf
  refine z_iast d_M_add_42 e20 (by rw [isK_eq g21]; decide) (by rw [isK_eq g21]; rfl) (inb_vp g22) ?_
  refine z_hp eh24 ?_
  refine z_aload_n 0 d_M_add_43 rfl rfl ?_
  refine z_getR d_M_add_44 (fl_K (isK_eq (isK_wI eh24 (isK_wI eh17 g11))) fl_M_29_8) (fi_K (isK_eq (isK_wI eh24 (isK_wI eh17 g11))) rfl) rfl ?_
  refine z_iload 6 d_M_add_47 rfl ?_
  refine z_iload_n 3 d_M_add_49 rfl rfl ?_
  obtain ⟨a26, e27, hf⟩ := dr_some hf
  obtain ⟨g28, hf⟩ := gd_some hf
  obtain ⟨g29, hf⟩ := gd_some hf
  obtain ⟨h30, eh31, hf⟩ := nm_some hf
  refine z_iast d_M_add_50 e27 (by rw [isK_eq g28]; decide) (by rw [isK_eq g28]; rfl) (inb_vp g29) ?_
  refine z_hp eh31 ?_
  refine z_aload_n 0 d_M_add_51 rfl rfl ?_
  refine z_getR d_M_add_52 (fl_K (isK_eq (isK_wI eh31 (isK_wI eh24 (isK_wI eh17 g11)))) fl_M_32_8) (fi_K (isK_eq (isK_wI eh31 (isK_wI eh24 (isK_wI eh17 g11)))) rfl) rfl ?_
  refine z_iload 6 d_M_add_55 rfl ?_
  refine z_iload 4 d_M_add_57 rfl ?_
  obtain ⟨a33, e34, hf⟩ := dr_some hf
  obtain ⟨g35, hf⟩ := gd_some hf
  obtain ⟨g36, hf⟩ := gd_some hf
  obtain ⟨h37, eh38, hf⟩ := nm_some hf
  refine z_iast d_M_add_59 e34 (by rw [isK_eq g35]; decide) (by rw [isK_eq g35]; rfl) (inb_vp g36) ?_
  refine z_hp eh38 ?_
  refine z_aload_n 0 d_M_add_60 rfl rfl ?_
  refine z_getR d_M_add_61 (fl_K (isK_eq (isK_wI eh38 (isK_wI eh31 (isK_wI eh24 (isK_wI eh17 g11))))) fl_M_35_8) (fi_K (isK_eq (isK_wI eh38 (isK_wI eh31 (isK_wI eh24 (isK_wI eh17 g11))))) rfl) rfl ?_
  refine z_iload 6 d_M_add_64 rfl ?_
  refine z_iload 5 d_M_add_66 rfl ?_
  obtain ⟨a40, e41, hf⟩ := dr_some hf
  obtain ⟨g42, hf⟩ := gd_some hf
  obtain ⟨g43, hf⟩ := gd_some hf
  obtain ⟨h44, eh45, hf⟩ := nm_some hf
  refine z_iast d_M_add_68 e41 (by rw [isK_eq g42]; decide) (by rw [isK_eq g42]; rfl) (inb_vp g43) ?_
  refine z_hp eh45 ?_
  refine z_aload_n 0 d_M_add_69 rfl rfl ?_
  refine z_getR d_M_add_70 (fl_K (isK_eq (isK_wI eh45 (isK_wI eh38 (isK_wI eh31 (isK_wI eh24 (isK_wI eh17 g11)))))) fl_M_38_8) (fi_K (isK_eq (isK_wI eh45 (isK_wI eh38 (isK_wI eh31 (isK_wI eh24 (isK_wI eh17 g11)))))) rfl) rfl ?_
  refine z_iload 6 d_M_add_73 rfl ?_
  refine z_iconst (v := (0 : Int32)) d_M_add_75 (by decide) ?_
  obtain ⟨a47, e48, hf⟩ := dr_some hf
  obtain ⟨g49, hf⟩ := gd_some hf
  obtain ⟨g50, hf⟩ := gd_some hf
  obtain ⟨h51, eh52, hf⟩ := nm_some hf
  refine z_iast d_M_add_76 e48 (by rw [isK_eq g49]; decide) (by rw [isK_eq g49]; rfl) (inb_vp g50) ?_
  refine z_hp eh52 ?_
  refine z_iconst (v := (0 : Int32)) d_M_add_77 (by decide) ?_
  refine z_istore (ls2 := [(7, vi (0 : Int32)), (0, vr (some y0)), (1, vi y1), (2, vi y2), (3, vi y3), (4, vi y4), (5, vi y5), (6, vi y6)]) d_M_add_78 (by decide) rfl ?_
  obtain ⟨x63, el64, hf⟩ := bd_some hf
  refine z_ls [1, 7, 0] rfl ?_
  refine zl_M_add_80 el64 ?_
  refine z_iload 0 d_M_add_105 rfl ?_
  obtain ⟨rfl, rfl⟩ := Prod.mk.inj (Option.some.inj hf)
  exact z_ret d_M_add_107 rfl
set_option maxRecDepth 100000 in
set_option maxHeartbeats 4000000 in
theorem kj_M_add_27_M {C : Ct} {mi : Nat} {y0 : Nat} {y1 : Int32} {y2 : Int32} {y3 : Int32} {y4 : Int32} {y5 : Int32} {y6 : Int32} {h h' : Hp} {v : Int32} (hf : j_M_add_27_M y0 y1 y2 y3 y4 y5 y6 h = some (v, h')) : Keep W_M_add h h' := by
  unfold j_M_add_27_M at hf
  obtain ⟨g11, hf⟩ := gd_some hf
  obtain ⟨a12, e13, hf⟩ := dr_some hf
  obtain ⟨g14, hf⟩ := gd_some hf
  obtain ⟨g15, hf⟩ := gd_some hf
  obtain ⟨h16, eh17, hf⟩ := nm_some hf
  have K18 := (Keep.refl W_M_add _).trans (kw_I eh17 (isK_eq g14) (Or.inr (by decide)))
  obtain ⟨a19, e20, hf⟩ := dr_some hf
  obtain ⟨g21, hf⟩ := gd_some hf
  obtain ⟨g22, hf⟩ := gd_some hf
  obtain ⟨h23, eh24, hf⟩ := nm_some hf
  have K25 := K18.trans (kw_I eh24 (isK_eq g21) (Or.inr (by decide)))
  obtain ⟨a26, e27, hf⟩ := dr_some hf
  obtain ⟨g28, hf⟩ := gd_some hf
  obtain ⟨g29, hf⟩ := gd_some hf
  obtain ⟨h30, eh31, hf⟩ := nm_some hf
  have K32 := K25.trans (kw_I eh31 (isK_eq g28) (Or.inr (by decide)))
  obtain ⟨a33, e34, hf⟩ := dr_some hf
  obtain ⟨g35, hf⟩ := gd_some hf
  obtain ⟨g36, hf⟩ := gd_some hf
  obtain ⟨h37, eh38, hf⟩ := nm_some hf
  have K39 := K32.trans (kw_I eh38 (isK_eq g35) (Or.inr (by decide)))
  obtain ⟨a40, e41, hf⟩ := dr_some hf
  obtain ⟨g42, hf⟩ := gd_some hf
  obtain ⟨g43, hf⟩ := gd_some hf
  obtain ⟨h44, eh45, hf⟩ := nm_some hf
  have K46 := K39.trans (kw_I eh45 (isK_eq g42) (Or.inr (by decide)))
  obtain ⟨a47, e48, hf⟩ := dr_some hf
  obtain ⟨g49, hf⟩ := gd_some hf
  obtain ⟨g50, hf⟩ := gd_some hf
  obtain ⟨h51, eh52, hf⟩ := nm_some hf
  have K53 := K46.trans (kw_I eh52 (isK_eq g49) (Or.inr (by decide)))
  obtain ⟨x63, el64, hf⟩ := bd_some hf
  have K65 := K53.trans (kl_M_add_80 (C := C) (mi := mi) el64)
  obtain ⟨rfl, rfl⟩ := Prod.mk.inj (Option.some.inj hf)
  exact K65
def f_M_add (a0 : Nat) (p1 : Int32) (p2 : Int32) (p3 : Int32) (p4 : Int32) (p5 : Int32) (h : Hp) : Option (Int32 × Hp) :=
  bd (l_M_add_3 a0 p1 p2 p3 p4 p5 ((0 : Int32), h)) fun x8 => j_M_add_27_M a0 p1 p2 p3 p4 p5 x8.1 x8.2
set_option maxRecDepth 100000 in
set_option maxHeartbeats 4000000 in
theorem zf_M_add {l : Launch} {C : Ct} {mi : Nat} {a0 : Nat} {p1 : Int32} {p2 : Int32} {p3 : Int32} {p4 : Int32} {p5 : Int32} {h h' : Hp} {v : Int32} (hf : f_M_add a0 p1 p2 p3 p4 p5 h = some (v, h')) : Z l C mi m_M_add 0 0 [(0, vr (some a0)), (1, vi p1), (2, vi p2), (3, vi p3), (4, vi p4), (5, vi p5)] [] h (some (vi v)) h' := by
  unfold f_M_add at hf
  refine z_iconst (v := (0 : Int32)) d_M_add_0 (by decide) ?_
  refine z_istore (ls2 := [(6, vi (0 : Int32)), (0, vr (some a0)), (1, vi p1), (2, vi p2), (3, vi p3), (4, vi p4), (5, vi p5)]) d_M_add_1 (by decide) rfl ?_
  obtain ⟨x8, el9, hf⟩ := bd_some hf
  refine z_ls [1, 2, 3, 4, 5, 6, 0] rfl ?_
  refine zl_M_add_3 el9 ?_
  refine z_ls [0, 1, 2, 3, 4, 5, 6] rfl ?_
  exact zj_M_add_27_M hf
set_option maxRecDepth 100000 in
set_option maxHeartbeats 4000000 in
theorem fr_M_add {C : Ct} {mi : Nat} {a0 : Nat} {p1 : Int32} {p2 : Int32} {p3 : Int32} {p4 : Int32} {p5 : Int32} {h h' : Hp} {v : Int32} (hf : f_M_add a0 p1 p2 p3 p4 p5 h = some (v, h')) : Keep W_M_add h h' := by
  unfold f_M_add at hf
  obtain ⟨x8, el9, hf⟩ := bd_some hf
  have K10 := (Keep.refl W_M_add _).trans (kl_M_add_3 (C := C) (mi := mi) el9)
  exact K10.trans (kj_M_add_27_M (C := C) (mi := mi) hf)
theorem c_M_add {l : Launch} {C : Ct} {mi : Nat} {a0 : Nat} {p1 : Int32} {p2 : Int32} {p3 : Int32} {p4 : Int32} {p5 : Int32} {h h' : Hp} {v : Int32} (hf : f_M_add a0 p1 p2 p3 p4 p5 h = some (v, h')) : Mt l C mi m_M_add 0 [vr (some a0), vi p1, vi p2, vi p3, vi p4, vi p5] h (some (vi v)) h' := mt_I (ty := .int) rfl rfl rfl (by decide) (Nat.le_of_ble_eq_true rfl) (zf_M_add hf)
-- VersionMapsModel.write(IIII)V
def m_M_write : Mi := (⟨"VersionMapsModel", "write", "(IIII)V"⟩, prog_11_method_27_code, 7, (Option.none : Option Jvm.ClassFile.FieldType), .return_)
theorem cw_M_write : cw_ok m_M_write 4 := ⟨by decide +kernel, by decide +kernel, by decide +kernel, by decide +kernel⟩
theorem im_M_write : Cond.instanceMethod m_M_write.1 ∈ lw_w := by decide +kernel
theorem se_M_write : Cond.selects "VersionMapsModel" m_M_write.1 m_M_write.1 ∈ lw_w := by decide +kernel
theorem d_M_write_0 : decode prog_11_method_27_code 0 = .ok (.iload_n 3, 1) := by decide +kernel
theorem d_M_write_1 : decode prog_11_method_27_code 1 = .ok (.iconst 1, 1) := by decide +kernel
theorem d_M_write_2 : decode prog_11_method_27_code 2 = .ok (.iadd, 1) := by decide +kernel
theorem d_M_write_3 : decode prog_11_method_27_code 3 = .ok (.iconst 2, 1) := by decide +kernel
theorem d_M_write_4 : decode prog_11_method_27_code 4 = .ok (.idiv, 1) := by decide +kernel
theorem d_M_write_5 : decode prog_11_method_27_code 5 = .ok (.istore 5, 2) := by decide +kernel
theorem d_M_write_7 : decode prog_11_method_27_code 7 = .ok (.aload_n 0, 1) := by decide +kernel
theorem d_M_write_8 : decode prog_11_method_27_code 8 = .ok (.getfield 68, 3) := by decide +kernel
theorem d_M_write_11 : decode prog_11_method_27_code 11 = .ok (.aload_n 0, 1) := by decide +kernel
theorem d_M_write_12 : decode prog_11_method_27_code 12 = .ok (.getfield 153, 3) := by decide +kernel
theorem d_M_write_15 : decode prog_11_method_27_code 15 = .ok (.iload_n 1, 1) := by decide +kernel
theorem d_M_write_16 : decode prog_11_method_27_code 16 = .ok (.iastore, 1) := by decide +kernel
theorem d_M_write_17 : decode prog_11_method_27_code 17 = .ok (.aload_n 0, 1) := by decide +kernel
theorem d_M_write_18 : decode prog_11_method_27_code 18 = .ok (.getfield 71, 3) := by decide +kernel
theorem d_M_write_21 : decode prog_11_method_27_code 21 = .ok (.aload_n 0, 1) := by decide +kernel
theorem d_M_write_22 : decode prog_11_method_27_code 22 = .ok (.getfield 153, 3) := by decide +kernel
theorem d_M_write_25 : decode prog_11_method_27_code 25 = .ok (.iload_n 2, 1) := by decide +kernel
theorem d_M_write_26 : decode prog_11_method_27_code 26 = .ok (.iastore, 1) := by decide +kernel
theorem d_M_write_27 : decode prog_11_method_27_code 27 = .ok (.aload_n 0, 1) := by decide +kernel
theorem d_M_write_28 : decode prog_11_method_27_code 28 = .ok (.getfield 74, 3) := by decide +kernel
theorem d_M_write_31 : decode prog_11_method_27_code 31 = .ok (.aload_n 0, 1) := by decide +kernel
theorem d_M_write_32 : decode prog_11_method_27_code 32 = .ok (.getfield 153, 3) := by decide +kernel
theorem d_M_write_35 : decode prog_11_method_27_code 35 = .ok (.iload 5, 2) := by decide +kernel
theorem d_M_write_37 : decode prog_11_method_27_code 37 = .ok (.iastore, 1) := by decide +kernel
theorem d_M_write_38 : decode prog_11_method_27_code 38 = .ok (.aload_n 0, 1) := by decide +kernel
theorem d_M_write_39 : decode prog_11_method_27_code 39 = .ok (.getfield 77, 3) := by decide +kernel
theorem d_M_write_42 : decode prog_11_method_27_code 42 = .ok (.aload_n 0, 1) := by decide +kernel
theorem d_M_write_43 : decode prog_11_method_27_code 43 = .ok (.getfield 153, 3) := by decide +kernel
theorem d_M_write_46 : decode prog_11_method_27_code 46 = .ok (.iload_n 3, 1) := by decide +kernel
theorem d_M_write_47 : decode prog_11_method_27_code 47 = .ok (.iastore, 1) := by decide +kernel
theorem d_M_write_48 : decode prog_11_method_27_code 48 = .ok (.aload_n 0, 1) := by decide +kernel
theorem d_M_write_49 : decode prog_11_method_27_code 49 = .ok (.getfield 80, 3) := by decide +kernel
theorem d_M_write_52 : decode prog_11_method_27_code 52 = .ok (.aload_n 0, 1) := by decide +kernel
theorem d_M_write_53 : decode prog_11_method_27_code 53 = .ok (.getfield 153, 3) := by decide +kernel
theorem d_M_write_56 : decode prog_11_method_27_code 56 = .ok (.iload 4, 2) := by decide +kernel
theorem d_M_write_58 : decode prog_11_method_27_code 58 = .ok (.iastore, 1) := by decide +kernel
theorem d_M_write_59 : decode prog_11_method_27_code 59 = .ok (.aload_n 0, 1) := by decide +kernel
theorem d_M_write_60 : decode prog_11_method_27_code 60 = .ok (.dup, 1) := by decide +kernel
theorem d_M_write_61 : decode prog_11_method_27_code 61 = .ok (.getfield 153, 3) := by decide +kernel
theorem d_M_write_64 : decode prog_11_method_27_code 64 = .ok (.iconst 1, 1) := by decide +kernel
theorem d_M_write_65 : decode prog_11_method_27_code 65 = .ok (.iadd, 1) := by decide +kernel
theorem d_M_write_66 : decode prog_11_method_27_code 66 = .ok (.putfield 153, 3) := by decide +kernel
theorem d_M_write_69 : decode prog_11_method_27_code 69 = .ok (.iconst 0, 1) := by decide +kernel
theorem d_M_write_70 : decode prog_11_method_27_code 70 = .ok (.istore 6, 2) := by decide +kernel
theorem d_M_write_72 : decode prog_11_method_27_code 72 = .ok (.iload 6, 2) := by decide +kernel
theorem d_M_write_74 : decode prog_11_method_27_code 74 = .ok (.iload 5, 2) := by decide +kernel
theorem d_M_write_76 : decode prog_11_method_27_code 76 = .ok (.if_icmp .ge 63, 3) := by decide +kernel
theorem d_M_write_79 : decode prog_11_method_27_code 79 = .ok (.aload_n 0, 1) := by decide +kernel
theorem d_M_write_80 : decode prog_11_method_27_code 80 = .ok (.getfield 65, 3) := by decide +kernel
theorem d_M_write_83 : decode prog_11_method_27_code 83 = .ok (.iload_n 2, 1) := by decide +kernel
theorem d_M_write_84 : decode prog_11_method_27_code 84 = .ok (.iload 6, 2) := by decide +kernel
theorem d_M_write_86 : decode prog_11_method_27_code 86 = .ok (.iadd, 1) := by decide +kernel
theorem d_M_write_87 : decode prog_11_method_27_code 87 = .ok (.iconst 0, 1) := by decide +kernel
theorem d_M_write_88 : decode prog_11_method_27_code 88 = .ok (.bastore, 1) := by decide +kernel
theorem d_M_write_89 : decode prog_11_method_27_code 89 = .ok (.aload_n 0, 1) := by decide +kernel
theorem d_M_write_90 : decode prog_11_method_27_code 90 = .ok (.getfield 50, 3) := by decide +kernel
theorem d_M_write_93 : decode prog_11_method_27_code 93 = .ok (.iload_n 2, 1) := by decide +kernel
theorem d_M_write_94 : decode prog_11_method_27_code 94 = .ok (.iload 6, 2) := by decide +kernel
theorem d_M_write_96 : decode prog_11_method_27_code 96 = .ok (.iadd, 1) := by decide +kernel
theorem d_M_write_97 : decode prog_11_method_27_code 97 = .ok (.iload_n 1, 1) := by decide +kernel
theorem d_M_write_98 : decode prog_11_method_27_code 98 = .ok (.iastore, 1) := by decide +kernel
theorem d_M_write_99 : decode prog_11_method_27_code 99 = .ok (.aload_n 0, 1) := by decide +kernel
theorem d_M_write_100 : decode prog_11_method_27_code 100 = .ok (.getfield 53, 3) := by decide +kernel
theorem d_M_write_103 : decode prog_11_method_27_code 103 = .ok (.iload_n 2, 1) := by decide +kernel
theorem d_M_write_104 : decode prog_11_method_27_code 104 = .ok (.iload 6, 2) := by decide +kernel
theorem d_M_write_106 : decode prog_11_method_27_code 106 = .ok (.iadd, 1) := by decide +kernel
theorem d_M_write_107 : decode prog_11_method_27_code 107 = .ok (.iload 6, 2) := by decide +kernel
theorem d_M_write_109 : decode prog_11_method_27_code 109 = .ok (.iastore, 1) := by decide +kernel
theorem d_M_write_110 : decode prog_11_method_27_code 110 = .ok (.aload_n 0, 1) := by decide +kernel
theorem d_M_write_111 : decode prog_11_method_27_code 111 = .ok (.getfield 62, 3) := by decide +kernel
theorem d_M_write_114 : decode prog_11_method_27_code 114 = .ok (.aload_n 0, 1) := by decide +kernel
theorem d_M_write_115 : decode prog_11_method_27_code 115 = .ok (.getfield 156, 3) := by decide +kernel
theorem d_M_write_118 : decode prog_11_method_27_code 118 = .ok (.iload_n 2, 1) := by decide +kernel
theorem d_M_write_119 : decode prog_11_method_27_code 119 = .ok (.iload 6, 2) := by decide +kernel
theorem d_M_write_121 : decode prog_11_method_27_code 121 = .ok (.iadd, 1) := by decide +kernel
theorem d_M_write_122 : decode prog_11_method_27_code 122 = .ok (.iastore, 1) := by decide +kernel
theorem d_M_write_123 : decode prog_11_method_27_code 123 = .ok (.aload_n 0, 1) := by decide +kernel
theorem d_M_write_124 : decode prog_11_method_27_code 124 = .ok (.dup, 1) := by decide +kernel
theorem d_M_write_125 : decode prog_11_method_27_code 125 = .ok (.getfield 156, 3) := by decide +kernel
theorem d_M_write_128 : decode prog_11_method_27_code 128 = .ok (.iconst 1, 1) := by decide +kernel
theorem d_M_write_129 : decode prog_11_method_27_code 129 = .ok (.iadd, 1) := by decide +kernel
theorem d_M_write_130 : decode prog_11_method_27_code 130 = .ok (.putfield 156, 3) := by decide +kernel
theorem d_M_write_133 : decode prog_11_method_27_code 133 = .ok (.iinc 6 1, 3) := by decide +kernel
theorem d_M_write_136 : decode prog_11_method_27_code 136 = .ok (.goto (-64), 3) := by decide +kernel
theorem d_M_write_139 : decode prog_11_method_27_code 139 = .ok (.return_, 1) := by decide +kernel
def W_M_write : Wl := ([(8, 19), (8, 25)], [88, 89, 92, 93, 94, 95, 96, 97, 98])
def b_M_write_72 (y0 : Nat) (y1 : Int32) (y2 : Int32) (y5 : Int32) (y6 : Int32) (h : Hp) : Option ((Int32 × Hp) ⊕ (Hp)) :=
  if y5 ≤ y6 then (some (.inr h)) else (gd (isK h y0 8) (dr (hpR h y0 18) fun a42 => gd (isK h a42 93) (gd (inb (y2 + y6) (hpL h a42)) (nm (wI h a42 (y2 + y6).toNatClampNeg (vp_nar .boolean (0 : Int32))) fun h46 => dr (hpR h46 y0 13) fun a49 => gd (isK h46 a49 88) (gd (inb (y2 + y6) (hpL h46 a49)) (nm (wI h46 a49 (y2 + y6).toNatClampNeg y1) fun h53 => dr (hpR h53 y0 14) fun a56 => gd (isK h53 a56 89) (gd (inb (y2 + y6) (hpL h53 a56)) (nm (wI h53 a56 (y2 + y6).toNatClampNeg y6) fun h60 => dr (hpR h60 y0 17) fun a63 => gd (isK h60 a63 92) (gd (inb (hpI h60 y0 19) (hpL h60 a63)) (nm (wI h60 a63 (hpI h60 y0 19).toNatClampNeg (y2 + y6)) fun h67 => nm (wI h67 y0 19 ((hpI h67 y0 19) + (1 : Int32))) fun h70 => some (.inl ((y6 + (1 : Int32)), h70))))))))))))
set_option maxRecDepth 100000 in
set_option maxHeartbeats 4000000 in
theorem zb_M_write_72 {l : Launch} {C : Ct} {mi : Nat} {y0 : Nat} {y1 : Int32} {y2 : Int32} {y5 : Int32} {y6 : Int32} {h h' : Hp} {q : ((Int32 × Hp) ⊕ (Hp))} (hf : b_M_write_72 y0 y1 y2 y5 y6 h = some q) (kc : ∀ s, q = .inl s → Z l C mi m_M_write 0 72 [(0, vr (some y0)), (1, vi y1), (2, vi y2), (5, vi y5), (6, vi s.1)] [] s.2 none h') (ke : ∀ x, q = .inr x → Z l C mi m_M_write 0 139 [] [] x none h') : Z l C mi m_M_write 0 72 [(0, vr (some y0)), (1, vi y1), (2, vi y2), (5, vi y5), (6, vi y6)] [] h none h' := by
  unfold b_M_write_72 at hf
  refine z_iload 4 d_M_write_72 rfl ?_
  refine z_iload 3 d_M_write_74 rfl ?_
  refine z_icmp_ge (tgt := 139) d_M_write_76 (by decide) (fun c40 => ?_) (fun c40 => ?_)
  · rw [if_pos c40] at hf
    refine z_ls [] rfl ?_
    exact ke h (Option.some.inj hf).symm
  · rw [if_neg c40] at hf
    refine z_aload_n 0 d_M_write_79 rfl rfl ?_
    obtain ⟨g41, hf⟩ := gd_some hf
    refine z_getR d_M_write_80 (fl_K (isK_eq g41) fl_M_65_8) (fi_K (isK_eq g41) rfl) rfl ?_
    refine z_iload_n 2 d_M_write_83 rfl rfl ?_
    refine z_iload 4 d_M_write_84 rfl ?_
    refine z_iadd d_M_write_86 ?_
    refine z_iconst (v := (0 : Int32)) d_M_write_87 (by decide) ?_
    obtain ⟨a42, e43, hf⟩ := dr_some hf
    obtain ⟨g44, hf⟩ := gd_some hf
    obtain ⟨g45, hf⟩ := gd_some hf
    obtain ⟨h46, eh47, hf⟩ := nm_some hf
    refine z_zast d_M_write_88 e43 (by rw [isK_eq g44]; decide) (by rw [isK_eq g44]; rfl) (inb_vp g45) ?_
    refine z_hp eh47 ?_
    refine z_aload_n 0 d_M_write_89 rfl rfl ?_
    refine z_getR d_M_write_90 (fl_K (isK_eq (isK_wI eh47 g41)) fl_M_50_8) (fi_K (isK_eq (isK_wI eh47 g41)) rfl) rfl ?_
    refine z_iload_n 2 d_M_write_93 rfl rfl ?_
    refine z_iload 4 d_M_write_94 rfl ?_
    refine z_iadd d_M_write_96 ?_
    refine z_iload_n 1 d_M_write_97 rfl rfl ?_
    obtain ⟨a49, e50, hf⟩ := dr_some hf
    obtain ⟨g51, hf⟩ := gd_some hf
    obtain ⟨g52, hf⟩ := gd_some hf
    obtain ⟨h53, eh54, hf⟩ := nm_some hf
    refine z_iast d_M_write_98 e50 (by rw [isK_eq g51]; decide) (by rw [isK_eq g51]; rfl) (inb_vp g52) ?_
    refine z_hp eh54 ?_
    refine z_aload_n 0 d_M_write_99 rfl rfl ?_
    refine z_getR d_M_write_100 (fl_K (isK_eq (isK_wI eh54 (isK_wI eh47 g41))) fl_M_53_8) (fi_K (isK_eq (isK_wI eh54 (isK_wI eh47 g41))) rfl) rfl ?_
    refine z_iload_n 2 d_M_write_103 rfl rfl ?_
    refine z_iload 4 d_M_write_104 rfl ?_
    refine z_iadd d_M_write_106 ?_
    refine z_iload 4 d_M_write_107 rfl ?_
    obtain ⟨a56, e57, hf⟩ := dr_some hf
    obtain ⟨g58, hf⟩ := gd_some hf
    obtain ⟨g59, hf⟩ := gd_some hf
    obtain ⟨h60, eh61, hf⟩ := nm_some hf
    refine z_iast d_M_write_109 e57 (by rw [isK_eq g58]; decide) (by rw [isK_eq g58]; rfl) (inb_vp g59) ?_
    refine z_hp eh61 ?_
    refine z_aload_n 0 d_M_write_110 rfl rfl ?_
    refine z_getR d_M_write_111 (fl_K (isK_eq (isK_wI eh61 (isK_wI eh54 (isK_wI eh47 g41)))) fl_M_62_8) (fi_K (isK_eq (isK_wI eh61 (isK_wI eh54 (isK_wI eh47 g41)))) rfl) rfl ?_
    refine z_aload_n 0 d_M_write_114 rfl rfl ?_
    refine z_getI d_M_write_115 (fl_K (isK_eq (isK_wI eh61 (isK_wI eh54 (isK_wI eh47 g41)))) fl_M_156_8) (fi_K (isK_eq (isK_wI eh61 (isK_wI eh54 (isK_wI eh47 g41)))) rfl) rfl ?_
    refine z_iload_n 2 d_M_write_118 rfl rfl ?_
    refine z_iload 4 d_M_write_119 rfl ?_
    refine z_iadd d_M_write_121 ?_
    obtain ⟨a63, e64, hf⟩ := dr_some hf
    obtain ⟨g65, hf⟩ := gd_some hf
    obtain ⟨g66, hf⟩ := gd_some hf
    obtain ⟨h67, eh68, hf⟩ := nm_some hf
    refine z_iast d_M_write_122 e64 (by rw [isK_eq g65]; decide) (by rw [isK_eq g65]; rfl) (inb_vp g66) ?_
    refine z_hp eh68 ?_
    refine z_aload_n 0 d_M_write_123 rfl rfl ?_
    refine z_dup d_M_write_124 rfl ?_
    refine z_getI d_M_write_125 (fl_K (isK_eq (isK_wI eh68 (isK_wI eh61 (isK_wI eh54 (isK_wI eh47 g41))))) fl_M_156_8) (fi_K (isK_eq (isK_wI eh68 (isK_wI eh61 (isK_wI eh54 (isK_wI eh47 g41))))) rfl) rfl ?_
    refine z_iconst (v := (1 : Int32)) d_M_write_128 (by decide) ?_
    refine z_iadd d_M_write_129 ?_
    obtain ⟨h70, eh71, hf⟩ := nm_some hf
    refine z_putI d_M_write_130 (fl_K (isK_eq (isK_wI eh68 (isK_wI eh61 (isK_wI eh54 (isK_wI eh47 g41))))) fl_M_156_8) (pu_K (isK_eq (isK_wI eh68 (isK_wI eh61 (isK_wI eh54 (isK_wI eh47 g41))))) (fun q hq => by cases (Option.some.inj hq); exact Or.inl rfl)) (fi_K (isK_eq (isK_wI eh68 (isK_wI eh61 (isK_wI eh54 (isK_wI eh47 g41))))) rfl) rfl ?_
    refine z_hp eh71 ?_
    refine z_iinc (ls2 := [(6, vi (y6 + (1 : Int32))), (0, vr (some y0)), (1, vi y1), (2, vi y2), (5, vi y5)]) 4 d_M_write_133 rfl rfl (by decide) rfl ?_
    refine z_goto (tgt := 72) d_M_write_136 (by decide) ?_
    refine z_ls [1, 2, 3, 4, 0] rfl ?_
    exact kc ((y6 + (1 : Int32)), h70) (Option.some.inj hf).symm
set_option maxRecDepth 100000 in
set_option maxHeartbeats 4000000 in
theorem kb_M_write_72 {C : Ct} {mi : Nat} {y0 : Nat} {y1 : Int32} {y2 : Int32} {y5 : Int32} {y6 : Int32} {h : Hp} {q : ((Int32 × Hp) ⊕ (Hp))} (hf : b_M_write_72 y0 y1 y2 y5 y6 h = some q) : Keep W_M_write h (Sum.elim (fun s : Int32 × Hp => s.2) (fun x : Hp => x) q) := by
  unfold b_M_write_72 at hf
  rcases Classical.em (y5 ≤ y6) with c40 | c40
  · rw [if_pos c40] at hf
    cases (Option.some.inj hf)
    exact (Keep.refl W_M_write _)
  · rw [if_neg c40] at hf
    obtain ⟨g41, hf⟩ := gd_some hf
    obtain ⟨a42, e43, hf⟩ := dr_some hf
    obtain ⟨g44, hf⟩ := gd_some hf
    obtain ⟨g45, hf⟩ := gd_some hf
    obtain ⟨h46, eh47, hf⟩ := nm_some hf
    have K48 := (Keep.refl W_M_write _).trans (kw_I eh47 (isK_eq g44) (Or.inr (by decide)))
    obtain ⟨a49, e50, hf⟩ := dr_some hf
    obtain ⟨g51, hf⟩ := gd_some hf
    obtain ⟨g52, hf⟩ := gd_some hf
    obtain ⟨h53, eh54, hf⟩ := nm_some hf
    have K55 := K48.trans (kw_I eh54 (isK_eq g51) (Or.inr (by decide)))
    obtain ⟨a56, e57, hf⟩ := dr_some hf
    obtain ⟨g58, hf⟩ := gd_some hf
    obtain ⟨g59, hf⟩ := gd_some hf
    obtain ⟨h60, eh61, hf⟩ := nm_some hf
    have K62 := K55.trans (kw_I eh61 (isK_eq g58) (Or.inr (by decide)))
    obtain ⟨a63, e64, hf⟩ := dr_some hf
    obtain ⟨g65, hf⟩ := gd_some hf
    obtain ⟨g66, hf⟩ := gd_some hf
    obtain ⟨h67, eh68, hf⟩ := nm_some hf
    have K69 := K62.trans (kw_I eh68 (isK_eq g65) (Or.inr (by decide)))
    obtain ⟨h70, eh71, hf⟩ := nm_some hf
    have K72 := K69.trans (kw_I eh71 (isK_eq (isK_wI eh68 (isK_wI eh61 (isK_wI eh54 (isK_wI eh47 g41))))) (Or.inl (by decide)))
    cases (Option.some.inj hf)
    exact K72
def l_M_write_72 (y0 : Nat) (y1 : Int32) (y2 : Int32) (y5 : Int32) (s : Int32 × Hp) : Option (Hp) := lp (fun s => b_M_write_72 y0 y1 y2 y5 s.1 s.2) FU s
theorem zzl_M_write_72 {l : Launch} {C : Ct} {mi : Nat} {y0 : Nat} {y1 : Int32} {y2 : Int32} {y5 : Int32} {h' : Hp} : ∀ (n : Nat) (s : Int32 × Hp) (x : (Hp)), lp (fun s : Int32 × Hp => b_M_write_72 y0 y1 y2 y5 s.1 s.2) n s = some x → Z l C mi m_M_write 0 139 [] [] x none h' → Z l C mi m_M_write 0 72 [(0, vr (some y0)), (1, vi y1), (2, vi y2), (5, vi y5), (6, vi s.1)] [] s.2 none h' := by
  intro n
  induction n with
  | zero => intro s x hl; cases hl
  | succ n ih =>
    intro s x hl ke
    rcases lp_some hl with ⟨s2, hb, hl2⟩ | hb
    · exact zb_M_write_72 hb (fun s3 e3 => by cases e3; refine z_ls [0, 1, 2, 3, 4] rfl ?_; exact ih s2 x hl2 ke) (fun x e3 => by cases e3)
    · exact zb_M_write_72 hb (fun s3 e3 => by cases e3) (fun x e3 => by cases e3; exact ke)
theorem zl_M_write_72 {l : Launch} {C : Ct} {mi : Nat} {y0 : Nat} {y1 : Int32} {y2 : Int32} {y5 : Int32} {h' : Hp} {s : Int32 × Hp} {x : (Hp)} (hl : l_M_write_72 y0 y1 y2 y5 s = some x) (ke : Z l C mi m_M_write 0 139 [] [] x none h') : Z l C mi m_M_write 0 72 [(0, vr (some y0)), (1, vi y1), (2, vi y2), (5, vi y5), (6, vi s.1)] [] s.2 none h' := zzl_M_write_72 FU s x hl ke
theorem kl_M_write_72 {C : Ct} {mi : Nat} {y0 : Nat} {y1 : Int32} {y2 : Int32} {y5 : Int32} {s : Int32 × Hp} {q : (Hp)} (hl : l_M_write_72 y0 y1 y2 y5 s = some q) : Keep W_M_write s.2 ((fun x : Hp => x) q) := lpk (sh := (fun s : Int32 × Hp => s.2)) (rh := (fun x : Hp => x)) (fun s q hb => kb_M_write_72 (C := C) (mi := mi) hb) FU s q hl
def f_M_write (a0 : Nat) (p1 : Int32) (p2 : Int32) (p3 : Int32) (p4 : Int32) (h : Hp) : Option Hp :=
  gd (isK h a0 8) (dr (hpR h a0 20) fun a2 => gd (isK h a2 94) (gd (inb (hpI h a0 25) (hpL h a2)) (nm (wI h a2 (hpI h a0 25).toNatClampNeg p1) fun h6 => dr (hpR h6 a0 21) fun a9 => gd (isK h6 a9 95) (gd (inb (hpI h6 a0 25) (hpL h6 a9)) (nm (wI h6 a9 (hpI h6 a0 25).toNatClampNeg p2) fun h13 => dr (hpR h13 a0 22) fun a16 => gd (isK h13 a16 96) (gd (inb (hpI h13 a0 25) (hpL h13 a16)) (nm (wI h13 a16 (hpI h13 a0 25).toNatClampNeg ((p3 + (1 : Int32)) / (nI 2))) fun h20 => dr (hpR h20 a0 23) fun a23 => gd (isK h20 a23 97) (gd (inb (hpI h20 a0 25) (hpL h20 a23)) (nm (wI h20 a23 (hpI h20 a0 25).toNatClampNeg p3) fun h27 => dr (hpR h27 a0 24) fun a30 => gd (isK h27 a30 98) (gd (inb (hpI h27 a0 25) (hpL h27 a30)) (nm (wI h27 a30 (hpI h27 a0 25).toNatClampNeg p4) fun h34 => nm (wI h34 a0 25 ((hpI h34 a0 25) + (1 : Int32))) fun h37 => bd (l_M_write_72 a0 p1 p2 ((p3 + (1 : Int32)) / (nI 2)) ((0 : Int32), h37)) fun x73 => some x73)))))))))))
set_option maxRecDepth 100000 in
set_option maxHeartbeats 4000000 in
theorem zf_M_write {l : Launch} {C : Ct} {mi : Nat} {a0 : Nat} {p1 : Int32} {p2 : Int32} {p3 : Int32} {p4 : Int32} {h h' : Hp} (hf : f_M_write a0 p1 p2 p3 p4 h = some h') : Z l C mi m_M_write 0 0 [(0, vr (some a0)), (1, vi p1), (2, vi p2), (3, vi p3), (4, vi p4)] [] h none h' := by
  unfold f_M_write at hf
  refine z_iload_n 3 d_M_write_0 rfl rfl ?_
  refine z_iconst (v := (1 : Int32)) d_M_write_1 (by decide) ?_
  refine z_iadd d_M_write_2 ?_
  refine z_iconst (v := (nI 2)) d_M_write_3 (by decide) ?_
  refine z_idiv d_M_write_4 (by decide) ?_
  refine z_istore (ls2 := [(5, vi ((p3 + (1 : Int32)) / (nI 2))), (0, vr (some a0)), (1, vi p1), (2, vi p2), (3, vi p3), (4, vi p4)]) d_M_write_5 (by decide) rfl ?_
  refine z_aload_n 1 d_M_write_7 rfl rfl ?_
  obtain ⟨g1, hf⟩ := gd_some hf
  refine z_getR d_M_write_8 (fl_K (isK_eq g1) fl_M_68_8) (fi_K (isK_eq g1) rfl) rfl ?_
  refine z_aload_n 1 d_M_write_11 rfl rfl ?_
  refine z_getI d_M_write_12 (fl_K (isK_eq g1) fl_M_153_8) (fi_K (isK_eq g1) rfl) rfl ?_
  refine z_iload_n 2 d_M_write_15 rfl rfl ?_
  obtain ⟨a2, e3, hf⟩ := dr_some hf
  obtain ⟨g4, hf⟩ := gd_some hf
  obtain ⟨g5, hf⟩ := gd_some hf
  obtain ⟨h6, eh7, hf⟩ := nm_some hf
  refine z_iast d_M_write_16 e3 (by rw [isK_eq g4]; decide) (by rw [isK_eq g4]; rfl) (inb_vp g5) ?_
  refine z_hp eh7 ?_
  refine z_aload_n 1 d_M_write_17 rfl rfl ?_
  refine z_getR d_M_write_18 (fl_K (isK_eq (isK_wI eh7 g1)) fl_M_71_8) (fi_K (isK_eq (isK_wI eh7 g1)) rfl) rfl ?_
  refine z_aload_n 1 d_M_write_21 rfl rfl ?_
  refine z_getI d_M_write_22 (fl_K (isK_eq (isK_wI eh7 g1)) fl_M_153_8) (fi_K (isK_eq (isK_wI eh7 g1)) rfl) rfl ?_
  refine z_iload_n 3 d_M_write_25 rfl rfl ?_
  obtain ⟨a9, e10, hf⟩ := dr_some hf
  obtain ⟨g11, hf⟩ := gd_some hf
  obtain ⟨g12, hf⟩ := gd_some hf
  obtain ⟨h13, eh14, hf⟩ := nm_some hf
  refine z_iast d_M_write_26 e10 (by rw [isK_eq g11]; decide) (by rw [isK_eq g11]; rfl) (inb_vp g12) ?_
  refine z_hp eh14 ?_
  refine z_aload_n 1 d_M_write_27 rfl rfl ?_
  refine z_getR d_M_write_28 (fl_K (isK_eq (isK_wI eh14 (isK_wI eh7 g1))) fl_M_74_8) (fi_K (isK_eq (isK_wI eh14 (isK_wI eh7 g1))) rfl) rfl ?_
  refine z_aload_n 1 d_M_write_31 rfl rfl ?_
  refine z_getI d_M_write_32 (fl_K (isK_eq (isK_wI eh14 (isK_wI eh7 g1))) fl_M_153_8) (fi_K (isK_eq (isK_wI eh14 (isK_wI eh7 g1))) rfl) rfl ?_
  refine z_iload 0 d_M_write_35 rfl ?_
  obtain ⟨a16, e17, hf⟩ := dr_some hf
  obtain ⟨g18, hf⟩ := gd_some hf
  obtain ⟨g19, hf⟩ := gd_some hf
  obtain ⟨h20, eh21, hf⟩ := nm_some hf
  refine z_iast d_M_write_37 e17 (by rw [isK_eq g18]; decide) (by rw [isK_eq g18]; rfl) (inb_vp g19) ?_
  refine z_hp eh21 ?_
  refine z_aload_n 1 d_M_write_38 rfl rfl ?_
  refine z_getR d_M_write_39 (fl_K (isK_eq (isK_wI eh21 (isK_wI eh14 (isK_wI eh7 g1)))) fl_M_77_8) (fi_K (isK_eq (isK_wI eh21 (isK_wI eh14 (isK_wI eh7 g1)))) rfl) rfl ?_
  refine z_aload_n 1 d_M_write_42 rfl rfl ?_
  refine z_getI d_M_write_43 (fl_K (isK_eq (isK_wI eh21 (isK_wI eh14 (isK_wI eh7 g1)))) fl_M_153_8) (fi_K (isK_eq (isK_wI eh21 (isK_wI eh14 (isK_wI eh7 g1)))) rfl) rfl ?_
  refine z_iload_n 4 d_M_write_46 rfl rfl ?_
  obtain ⟨a23, e24, hf⟩ := dr_some hf
  obtain ⟨g25, hf⟩ := gd_some hf
  obtain ⟨g26, hf⟩ := gd_some hf
  obtain ⟨h27, eh28, hf⟩ := nm_some hf
  refine z_iast d_M_write_47 e24 (by rw [isK_eq g25]; decide) (by rw [isK_eq g25]; rfl) (inb_vp g26) ?_
  refine z_hp eh28 ?_
  refine z_aload_n 1 d_M_write_48 rfl rfl ?_
  refine z_getR d_M_write_49 (fl_K (isK_eq (isK_wI eh28 (isK_wI eh21 (isK_wI eh14 (isK_wI eh7 g1))))) fl_M_80_8) (fi_K (isK_eq (isK_wI eh28 (isK_wI eh21 (isK_wI eh14 (isK_wI eh7 g1))))) rfl) rfl ?_
  refine z_aload_n 1 d_M_write_52 rfl rfl ?_
  refine z_getI d_M_write_53 (fl_K (isK_eq (isK_wI eh28 (isK_wI eh21 (isK_wI eh14 (isK_wI eh7 g1))))) fl_M_153_8) (fi_K (isK_eq (isK_wI eh28 (isK_wI eh21 (isK_wI eh14 (isK_wI eh7 g1))))) rfl) rfl ?_
  refine z_iload 5 d_M_write_56 rfl ?_
  obtain ⟨a30, e31, hf⟩ := dr_some hf
  obtain ⟨g32, hf⟩ := gd_some hf
  obtain ⟨g33, hf⟩ := gd_some hf
  obtain ⟨h34, eh35, hf⟩ := nm_some hf
  refine z_iast d_M_write_58 e31 (by rw [isK_eq g32]; decide) (by rw [isK_eq g32]; rfl) (inb_vp g33) ?_
  refine z_hp eh35 ?_
  refine z_aload_n 1 d_M_write_59 rfl rfl ?_
  refine z_dup d_M_write_60 rfl ?_
  refine z_getI d_M_write_61 (fl_K (isK_eq (isK_wI eh35 (isK_wI eh28 (isK_wI eh21 (isK_wI eh14 (isK_wI eh7 g1)))))) fl_M_153_8) (fi_K (isK_eq (isK_wI eh35 (isK_wI eh28 (isK_wI eh21 (isK_wI eh14 (isK_wI eh7 g1)))))) rfl) rfl ?_
  refine z_iconst (v := (1 : Int32)) d_M_write_64 (by decide) ?_
  refine z_iadd d_M_write_65 ?_
  obtain ⟨h37, eh38, hf⟩ := nm_some hf
  refine z_putI d_M_write_66 (fl_K (isK_eq (isK_wI eh35 (isK_wI eh28 (isK_wI eh21 (isK_wI eh14 (isK_wI eh7 g1)))))) fl_M_153_8) (pu_K (isK_eq (isK_wI eh35 (isK_wI eh28 (isK_wI eh21 (isK_wI eh14 (isK_wI eh7 g1)))))) (fun q hq => by cases (Option.some.inj hq); exact Or.inl rfl)) (fi_K (isK_eq (isK_wI eh35 (isK_wI eh28 (isK_wI eh21 (isK_wI eh14 (isK_wI eh7 g1)))))) rfl) rfl ?_
  refine z_hp eh38 ?_
  refine z_iconst (v := (0 : Int32)) d_M_write_69 (by decide) ?_
  refine z_istore (ls2 := [(6, vi (0 : Int32)), (5, vi ((p3 + (1 : Int32)) / (nI 2))), (0, vr (some a0)), (1, vi p1), (2, vi p2), (3, vi p3), (4, vi p4)]) d_M_write_70 (by decide) rfl ?_
  obtain ⟨x73, el74, hf⟩ := bd_some hf
  refine z_ls [2, 3, 4, 1, 0] rfl ?_
  refine zl_M_write_72 el74 ?_
  cases (Option.some.inj hf)
  exact z_ret d_M_write_139 rfl
set_option maxRecDepth 100000 in
set_option maxHeartbeats 4000000 in
theorem fr_M_write {C : Ct} {mi : Nat} {a0 : Nat} {p1 : Int32} {p2 : Int32} {p3 : Int32} {p4 : Int32} {h h' : Hp} (hf : f_M_write a0 p1 p2 p3 p4 h = some h') : Keep W_M_write h h' := by
  unfold f_M_write at hf
  obtain ⟨g1, hf⟩ := gd_some hf
  obtain ⟨a2, e3, hf⟩ := dr_some hf
  obtain ⟨g4, hf⟩ := gd_some hf
  obtain ⟨g5, hf⟩ := gd_some hf
  obtain ⟨h6, eh7, hf⟩ := nm_some hf
  have K8 := (Keep.refl W_M_write _).trans (kw_I eh7 (isK_eq g4) (Or.inr (by decide)))
  obtain ⟨a9, e10, hf⟩ := dr_some hf
  obtain ⟨g11, hf⟩ := gd_some hf
  obtain ⟨g12, hf⟩ := gd_some hf
  obtain ⟨h13, eh14, hf⟩ := nm_some hf
  have K15 := K8.trans (kw_I eh14 (isK_eq g11) (Or.inr (by decide)))
  obtain ⟨a16, e17, hf⟩ := dr_some hf
  obtain ⟨g18, hf⟩ := gd_some hf
  obtain ⟨g19, hf⟩ := gd_some hf
  obtain ⟨h20, eh21, hf⟩ := nm_some hf
  have K22 := K15.trans (kw_I eh21 (isK_eq g18) (Or.inr (by decide)))
  obtain ⟨a23, e24, hf⟩ := dr_some hf
  obtain ⟨g25, hf⟩ := gd_some hf
  obtain ⟨g26, hf⟩ := gd_some hf
  obtain ⟨h27, eh28, hf⟩ := nm_some hf
  have K29 := K22.trans (kw_I eh28 (isK_eq g25) (Or.inr (by decide)))
  obtain ⟨a30, e31, hf⟩ := dr_some hf
  obtain ⟨g32, hf⟩ := gd_some hf
  obtain ⟨g33, hf⟩ := gd_some hf
  obtain ⟨h34, eh35, hf⟩ := nm_some hf
  have K36 := K29.trans (kw_I eh35 (isK_eq g32) (Or.inr (by decide)))
  obtain ⟨h37, eh38, hf⟩ := nm_some hf
  have K39 := K36.trans (kw_I eh38 (isK_eq (isK_wI eh35 (isK_wI eh28 (isK_wI eh21 (isK_wI eh14 (isK_wI eh7 g1)))))) (Or.inl (by decide)))
  obtain ⟨x73, el74, hf⟩ := bd_some hf
  have K75 := K39.trans (kl_M_write_72 (C := C) (mi := mi) el74)
  cases (Option.some.inj hf)
  exact K75
theorem c_M_write {l : Launch} {C : Ct} {mi : Nat} {a0 : Nat} {p1 : Int32} {p2 : Int32} {p3 : Int32} {p4 : Int32} {h h' : Hp} (hf : f_M_write a0 p1 p2 p3 p4 h = some h') : Mt l C mi m_M_write 0 [vr (some a0), vi p1, vi p2, vi p3, vi p4] h none h' := mt_V rfl rfl (by decide) (Nat.le_of_ble_eq_true rfl) (zf_M_write hf)
-- VersionMapsModel.settle()V
def m_M_settle : Mi := (⟨"VersionMapsModel", "settle", "()V"⟩, prog_11_method_21_code, 2, (Option.none : Option Jvm.ClassFile.FieldType), .return_)
theorem cw_M_settle : cw_ok m_M_settle 0 := ⟨by decide +kernel, by decide +kernel, by decide +kernel, by decide +kernel⟩
theorem im_M_settle : Cond.instanceMethod m_M_settle.1 ∈ lw_w := by decide +kernel
theorem se_M_settle : Cond.selects "VersionMapsModel" m_M_settle.1 m_M_settle.1 ∈ lw_w := by decide +kernel
theorem d_M_settle_0 : decode prog_11_method_21_code 0 = .ok (.iconst 0, 1) := by decide +kernel
theorem d_M_settle_1 : decode prog_11_method_21_code 1 = .ok (.istore_n 1, 1) := by decide +kernel
theorem d_M_settle_2 : decode prog_11_method_21_code 2 = .ok (.iload_n 1, 1) := by decide +kernel
theorem d_M_settle_3 : decode prog_11_method_21_code 3 = .ok (.bipush 16, 2) := by decide +kernel
theorem d_M_settle_5 : decode prog_11_method_21_code 5 = .ok (.if_icmp .ge 16, 3) := by decide +kernel
theorem d_M_settle_8 : decode prog_11_method_21_code 8 = .ok (.aload_n 0, 1) := by decide +kernel
theorem d_M_settle_9 : decode prog_11_method_21_code 9 = .ok (.getfield 13, 3) := by decide +kernel
theorem d_M_settle_12 : decode prog_11_method_21_code 12 = .ok (.iload_n 1, 1) := by decide +kernel
theorem d_M_settle_13 : decode prog_11_method_21_code 13 = .ok (.iconst 0, 1) := by decide +kernel
theorem d_M_settle_14 : decode prog_11_method_21_code 14 = .ok (.bastore, 1) := by decide +kernel
theorem d_M_settle_15 : decode prog_11_method_21_code 15 = .ok (.iinc 1 1, 3) := by decide +kernel
theorem d_M_settle_18 : decode prog_11_method_21_code 18 = .ok (.goto (-16), 3) := by decide +kernel
theorem d_M_settle_21 : decode prog_11_method_21_code 21 = .ok (.iconst 0, 1) := by decide +kernel
theorem d_M_settle_22 : decode prog_11_method_21_code 22 = .ok (.istore_n 1, 1) := by decide +kernel
theorem d_M_settle_23 : decode prog_11_method_21_code 23 = .ok (.iload_n 1, 1) := by decide +kernel
theorem d_M_settle_24 : decode prog_11_method_21_code 24 = .ok (.iconst 4, 1) := by decide +kernel
theorem d_M_settle_25 : decode prog_11_method_21_code 25 = .ok (.if_icmp .ge 16, 3) := by decide +kernel
theorem d_M_settle_28 : decode prog_11_method_21_code 28 = .ok (.aload_n 0, 1) := by decide +kernel
theorem d_M_settle_29 : decode prog_11_method_21_code 29 = .ok (.getfield 16, 3) := by decide +kernel
theorem d_M_settle_32 : decode prog_11_method_21_code 32 = .ok (.iload_n 1, 1) := by decide +kernel
theorem d_M_settle_33 : decode prog_11_method_21_code 33 = .ok (.iconst 0, 1) := by decide +kernel
theorem d_M_settle_34 : decode prog_11_method_21_code 34 = .ok (.bastore, 1) := by decide +kernel
theorem d_M_settle_35 : decode prog_11_method_21_code 35 = .ok (.iinc 1 1, 3) := by decide +kernel
theorem d_M_settle_38 : decode prog_11_method_21_code 38 = .ok (.goto (-15), 3) := by decide +kernel
theorem d_M_settle_41 : decode prog_11_method_21_code 41 = .ok (.return_, 1) := by decide +kernel
def W_M_settle : Wl := ([], [76, 77])
def b_M_settle_2 (y0 : Nat) (y1 : Int32) (h : Hp) : Option ((Int32 × Hp) ⊕ (Hp)) :=
  if (nI 16) ≤ y1 then (some (.inr h)) else (gd (isK h y0 8) (dr (hpR h y0 1) fun a3 => gd (isK h a3 76) (gd (inb y1 (hpL h a3)) (nm (wI h a3 y1.toNatClampNeg (vp_nar .boolean (0 : Int32))) fun h7 => some (.inl ((y1 + (1 : Int32)), h7))))))
set_option maxRecDepth 100000 in
set_option maxHeartbeats 4000000 in
theorem zb_M_settle_2 {l : Launch} {C : Ct} {mi : Nat} {y0 : Nat} {y1 : Int32} {h h' : Hp} {q : ((Int32 × Hp) ⊕ (Hp))} (hf : b_M_settle_2 y0 y1 h = some q) (kc : ∀ s, q = .inl s → Z l C mi m_M_settle 0 2 [(0, vr (some y0)), (1, vi s.1)] [] s.2 none h') (ke : ∀ x, q = .inr x → Z l C mi m_M_settle 0 21 [(0, vr (some y0))] [] x none h') : Z l C mi m_M_settle 0 2 [(0, vr (some y0)), (1, vi y1)] [] h none h' := by
  unfold b_M_settle_2 at hf
  refine z_iload_n 1 d_M_settle_2 rfl rfl ?_
  refine z_bipush (v := (nI 16)) d_M_settle_3 (by decide) ?_
  refine z_icmp_ge (tgt := 21) d_M_settle_5 (by decide) (fun c1 => ?_) (fun c1 => ?_)
  · rw [if_pos c1] at hf
    refine z_ls [0] rfl ?_
    exact ke h (Option.some.inj hf).symm
  · rw [if_neg c1] at hf
    refine z_aload_n 0 d_M_settle_8 rfl rfl ?_
    obtain ⟨g2, hf⟩ := gd_some hf
    refine z_getR d_M_settle_9 (fl_K (isK_eq g2) fl_M_13_8) (fi_K (isK_eq g2) rfl) rfl ?_
    refine z_iload_n 1 d_M_settle_12 rfl rfl ?_
    refine z_iconst (v := (0 : Int32)) d_M_settle_13 (by decide) ?_
    obtain ⟨a3, e4, hf⟩ := dr_some hf
    obtain ⟨g5, hf⟩ := gd_some hf
    obtain ⟨g6, hf⟩ := gd_some hf
    obtain ⟨h7, eh8, hf⟩ := nm_some hf
    refine z_zast d_M_settle_14 e4 (by rw [isK_eq g5]; decide) (by rw [isK_eq g5]; rfl) (inb_vp g6) ?_
    refine z_hp eh8 ?_
    refine z_iinc (ls2 := [(1, vi (y1 + (1 : Int32))), (0, vr (some y0))]) 1 d_M_settle_15 rfl rfl (by decide) rfl ?_
    refine z_goto (tgt := 2) d_M_settle_18 (by decide) ?_
    refine z_ls [1, 0] rfl ?_
    exact kc ((y1 + (1 : Int32)), h7) (Option.some.inj hf).symm
set_option maxRecDepth 100000 in
set_option maxHeartbeats 4000000 in
theorem kb_M_settle_2 {C : Ct} {mi : Nat} {y0 : Nat} {y1 : Int32} {h : Hp} {q : ((Int32 × Hp) ⊕ (Hp))} (hf : b_M_settle_2 y0 y1 h = some q) : Keep W_M_settle h (Sum.elim (fun s : Int32 × Hp => s.2) (fun x : Hp => x) q) := by
  unfold b_M_settle_2 at hf
  rcases Classical.em ((nI 16) ≤ y1) with c1 | c1
  · rw [if_pos c1] at hf
    cases (Option.some.inj hf)
    exact (Keep.refl W_M_settle _)
  · rw [if_neg c1] at hf
    obtain ⟨g2, hf⟩ := gd_some hf
    obtain ⟨a3, e4, hf⟩ := dr_some hf
    obtain ⟨g5, hf⟩ := gd_some hf
    obtain ⟨g6, hf⟩ := gd_some hf
    obtain ⟨h7, eh8, hf⟩ := nm_some hf
    have K9 := (Keep.refl W_M_settle _).trans (kw_I eh8 (isK_eq g5) (Or.inr (by decide)))
    cases (Option.some.inj hf)
    exact K9
def l_M_settle_2 (y0 : Nat) (s : Int32 × Hp) : Option (Hp) := lp (fun s => b_M_settle_2 y0 s.1 s.2) FU s
theorem zzl_M_settle_2 {l : Launch} {C : Ct} {mi : Nat} {y0 : Nat} {h' : Hp} : ∀ (n : Nat) (s : Int32 × Hp) (x : (Hp)), lp (fun s : Int32 × Hp => b_M_settle_2 y0 s.1 s.2) n s = some x → Z l C mi m_M_settle 0 21 [(0, vr (some y0))] [] x none h' → Z l C mi m_M_settle 0 2 [(0, vr (some y0)), (1, vi s.1)] [] s.2 none h' := by
  intro n
  induction n with
  | zero => intro s x hl; cases hl
  | succ n ih =>
    intro s x hl ke
    rcases lp_some hl with ⟨s2, hb, hl2⟩ | hb
    · exact zb_M_settle_2 hb (fun s3 e3 => by cases e3; refine z_ls [0, 1] rfl ?_; exact ih s2 x hl2 ke) (fun x e3 => by cases e3)
    · exact zb_M_settle_2 hb (fun s3 e3 => by cases e3) (fun x e3 => by cases e3; exact ke)
theorem zl_M_settle_2 {l : Launch} {C : Ct} {mi : Nat} {y0 : Nat} {h' : Hp} {s : Int32 × Hp} {x : (Hp)} (hl : l_M_settle_2 y0 s = some x) (ke : Z l C mi m_M_settle 0 21 [(0, vr (some y0))] [] x none h') : Z l C mi m_M_settle 0 2 [(0, vr (some y0)), (1, vi s.1)] [] s.2 none h' := zzl_M_settle_2 FU s x hl ke
theorem kl_M_settle_2 {C : Ct} {mi : Nat} {y0 : Nat} {s : Int32 × Hp} {q : (Hp)} (hl : l_M_settle_2 y0 s = some q) : Keep W_M_settle s.2 ((fun x : Hp => x) q) := lpk (sh := (fun s : Int32 × Hp => s.2)) (rh := (fun x : Hp => x)) (fun s q hb => kb_M_settle_2 (C := C) (mi := mi) hb) FU s q hl
def b_M_settle_23 (y0 : Nat) (y1 : Int32) (h : Hp) : Option ((Int32 × Hp) ⊕ (Hp)) :=
  if (nI 4) ≤ y1 then (some (.inr h)) else (gd (isK h y0 8) (dr (hpR h y0 2) fun a15 => gd (isK h a15 77) (gd (inb y1 (hpL h a15)) (nm (wI h a15 y1.toNatClampNeg (vp_nar .boolean (0 : Int32))) fun h19 => some (.inl ((y1 + (1 : Int32)), h19))))))
set_option maxRecDepth 100000 in
set_option maxHeartbeats 4000000 in
theorem zb_M_settle_23 {l : Launch} {C : Ct} {mi : Nat} {y0 : Nat} {y1 : Int32} {h h' : Hp} {q : ((Int32 × Hp) ⊕ (Hp))} (hf : b_M_settle_23 y0 y1 h = some q) (kc : ∀ s, q = .inl s → Z l C mi m_M_settle 0 23 [(0, vr (some y0)), (1, vi s.1)] [] s.2 none h') (ke : ∀ x, q = .inr x → Z l C mi m_M_settle 0 41 [] [] x none h') : Z l C mi m_M_settle 0 23 [(0, vr (some y0)), (1, vi y1)] [] h none h' := by
  unfold b_M_settle_23 at hf
  refine z_iload_n 1 d_M_settle_23 rfl rfl ?_
  refine z_iconst (v := (nI 4)) d_M_settle_24 (by decide) ?_
  refine z_icmp_ge (tgt := 41) d_M_settle_25 (by decide) (fun c13 => ?_) (fun c13 => ?_)
  · rw [if_pos c13] at hf
    refine z_ls [] rfl ?_
    exact ke h (Option.some.inj hf).symm
  · rw [if_neg c13] at hf
    refine z_aload_n 0 d_M_settle_28 rfl rfl ?_
    obtain ⟨g14, hf⟩ := gd_some hf
    refine z_getR d_M_settle_29 (fl_K (isK_eq g14) fl_M_16_8) (fi_K (isK_eq g14) rfl) rfl ?_
    refine z_iload_n 1 d_M_settle_32 rfl rfl ?_
    refine z_iconst (v := (0 : Int32)) d_M_settle_33 (by decide) ?_
    obtain ⟨a15, e16, hf⟩ := dr_some hf
    obtain ⟨g17, hf⟩ := gd_some hf
    obtain ⟨g18, hf⟩ := gd_some hf
    obtain ⟨h19, eh20, hf⟩ := nm_some hf
    refine z_zast d_M_settle_34 e16 (by rw [isK_eq g17]; decide) (by rw [isK_eq g17]; rfl) (inb_vp g18) ?_
    refine z_hp eh20 ?_
    refine z_iinc (ls2 := [(1, vi (y1 + (1 : Int32))), (0, vr (some y0))]) 1 d_M_settle_35 rfl rfl (by decide) rfl ?_
    refine z_goto (tgt := 23) d_M_settle_38 (by decide) ?_
    refine z_ls [1, 0] rfl ?_
    exact kc ((y1 + (1 : Int32)), h19) (Option.some.inj hf).symm
set_option maxRecDepth 100000 in
set_option maxHeartbeats 4000000 in
theorem kb_M_settle_23 {C : Ct} {mi : Nat} {y0 : Nat} {y1 : Int32} {h : Hp} {q : ((Int32 × Hp) ⊕ (Hp))} (hf : b_M_settle_23 y0 y1 h = some q) : Keep W_M_settle h (Sum.elim (fun s : Int32 × Hp => s.2) (fun x : Hp => x) q) := by
  unfold b_M_settle_23 at hf
  rcases Classical.em ((nI 4) ≤ y1) with c13 | c13
  · rw [if_pos c13] at hf
    cases (Option.some.inj hf)
    exact (Keep.refl W_M_settle _)
  · rw [if_neg c13] at hf
    obtain ⟨g14, hf⟩ := gd_some hf
    obtain ⟨a15, e16, hf⟩ := dr_some hf
    obtain ⟨g17, hf⟩ := gd_some hf
    obtain ⟨g18, hf⟩ := gd_some hf
    obtain ⟨h19, eh20, hf⟩ := nm_some hf
    have K21 := (Keep.refl W_M_settle _).trans (kw_I eh20 (isK_eq g17) (Or.inr (by decide)))
    cases (Option.some.inj hf)
    exact K21
def l_M_settle_23 (y0 : Nat) (s : Int32 × Hp) : Option (Hp) := lp (fun s => b_M_settle_23 y0 s.1 s.2) FU s
theorem zzl_M_settle_23 {l : Launch} {C : Ct} {mi : Nat} {y0 : Nat} {h' : Hp} : ∀ (n : Nat) (s : Int32 × Hp) (x : (Hp)), lp (fun s : Int32 × Hp => b_M_settle_23 y0 s.1 s.2) n s = some x → Z l C mi m_M_settle 0 41 [] [] x none h' → Z l C mi m_M_settle 0 23 [(0, vr (some y0)), (1, vi s.1)] [] s.2 none h' := by
  intro n
  induction n with
  | zero => intro s x hl; cases hl
  | succ n ih =>
    intro s x hl ke
    rcases lp_some hl with ⟨s2, hb, hl2⟩ | hb
    · exact zb_M_settle_23 hb (fun s3 e3 => by cases e3; refine z_ls [0, 1] rfl ?_; exact ih s2 x hl2 ke) (fun x e3 => by cases e3)
    · exact zb_M_settle_23 hb (fun s3 e3 => by cases e3) (fun x e3 => by cases e3; exact ke)
theorem zl_M_settle_23 {l : Launch} {C : Ct} {mi : Nat} {y0 : Nat} {h' : Hp} {s : Int32 × Hp} {x : (Hp)} (hl : l_M_settle_23 y0 s = some x) (ke : Z l C mi m_M_settle 0 41 [] [] x none h') : Z l C mi m_M_settle 0 23 [(0, vr (some y0)), (1, vi s.1)] [] s.2 none h' := zzl_M_settle_23 FU s x hl ke
theorem kl_M_settle_23 {C : Ct} {mi : Nat} {y0 : Nat} {s : Int32 × Hp} {q : (Hp)} (hl : l_M_settle_23 y0 s = some q) : Keep W_M_settle s.2 ((fun x : Hp => x) q) := lpk (sh := (fun s : Int32 × Hp => s.2)) (rh := (fun x : Hp => x)) (fun s q hb => kb_M_settle_23 (C := C) (mi := mi) hb) FU s q hl
def f_M_settle (a0 : Nat) (h : Hp) : Option Hp :=
  bd (l_M_settle_2 a0 ((0 : Int32), h)) fun x10 => bd (l_M_settle_23 a0 ((0 : Int32), x10)) fun x22 => some x22
set_option maxRecDepth 100000 in
set_option maxHeartbeats 4000000 in
theorem zf_M_settle {l : Launch} {C : Ct} {mi : Nat} {a0 : Nat} {h h' : Hp} (hf : f_M_settle a0 h = some h') : Z l C mi m_M_settle 0 0 [(0, vr (some a0))] [] h none h' := by
  unfold f_M_settle at hf
  refine z_iconst (v := (0 : Int32)) d_M_settle_0 (by decide) ?_
  refine z_istore_n (ls2 := [(1, vi (0 : Int32)), (0, vr (some a0))]) d_M_settle_1 rfl (by decide) rfl ?_
  obtain ⟨x10, el11, hf⟩ := bd_some hf
  refine z_ls [1, 0] rfl ?_
  refine zl_M_settle_2 el11 ?_
  refine z_iconst (v := (0 : Int32)) d_M_settle_21 (by decide) ?_
  refine z_istore_n (ls2 := [(1, vi (0 : Int32)), (0, vr (some a0))]) d_M_settle_22 rfl (by decide) rfl ?_
  obtain ⟨x22, el23, hf⟩ := bd_some hf
  refine z_ls [1, 0] rfl ?_
  refine zl_M_settle_23 el23 ?_
  cases (Option.some.inj hf)
  exact z_ret d_M_settle_41 rfl
set_option maxRecDepth 100000 in
set_option maxHeartbeats 4000000 in
theorem fr_M_settle {C : Ct} {mi : Nat} {a0 : Nat} {h h' : Hp} (hf : f_M_settle a0 h = some h') : Keep W_M_settle h h' := by
  unfold f_M_settle at hf
  obtain ⟨x10, el11, hf⟩ := bd_some hf
  have K12 := (Keep.refl W_M_settle _).trans (kl_M_settle_2 (C := C) (mi := mi) el11)
  obtain ⟨x22, el23, hf⟩ := bd_some hf
  have K24 := K12.trans (kl_M_settle_23 (C := C) (mi := mi) el23)
  cases (Option.some.inj hf)
  exact K24
theorem c_M_settle {l : Launch} {C : Ct} {mi : Nat} {a0 : Nat} {h h' : Hp} (hf : f_M_settle a0 h = some h') : Mt l C mi m_M_settle 0 [vr (some a0)] h none h' := mt_V rfl rfl (by decide) (Nat.le_of_ble_eq_true rfl) (zf_M_settle hf)
-- VersionMapsModel.forget(I)V
def m_M_forget : Mi := (⟨"VersionMapsModel", "forget", "(I)V"⟩, prog_11_method_12_code, 3, (Option.none : Option Jvm.ClassFile.FieldType), .return_)
theorem cw_M_forget : cw_ok m_M_forget 1 := ⟨by decide +kernel, by decide +kernel, by decide +kernel, by decide +kernel⟩
theorem im_M_forget : Cond.instanceMethod m_M_forget.1 ∈ lw_w := by decide +kernel
theorem se_M_forget : Cond.selects "VersionMapsModel" m_M_forget.1 m_M_forget.1 ∈ lw_w := by decide +kernel
theorem d_M_forget_0 : decode prog_11_method_12_code 0 = .ok (.aload_n 0, 1) := by decide +kernel
theorem d_M_forget_1 : decode prog_11_method_12_code 1 = .ok (.dup, 1) := by decide +kernel
theorem d_M_forget_2 : decode prog_11_method_12_code 2 = .ok (.getfield 96, 3) := by decide +kernel
theorem d_M_forget_5 : decode prog_11_method_12_code 5 = .ok (.iconst 1, 1) := by decide +kernel
theorem d_M_forget_6 : decode prog_11_method_12_code 6 = .ok (.isub, 1) := by decide +kernel
theorem d_M_forget_7 : decode prog_11_method_12_code 7 = .ok (.putfield 96, 3) := by decide +kernel
theorem d_M_forget_10 : decode prog_11_method_12_code 10 = .ok (.iload_n 1, 1) := by decide +kernel
theorem d_M_forget_11 : decode prog_11_method_12_code 11 = .ok (.istore_n 2, 1) := by decide +kernel
theorem d_M_forget_12 : decode prog_11_method_12_code 12 = .ok (.iload_n 2, 1) := by decide +kernel
theorem d_M_forget_13 : decode prog_11_method_12_code 13 = .ok (.aload_n 0, 1) := by decide +kernel
theorem d_M_forget_14 : decode prog_11_method_12_code 14 = .ok (.getfield 96, 3) := by decide +kernel
theorem d_M_forget_17 : decode prog_11_method_12_code 17 = .ok (.if_icmp .ge 51, 3) := by decide +kernel
theorem d_M_forget_20 : decode prog_11_method_12_code 20 = .ok (.aload_n 0, 1) := by decide +kernel
theorem d_M_forget_21 : decode prog_11_method_12_code 21 = .ok (.getfield 87, 3) := by decide +kernel
theorem d_M_forget_24 : decode prog_11_method_12_code 24 = .ok (.iload_n 2, 1) := by decide +kernel
theorem d_M_forget_25 : decode prog_11_method_12_code 25 = .ok (.aload_n 0, 1) := by decide +kernel
theorem d_M_forget_26 : decode prog_11_method_12_code 26 = .ok (.getfield 87, 3) := by decide +kernel
theorem d_M_forget_29 : decode prog_11_method_12_code 29 = .ok (.iload_n 2, 1) := by decide +kernel
theorem d_M_forget_30 : decode prog_11_method_12_code 30 = .ok (.iconst 1, 1) := by decide +kernel
theorem d_M_forget_31 : decode prog_11_method_12_code 31 = .ok (.iadd, 1) := by decide +kernel
theorem d_M_forget_32 : decode prog_11_method_12_code 32 = .ok (.iaload, 1) := by decide +kernel
theorem d_M_forget_33 : decode prog_11_method_12_code 33 = .ok (.iastore, 1) := by decide +kernel
theorem d_M_forget_34 : decode prog_11_method_12_code 34 = .ok (.aload_n 0, 1) := by decide +kernel
theorem d_M_forget_35 : decode prog_11_method_12_code 35 = .ok (.getfield 90, 3) := by decide +kernel
theorem d_M_forget_38 : decode prog_11_method_12_code 38 = .ok (.iload_n 2, 1) := by decide +kernel
theorem d_M_forget_39 : decode prog_11_method_12_code 39 = .ok (.aload_n 0, 1) := by decide +kernel
theorem d_M_forget_40 : decode prog_11_method_12_code 40 = .ok (.getfield 90, 3) := by decide +kernel
theorem d_M_forget_43 : decode prog_11_method_12_code 43 = .ok (.iload_n 2, 1) := by decide +kernel
theorem d_M_forget_44 : decode prog_11_method_12_code 44 = .ok (.iconst 1, 1) := by decide +kernel
theorem d_M_forget_45 : decode prog_11_method_12_code 45 = .ok (.iadd, 1) := by decide +kernel
theorem d_M_forget_46 : decode prog_11_method_12_code 46 = .ok (.iaload, 1) := by decide +kernel
theorem d_M_forget_47 : decode prog_11_method_12_code 47 = .ok (.iastore, 1) := by decide +kernel
theorem d_M_forget_48 : decode prog_11_method_12_code 48 = .ok (.aload_n 0, 1) := by decide +kernel
theorem d_M_forget_49 : decode prog_11_method_12_code 49 = .ok (.getfield 93, 3) := by decide +kernel
theorem d_M_forget_52 : decode prog_11_method_12_code 52 = .ok (.iload_n 2, 1) := by decide +kernel
theorem d_M_forget_53 : decode prog_11_method_12_code 53 = .ok (.aload_n 0, 1) := by decide +kernel
theorem d_M_forget_54 : decode prog_11_method_12_code 54 = .ok (.getfield 93, 3) := by decide +kernel
theorem d_M_forget_57 : decode prog_11_method_12_code 57 = .ok (.iload_n 2, 1) := by decide +kernel
theorem d_M_forget_58 : decode prog_11_method_12_code 58 = .ok (.iconst 1, 1) := by decide +kernel
theorem d_M_forget_59 : decode prog_11_method_12_code 59 = .ok (.iadd, 1) := by decide +kernel
theorem d_M_forget_60 : decode prog_11_method_12_code 60 = .ok (.iaload, 1) := by decide +kernel
theorem d_M_forget_61 : decode prog_11_method_12_code 61 = .ok (.iastore, 1) := by decide +kernel
theorem d_M_forget_62 : decode prog_11_method_12_code 62 = .ok (.iinc 2 1, 3) := by decide +kernel
theorem d_M_forget_65 : decode prog_11_method_12_code 65 = .ok (.goto (-53), 3) := by decide +kernel
theorem d_M_forget_68 : decode prog_11_method_12_code 68 = .ok (.return_, 1) := by decide +kernel
def W_M_forget : Wl := ([(8, 30)], [99, 100, 101])
def b_M_forget_12 (y0 : Nat) (y2 : Int32) (h : Hp) : Option ((Int32 × Hp) ⊕ (Hp)) :=
  gd (isK h y0 8) (if (hpI h y0 30) ≤ y2 then (some (.inr h)) else (dr (hpR h y0 27) fun a7 => gd (isK h a7 99) (gd (inb (y2 + (1 : Int32)) (hpL h a7)) (gd (inb y2 (hpL h a7)) (nm (wI h a7 y2.toNatClampNeg (hpI h a7 (y2 + (1 : Int32)).toNatClampNeg)) fun h12 => dr (hpR h12 y0 28) fun a15 => gd (isK h12 a15 100) (gd (inb (y2 + (1 : Int32)) (hpL h12 a15)) (gd (inb y2 (hpL h12 a15)) (nm (wI h12 a15 y2.toNatClampNeg (hpI h12 a15 (y2 + (1 : Int32)).toNatClampNeg)) fun h20 => dr (hpR h20 y0 29) fun a23 => gd (isK h20 a23 101) (gd (inb (y2 + (1 : Int32)) (hpL h20 a23)) (gd (inb y2 (hpL h20 a23)) (nm (wI h20 a23 y2.toNatClampNeg (hpI h20 a23 (y2 + (1 : Int32)).toNatClampNeg)) fun h28 => some (.inl ((y2 + (1 : Int32)), h28)))))))))))))
set_option maxRecDepth 100000 in
set_option maxHeartbeats 4000000 in
theorem zb_M_forget_12 {l : Launch} {C : Ct} {mi : Nat} {y0 : Nat} {y2 : Int32} {h h' : Hp} {q : ((Int32 × Hp) ⊕ (Hp))} (hf : b_M_forget_12 y0 y2 h = some q) (kc : ∀ s, q = .inl s → Z l C mi m_M_forget 0 12 [(0, vr (some y0)), (2, vi s.1)] [] s.2 none h') (ke : ∀ x, q = .inr x → Z l C mi m_M_forget 0 68 [] [] x none h') : Z l C mi m_M_forget 0 12 [(0, vr (some y0)), (2, vi y2)] [] h none h' := by
  unfold b_M_forget_12 at hf
  refine z_iload_n 1 d_M_forget_12 rfl rfl ?_
  refine z_aload_n 0 d_M_forget_13 rfl rfl ?_
  obtain ⟨g5, hf⟩ := gd_some hf
  refine z_getI d_M_forget_14 (fl_K (isK_eq g5) fl_M_96_8) (fi_K (isK_eq g5) rfl) rfl ?_
  refine z_icmp_ge (tgt := 68) d_M_forget_17 (by decide) (fun c6 => ?_) (fun c6 => ?_)
  · rw [if_pos c6] at hf
    refine z_ls [] rfl ?_
    exact ke h (Option.some.inj hf).symm
  · rw [if_neg c6] at hf
    refine z_aload_n 0 d_M_forget_20 rfl rfl ?_
    refine z_getR d_M_forget_21 (fl_K (isK_eq g5) fl_M_87_8) (fi_K (isK_eq g5) rfl) rfl ?_
    refine z_iload_n 1 d_M_forget_24 rfl rfl ?_
    refine z_aload_n 0 d_M_forget_25 rfl rfl ?_
    refine z_getR d_M_forget_26 (fl_K (isK_eq g5) fl_M_87_8) (fi_K (isK_eq g5) rfl) rfl ?_
    refine z_iload_n 1 d_M_forget_29 rfl rfl ?_
    refine z_iconst (v := (1 : Int32)) d_M_forget_30 (by decide) ?_
    refine z_iadd d_M_forget_31 ?_
    obtain ⟨a7, e8, hf⟩ := dr_some hf
    obtain ⟨g9, hf⟩ := gd_some hf
    obtain ⟨g10, hf⟩ := gd_some hf
    refine z_iald d_M_forget_32 e8 (by rw [isK_eq g9]; decide) (by rw [isK_eq g9]; rfl) (inb_vp g10) ?_
    obtain ⟨g11, hf⟩ := gd_some hf
    obtain ⟨h12, eh13, hf⟩ := nm_some hf
    refine z_iast d_M_forget_33 e8 (by rw [isK_eq g9]; decide) (by rw [isK_eq g9]; rfl) (inb_vp g11) ?_
    refine z_hp eh13 ?_
    refine z_aload_n 0 d_M_forget_34 rfl rfl ?_
    refine z_getR d_M_forget_35 (fl_K (isK_eq (isK_wI eh13 g5)) fl_M_90_8) (fi_K (isK_eq (isK_wI eh13 g5)) rfl) rfl ?_
    refine z_iload_n 1 d_M_forget_38 rfl rfl ?_
    refine z_aload_n 0 d_M_forget_39 rfl rfl ?_
    refine z_getR d_M_forget_40 (fl_K (isK_eq (isK_wI eh13 g5)) fl_M_90_8) (fi_K (isK_eq (isK_wI eh13 g5)) rfl) rfl ?_
    refine z_iload_n 1 d_M_forget_43 rfl rfl ?_
    refine z_iconst (v := (1 : Int32)) d_M_forget_44 (by decide) ?_
    refine z_iadd d_M_forget_45 ?_
    obtain ⟨a15, e16, hf⟩ := dr_some hf
    obtain ⟨g17, hf⟩ := gd_some hf
    obtain ⟨g18, hf⟩ := gd_some hf
    refine z_iald d_M_forget_46 e16 (by rw [isK_eq g17]; decide) (by rw [isK_eq g17]; rfl) (inb_vp g18) ?_
    obtain ⟨g19, hf⟩ := gd_some hf
    obtain ⟨h20, eh21, hf⟩ := nm_some hf
    refine z_iast d_M_forget_47 e16 (by rw [isK_eq g17]; decide) (by rw [isK_eq g17]; rfl) (inb_vp g19) ?_
    refine z_hp eh21 ?_
    refine z_aload_n 0 d_M_forget_48 rfl rfl ?_
    refine z_getR d_M_forget_49 (fl_K (isK_eq (isK_wI eh21 (isK_wI eh13 g5))) fl_M_93_8) (fi_K (isK_eq (isK_wI eh21 (isK_wI eh13 g5))) rfl) rfl ?_
    refine z_iload_n 1 d_M_forget_52 rfl rfl ?_
    refine z_aload_n 0 d_M_forget_53 rfl rfl ?_
    refine z_getR d_M_forget_54 (fl_K (isK_eq (isK_wI eh21 (isK_wI eh13 g5))) fl_M_93_8) (fi_K (isK_eq (isK_wI eh21 (isK_wI eh13 g5))) rfl) rfl ?_
    refine z_iload_n 1 d_M_forget_57 rfl rfl ?_
    refine z_iconst (v := (1 : Int32)) d_M_forget_58 (by decide) ?_
    refine z_iadd d_M_forget_59 ?_
    obtain ⟨a23, e24, hf⟩ := dr_some hf
    obtain ⟨g25, hf⟩ := gd_some hf
    obtain ⟨g26, hf⟩ := gd_some hf
    refine z_iald d_M_forget_60 e24 (by rw [isK_eq g25]; decide) (by rw [isK_eq g25]; rfl) (inb_vp g26) ?_
    obtain ⟨g27, hf⟩ := gd_some hf
    obtain ⟨h28, eh29, hf⟩ := nm_some hf
    refine z_iast d_M_forget_61 e24 (by rw [isK_eq g25]; decide) (by rw [isK_eq g25]; rfl) (inb_vp g27) ?_
    refine z_hp eh29 ?_
    refine z_iinc (ls2 := [(2, vi (y2 + (1 : Int32))), (0, vr (some y0))]) 1 d_M_forget_62 rfl rfl (by decide) rfl ?_
    refine z_goto (tgt := 12) d_M_forget_65 (by decide) ?_
    refine z_ls [1, 0] rfl ?_
    exact kc ((y2 + (1 : Int32)), h28) (Option.some.inj hf).symm
set_option maxRecDepth 100000 in
set_option maxHeartbeats 4000000 in
theorem kb_M_forget_12 {C : Ct} {mi : Nat} {y0 : Nat} {y2 : Int32} {h : Hp} {q : ((Int32 × Hp) ⊕ (Hp))} (hf : b_M_forget_12 y0 y2 h = some q) : Keep W_M_forget h (Sum.elim (fun s : Int32 × Hp => s.2) (fun x : Hp => x) q) := by
  unfold b_M_forget_12 at hf
  obtain ⟨g5, hf⟩ := gd_some hf
  rcases Classical.em ((hpI h y0 30) ≤ y2) with c6 | c6
  · rw [if_pos c6] at hf
    cases (Option.some.inj hf)
    exact (Keep.refl W_M_forget _)
  · rw [if_neg c6] at hf
    obtain ⟨a7, e8, hf⟩ := dr_some hf
    obtain ⟨g9, hf⟩ := gd_some hf
    obtain ⟨g10, hf⟩ := gd_some hf
    obtain ⟨g11, hf⟩ := gd_some hf
    obtain ⟨h12, eh13, hf⟩ := nm_some hf
    have K14 := (Keep.refl W_M_forget _).trans (kw_I eh13 (isK_eq g9) (Or.inr (by decide)))
    obtain ⟨a15, e16, hf⟩ := dr_some hf
    obtain ⟨g17, hf⟩ := gd_some hf
    obtain ⟨g18, hf⟩ := gd_some hf
    obtain ⟨g19, hf⟩ := gd_some hf
    obtain ⟨h20, eh21, hf⟩ := nm_some hf
    have K22 := K14.trans (kw_I eh21 (isK_eq g17) (Or.inr (by decide)))
    obtain ⟨a23, e24, hf⟩ := dr_some hf
    obtain ⟨g25, hf⟩ := gd_some hf
    obtain ⟨g26, hf⟩ := gd_some hf
    obtain ⟨g27, hf⟩ := gd_some hf
    obtain ⟨h28, eh29, hf⟩ := nm_some hf
    have K30 := K22.trans (kw_I eh29 (isK_eq g25) (Or.inr (by decide)))
    cases (Option.some.inj hf)
    exact K30
def l_M_forget_12 (y0 : Nat) (s : Int32 × Hp) : Option (Hp) := lp (fun s => b_M_forget_12 y0 s.1 s.2) FU s
theorem zzl_M_forget_12 {l : Launch} {C : Ct} {mi : Nat} {y0 : Nat} {h' : Hp} : ∀ (n : Nat) (s : Int32 × Hp) (x : (Hp)), lp (fun s : Int32 × Hp => b_M_forget_12 y0 s.1 s.2) n s = some x → Z l C mi m_M_forget 0 68 [] [] x none h' → Z l C mi m_M_forget 0 12 [(0, vr (some y0)), (2, vi s.1)] [] s.2 none h' := by
  intro n
  induction n with
  | zero => intro s x hl; cases hl
  | succ n ih =>
    intro s x hl ke
    rcases lp_some hl with ⟨s2, hb, hl2⟩ | hb
    · exact zb_M_forget_12 hb (fun s3 e3 => by cases e3; refine z_ls [0, 1] rfl ?_; exact ih s2 x hl2 ke) (fun x e3 => by cases e3)
    · exact zb_M_forget_12 hb (fun s3 e3 => by cases e3) (fun x e3 => by cases e3; exact ke)
theorem zl_M_forget_12 {l : Launch} {C : Ct} {mi : Nat} {y0 : Nat} {h' : Hp} {s : Int32 × Hp} {x : (Hp)} (hl : l_M_forget_12 y0 s = some x) (ke : Z l C mi m_M_forget 0 68 [] [] x none h') : Z l C mi m_M_forget 0 12 [(0, vr (some y0)), (2, vi s.1)] [] s.2 none h' := zzl_M_forget_12 FU s x hl ke
theorem kl_M_forget_12 {C : Ct} {mi : Nat} {y0 : Nat} {s : Int32 × Hp} {q : (Hp)} (hl : l_M_forget_12 y0 s = some q) : Keep W_M_forget s.2 ((fun x : Hp => x) q) := lpk (sh := (fun s : Int32 × Hp => s.2)) (rh := (fun x : Hp => x)) (fun s q hb => kb_M_forget_12 (C := C) (mi := mi) hb) FU s q hl
def f_M_forget (a0 : Nat) (p1 : Int32) (h : Hp) : Option Hp :=
  gd (isK h a0 8) (nm (wI h a0 30 ((hpI h a0 30) - (1 : Int32))) fun h2 => bd (l_M_forget_12 a0 (p1, h2)) fun x31 => some x31)
set_option maxRecDepth 100000 in
set_option maxHeartbeats 4000000 in
theorem zf_M_forget {l : Launch} {C : Ct} {mi : Nat} {a0 : Nat} {p1 : Int32} {h h' : Hp} (hf : f_M_forget a0 p1 h = some h') : Z l C mi m_M_forget 0 0 [(0, vr (some a0)), (1, vi p1)] [] h none h' := by
  unfold f_M_forget at hf
  refine z_aload_n 0 d_M_forget_0 rfl rfl ?_
  refine z_dup d_M_forget_1 rfl ?_
  obtain ⟨g1, hf⟩ := gd_some hf
  refine z_getI d_M_forget_2 (fl_K (isK_eq g1) fl_M_96_8) (fi_K (isK_eq g1) rfl) rfl ?_
  refine z_iconst (v := (1 : Int32)) d_M_forget_5 (by decide) ?_
  refine z_isub d_M_forget_6 ?_
  obtain ⟨h2, eh3, hf⟩ := nm_some hf
  refine z_putI d_M_forget_7 (fl_K (isK_eq g1) fl_M_96_8) (pu_K (isK_eq g1) (fun q hq => by cases (Option.some.inj hq); exact Or.inl rfl)) (fi_K (isK_eq g1) rfl) rfl ?_
  refine z_hp eh3 ?_
  refine z_iload_n 1 d_M_forget_10 rfl rfl ?_
  refine z_istore_n (ls2 := [(2, vi p1), (0, vr (some a0)), (1, vi p1)]) d_M_forget_11 rfl (by decide) rfl ?_
  obtain ⟨x31, el32, hf⟩ := bd_some hf
  refine z_ls [1, 0] rfl ?_
  refine zl_M_forget_12 el32 ?_
  cases (Option.some.inj hf)
  exact z_ret d_M_forget_68 rfl
set_option maxRecDepth 100000 in
set_option maxHeartbeats 4000000 in
theorem fr_M_forget {C : Ct} {mi : Nat} {a0 : Nat} {p1 : Int32} {h h' : Hp} (hf : f_M_forget a0 p1 h = some h') : Keep W_M_forget h h' := by
  unfold f_M_forget at hf
  obtain ⟨g1, hf⟩ := gd_some hf
  obtain ⟨h2, eh3, hf⟩ := nm_some hf
  have K4 := (Keep.refl W_M_forget _).trans (kw_I eh3 (isK_eq g1) (Or.inl (by decide)))
  obtain ⟨x31, el32, hf⟩ := bd_some hf
  have K33 := K4.trans (kl_M_forget_12 (C := C) (mi := mi) el32)
  cases (Option.some.inj hf)
  exact K33
theorem c_M_forget {l : Launch} {C : Ct} {mi : Nat} {a0 : Nat} {p1 : Int32} {h h' : Hp} (hf : f_M_forget a0 p1 h = some h') : Mt l C mi m_M_forget 0 [vr (some a0), vi p1] h none h' := mt_V rfl rfl (by decide) (Nat.le_of_ble_eq_true rfl) (zf_M_forget hf)
-- VersionMapsModel.drop()V
def m_M_drop : Mi := (⟨"VersionMapsModel", "drop", "()V"⟩, prog_11_method_13_code, 3, (Option.none : Option Jvm.ClassFile.FieldType), .return_)
theorem cw_M_drop : cw_ok m_M_drop 0 := ⟨by decide +kernel, by decide +kernel, by decide +kernel, by decide +kernel⟩
theorem im_M_drop : Cond.instanceMethod m_M_drop.1 ∈ lw_w := by decide +kernel
theorem se_M_drop : Cond.selects "VersionMapsModel" m_M_drop.1 m_M_drop.1 ∈ lw_w := by decide +kernel
theorem d_M_drop_0 : decode prog_11_method_13_code 0 = .ok (.aload_n 0, 1) := by decide +kernel
theorem d_M_drop_1 : decode prog_11_method_13_code 1 = .ok (.getfield 99, 3) := by decide +kernel
theorem d_M_drop_4 : decode prog_11_method_13_code 4 = .ok (.istore_n 1, 1) := by decide +kernel
theorem d_M_drop_5 : decode prog_11_method_13_code 5 = .ok (.aload_n 0, 1) := by decide +kernel
theorem d_M_drop_6 : decode prog_11_method_13_code 6 = .ok (.getfield 96, 3) := by decide +kernel
theorem d_M_drop_9 : decode prog_11_method_13_code 9 = .ok (.iconst 1, 1) := by decide +kernel
theorem d_M_drop_10 : decode prog_11_method_13_code 10 = .ok (.isub, 1) := by decide +kernel
theorem d_M_drop_11 : decode prog_11_method_13_code 11 = .ok (.istore_n 2, 1) := by decide +kernel
theorem d_M_drop_12 : decode prog_11_method_13_code 12 = .ok (.iload_n 2, 1) := by decide +kernel
theorem d_M_drop_13 : decode prog_11_method_13_code 13 = .ok (.ifCond .lt 49, 3) := by decide +kernel
theorem d_M_drop_16 : decode prog_11_method_13_code 16 = .ok (.aload_n 0, 1) := by decide +kernel
theorem d_M_drop_17 : decode prog_11_method_13_code 17 = .ok (.getfield 87, 3) := by decide +kernel
theorem d_M_drop_20 : decode prog_11_method_13_code 20 = .ok (.iload_n 2, 1) := by decide +kernel
theorem d_M_drop_21 : decode prog_11_method_13_code 21 = .ok (.iaload, 1) := by decide +kernel
theorem d_M_drop_22 : decode prog_11_method_13_code 22 = .ok (.aload_n 0, 1) := by decide +kernel
theorem d_M_drop_23 : decode prog_11_method_13_code 23 = .ok (.getfield 119, 3) := by decide +kernel
theorem d_M_drop_26 : decode prog_11_method_13_code 26 = .ok (.if_icmp .eq 30, 3) := by decide +kernel
theorem d_M_drop_29 : decode prog_11_method_13_code 29 = .ok (.aload_n 0, 1) := by decide +kernel
theorem d_M_drop_30 : decode prog_11_method_13_code 30 = .ok (.getfield 90, 3) := by decide +kernel
theorem d_M_drop_33 : decode prog_11_method_13_code 33 = .ok (.iload_n 2, 1) := by decide +kernel
theorem d_M_drop_34 : decode prog_11_method_13_code 34 = .ok (.iaload, 1) := by decide +kernel
theorem d_M_drop_35 : decode prog_11_method_13_code 35 = .ok (.ifCond .le 6, 3) := by decide +kernel
theorem d_M_drop_38 : decode prog_11_method_13_code 38 = .ok (.goto 18, 3) := by decide +kernel
theorem d_M_drop_41 : decode prog_11_method_13_code 41 = .ok (.iload_n 1, 1) := by decide +kernel
theorem d_M_drop_42 : decode prog_11_method_13_code 42 = .ok (.ifCond .ne 11, 3) := by decide +kernel
theorem d_M_drop_45 : decode prog_11_method_13_code 45 = .ok (.aload_n 0, 1) := by decide +kernel
theorem d_M_drop_46 : decode prog_11_method_13_code 46 = .ok (.iload_n 2, 1) := by decide +kernel
theorem d_M_drop_47 : decode prog_11_method_13_code 47 = .ok (.invokevirtual 122, 3) := by decide +kernel
theorem d_M_drop_50 : decode prog_11_method_13_code 50 = .ok (.goto 6, 3) := by decide +kernel
theorem d_M_drop_53 : decode prog_11_method_13_code 53 = .ok (.iinc 1 (-1), 3) := by decide +kernel
theorem d_M_drop_56 : decode prog_11_method_13_code 56 = .ok (.iinc 2 (-1), 3) := by decide +kernel
theorem d_M_drop_59 : decode prog_11_method_13_code 59 = .ok (.goto (-47), 3) := by decide +kernel
theorem d_M_drop_62 : decode prog_11_method_13_code 62 = .ok (.return_, 1) := by decide +kernel
def W_M_drop : Wl := ([(8, 30)], [99, 100, 101])
def b_M_drop_12 (y0 : Nat) (y1 : Int32) (y2 : Int32) (h : Hp) : Option ((Int32 × Int32 × Hp) ⊕ (Hp)) :=
  if y2 < 0 then (some (.inr h)) else (gd (isK h y0 8) (dr (hpR h y0 27) fun a4 => gd (isK h a4 99) (gd (inb y2 (hpL h a4)) (if (hpI h a4 y2.toNatClampNeg) = (hpI h y0 31) then (some (.inl (y1, (y2 + (-1 : Int32)), h))) else (dr (hpR h y0 28) fun a9 => gd (isK h a9 100) (gd (inb y2 (hpL h a9)) (if (hpI h a9 y2.toNatClampNeg) ≤ 0 then (if y1 = 0 then (cv (f_M_forget y0 y2 h) fun h15 => some (.inl (y1, (y2 + (-1 : Int32)), h15))) else (some (.inl ((y1 + (-1 : Int32)), (y2 + (-1 : Int32)), h)))) else (some (.inl (y1, (y2 + (-1 : Int32)), h))))))))))
set_option maxRecDepth 100000 in
set_option maxHeartbeats 4000000 in
theorem zb_M_drop_12 {l : Launch} {C : Ct} {mi : Nat} {y0 : Nat} {y1 : Int32} {y2 : Int32} {h h' : Hp} {q : ((Int32 × Int32 × Hp) ⊕ (Hp))} (hf : b_M_drop_12 y0 y1 y2 h = some q) (kc : ∀ s, q = .inl s → Z l C mi m_M_drop 1 12 [(0, vr (some y0)), (1, vi s.1), (2, vi s.2.1)] [] s.2.2 none h') (ke : ∀ x, q = .inr x → Z l C mi m_M_drop 1 62 [] [] x none h') : Z l C mi m_M_drop 1 12 [(0, vr (some y0)), (1, vi y1), (2, vi y2)] [] h none h' := by
  unfold b_M_drop_12 at hf
  refine z_iload_n 2 d_M_drop_12 rfl rfl ?_
  refine z_if_lt (tgt := 62) d_M_drop_13 (by decide) (fun c2 => ?_) (fun c2 => ?_)
  · rw [if_pos c2] at hf
    refine z_ls [] rfl ?_
    exact ke h (Option.some.inj hf).symm
  · rw [if_neg c2] at hf
    refine z_aload_n 0 d_M_drop_16 rfl rfl ?_
    obtain ⟨g3, hf⟩ := gd_some hf
    refine z_getR d_M_drop_17 (fl_K (isK_eq g3) fl_M_87_8) (fi_K (isK_eq g3) rfl) rfl ?_
    refine z_iload_n 2 d_M_drop_20 rfl rfl ?_
    obtain ⟨a4, e5, hf⟩ := dr_some hf
    obtain ⟨g6, hf⟩ := gd_some hf
    obtain ⟨g7, hf⟩ := gd_some hf
    refine z_iald d_M_drop_21 e5 (by rw [isK_eq g6]; decide) (by rw [isK_eq g6]; rfl) (inb_vp g7) ?_
    refine z_aload_n 0 d_M_drop_22 rfl rfl ?_
    refine z_getI d_M_drop_23 (fl_K (isK_eq g3) fl_M_119_8) (fi_K (isK_eq g3) rfl) rfl ?_
    refine z_icmp_eq (tgt := 56) d_M_drop_26 (by decide) (fun c8 => ?_) (fun c8 => ?_)
    · rw [if_pos c8] at hf
      refine z_iinc (ls2 := [(2, vi (y2 + (-1 : Int32))), (0, vr (some y0)), (1, vi y1)]) 2 d_M_drop_56 rfl rfl (by decide) rfl ?_
      refine z_goto (tgt := 12) d_M_drop_59 (by decide) ?_
      refine z_ls [1, 2, 0] rfl ?_
      exact kc (y1, (y2 + (-1 : Int32)), h) (Option.some.inj hf).symm
    · rw [if_neg c8] at hf
      refine z_aload_n 0 d_M_drop_29 rfl rfl ?_
      refine z_getR d_M_drop_30 (fl_K (isK_eq g3) fl_M_90_8) (fi_K (isK_eq g3) rfl) rfl ?_
      refine z_iload_n 2 d_M_drop_33 rfl rfl ?_
      obtain ⟨a9, e10, hf⟩ := dr_some hf
      obtain ⟨g11, hf⟩ := gd_some hf
      obtain ⟨g12, hf⟩ := gd_some hf
      refine z_iald d_M_drop_34 e10 (by rw [isK_eq g11]; decide) (by rw [isK_eq g11]; rfl) (inb_vp g12) ?_
      refine z_if_le (tgt := 41) d_M_drop_35 (by decide) (fun c13 => ?_) (fun c13 => ?_)
      · rw [if_pos c13] at hf
        refine z_iload_n 1 d_M_drop_41 rfl rfl ?_
        refine z_if_ne (tgt := 53) d_M_drop_42 (by decide) (fun c14 => ?_) (fun c14 => ?_)
        · rw [if_neg c14] at hf
          refine z_iinc (ls2 := [(1, vi (y1 + (-1 : Int32))), (0, vr (some y0)), (2, vi y2)]) 1 d_M_drop_53 rfl rfl (by decide) rfl ?_
          refine z_iinc (ls2 := [(2, vi (y2 + (-1 : Int32))), (1, vi (y1 + (-1 : Int32))), (0, vr (some y0))]) 2 d_M_drop_56 rfl rfl (by decide) rfl ?_
          refine z_goto (tgt := 12) d_M_drop_59 (by decide) ?_
          refine z_ls [2, 1, 0] rfl ?_
          exact kc ((y1 + (-1 : Int32)), (y2 + (-1 : Int32)), h) (Option.some.inj hf).symm
        · rw [if_pos c14] at hf
          refine z_aload_n 0 d_M_drop_45 rfl rfl ?_
          refine z_iload_n 2 d_M_drop_46 rfl rfl ?_
          obtain ⟨h15, ec16, hf⟩ := cv_some hf
          refine z_callVx rfl (c_M_forget ec16) d_M_drop_47 cw_M_forget lk_M_122 im_M_forget se_M_forget (kc_K (isK_eq g3) kc_8) ⟨by decide, by decide⟩ (Nat.le_of_ble_eq_true rfl) rfl ?_
          refine z_goto (tgt := 56) d_M_drop_50 (by decide) ?_
          refine z_iinc (ls2 := [(2, vi (y2 + (-1 : Int32))), (0, vr (some y0)), (1, vi y1)]) 2 d_M_drop_56 rfl rfl (by decide) rfl ?_
          refine z_goto (tgt := 12) d_M_drop_59 (by decide) ?_
          refine z_ls [1, 2, 0] rfl ?_
          exact kc (y1, (y2 + (-1 : Int32)), h15) (Option.some.inj hf).symm
      · rw [if_neg c13] at hf
        refine z_goto (tgt := 56) d_M_drop_38 (by decide) ?_
        refine z_iinc (ls2 := [(2, vi (y2 + (-1 : Int32))), (0, vr (some y0)), (1, vi y1)]) 2 d_M_drop_56 rfl rfl (by decide) rfl ?_
        refine z_goto (tgt := 12) d_M_drop_59 (by decide) ?_
        refine z_ls [1, 2, 0] rfl ?_
        exact kc (y1, (y2 + (-1 : Int32)), h) (Option.some.inj hf).symm
set_option maxRecDepth 100000 in
set_option maxHeartbeats 4000000 in
theorem kb_M_drop_12 {C : Ct} {mi : Nat} {y0 : Nat} {y1 : Int32} {y2 : Int32} {h : Hp} {q : ((Int32 × Int32 × Hp) ⊕ (Hp))} (hf : b_M_drop_12 y0 y1 y2 h = some q) : Keep W_M_drop h (Sum.elim (fun s : Int32 × Int32 × Hp => s.2.2) (fun x : Hp => x) q) := by
  unfold b_M_drop_12 at hf
  rcases Classical.em (y2 < 0) with c2 | c2
  · rw [if_pos c2] at hf
    cases (Option.some.inj hf)
    exact (Keep.refl W_M_drop _)
  · rw [if_neg c2] at hf
    obtain ⟨g3, hf⟩ := gd_some hf
    obtain ⟨a4, e5, hf⟩ := dr_some hf
    obtain ⟨g6, hf⟩ := gd_some hf
    obtain ⟨g7, hf⟩ := gd_some hf
    rcases Classical.em ((hpI h a4 y2.toNatClampNeg) = (hpI h y0 31)) with c8 | c8
    · rw [if_pos c8] at hf
      cases (Option.some.inj hf)
      exact (Keep.refl W_M_drop _)
    · rw [if_neg c8] at hf
      obtain ⟨a9, e10, hf⟩ := dr_some hf
      obtain ⟨g11, hf⟩ := gd_some hf
      obtain ⟨g12, hf⟩ := gd_some hf
      rcases Classical.em ((hpI h a9 y2.toNatClampNeg) ≤ 0) with c13 | c13
      · rw [if_pos c13] at hf
        rcases (Classical.em (y1 = 0)).symm with c14 | c14
        · rw [if_neg c14] at hf
          cases (Option.some.inj hf)
          exact (Keep.refl W_M_drop _)
        · rw [if_pos c14] at hf
          obtain ⟨h15, ec16, hf⟩ := cv_some hf
          have K17 := (Keep.refl W_M_drop _).trans ((fr_M_forget (C := C) (mi := mi) ec16).mono (by decide) (by decide))
          cases (Option.some.inj hf)
          exact K17
      · rw [if_neg c13] at hf
        cases (Option.some.inj hf)
        exact (Keep.refl W_M_drop _)
def l_M_drop_12 (y0 : Nat) (s : Int32 × Int32 × Hp) : Option (Hp) := lp (fun s => b_M_drop_12 y0 s.1 s.2.1 s.2.2) FU s
theorem zzl_M_drop_12 {l : Launch} {C : Ct} {mi : Nat} {y0 : Nat} {h' : Hp} : ∀ (n : Nat) (s : Int32 × Int32 × Hp) (x : (Hp)), lp (fun s : Int32 × Int32 × Hp => b_M_drop_12 y0 s.1 s.2.1 s.2.2) n s = some x → Z l C mi m_M_drop 1 62 [] [] x none h' → Z l C mi m_M_drop 1 12 [(0, vr (some y0)), (1, vi s.1), (2, vi s.2.1)] [] s.2.2 none h' := by
  intro n
  induction n with
  | zero => intro s x hl; cases hl
  | succ n ih =>
    intro s x hl ke
    rcases lp_some hl with ⟨s2, hb, hl2⟩ | hb
    · exact zb_M_drop_12 hb (fun s3 e3 => by cases e3; refine z_ls [0, 1, 2] rfl ?_; exact ih s2 x hl2 ke) (fun x e3 => by cases e3)
    · exact zb_M_drop_12 hb (fun s3 e3 => by cases e3) (fun x e3 => by cases e3; exact ke)
theorem zl_M_drop_12 {l : Launch} {C : Ct} {mi : Nat} {y0 : Nat} {h' : Hp} {s : Int32 × Int32 × Hp} {x : (Hp)} (hl : l_M_drop_12 y0 s = some x) (ke : Z l C mi m_M_drop 1 62 [] [] x none h') : Z l C mi m_M_drop 1 12 [(0, vr (some y0)), (1, vi s.1), (2, vi s.2.1)] [] s.2.2 none h' := zzl_M_drop_12 FU s x hl ke
theorem kl_M_drop_12 {C : Ct} {mi : Nat} {y0 : Nat} {s : Int32 × Int32 × Hp} {q : (Hp)} (hl : l_M_drop_12 y0 s = some q) : Keep W_M_drop s.2.2 ((fun x : Hp => x) q) := lpk (sh := (fun s : Int32 × Int32 × Hp => s.2.2)) (rh := (fun x : Hp => x)) (fun s q hb => kb_M_drop_12 (C := C) (mi := mi) hb) FU s q hl
def f_M_drop (a0 : Nat) (h : Hp) : Option Hp :=
  gd (isK h a0 8) (bd (l_M_drop_12 a0 ((hpI h a0 32), ((hpI h a0 30) - (1 : Int32)), h)) fun x18 => some x18)
set_option maxRecDepth 100000 in
set_option maxHeartbeats 4000000 in
theorem zf_M_drop {l : Launch} {C : Ct} {mi : Nat} {a0 : Nat} {h h' : Hp} (hf : f_M_drop a0 h = some h') : Z l C mi m_M_drop 1 0 [(0, vr (some a0))] [] h none h' := by
  unfold f_M_drop at hf
  refine z_aload_n 0 d_M_drop_0 rfl rfl ?_
  obtain ⟨g1, hf⟩ := gd_some hf
  refine z_getI d_M_drop_1 (fl_K (isK_eq g1) fl_M_99_8) (fi_K (isK_eq g1) rfl) rfl ?_
  refine z_istore_n (ls2 := [(1, vi (hpI h a0 32)), (0, vr (some a0))]) d_M_drop_4 rfl (by decide) rfl ?_
  refine z_aload_n 1 d_M_drop_5 rfl rfl ?_
  refine z_getI d_M_drop_6 (fl_K (isK_eq g1) fl_M_96_8) (fi_K (isK_eq g1) rfl) rfl ?_
  refine z_iconst (v := (1 : Int32)) d_M_drop_9 (by decide) ?_
  refine z_isub d_M_drop_10 ?_
  refine z_istore_n (ls2 := [(2, vi ((hpI h a0 30) - (1 : Int32))), (1, vi (hpI h a0 32)), (0, vr (some a0))]) d_M_drop_11 rfl (by decide) rfl ?_
  obtain ⟨x18, el19, hf⟩ := bd_some hf
  refine z_ls [2, 1, 0] rfl ?_
  refine zl_M_drop_12 el19 ?_
  cases (Option.some.inj hf)
  exact z_ret d_M_drop_62 rfl
set_option maxRecDepth 100000 in
set_option maxHeartbeats 4000000 in
theorem fr_M_drop {C : Ct} {mi : Nat} {a0 : Nat} {h h' : Hp} (hf : f_M_drop a0 h = some h') : Keep W_M_drop h h' := by
  unfold f_M_drop at hf
  obtain ⟨g1, hf⟩ := gd_some hf
  obtain ⟨x18, el19, hf⟩ := bd_some hf
  have K20 := (Keep.refl W_M_drop _).trans (kl_M_drop_12 (C := C) (mi := mi) el19)
  cases (Option.some.inj hf)
  exact K20
theorem c_M_drop {l : Launch} {C : Ct} {mi : Nat} {a0 : Nat} {h h' : Hp} (hf : f_M_drop a0 h = some h') : Mt l C mi m_M_drop 1 [vr (some a0)] h none h' := mt_V rfl rfl (by decide) (Nat.le_of_ble_eq_true rfl) (zf_M_drop hf)
-- VersionMapsModel.load(I)V
def m_M_load : Mi := (⟨"VersionMapsModel", "load", "(I)V"⟩, prog_11_method_20_code, 5, (Option.none : Option Jvm.ClassFile.FieldType), .return_)
theorem cw_M_load : cw_ok m_M_load 1 := ⟨by decide +kernel, by decide +kernel, by decide +kernel, by decide +kernel⟩
theorem im_M_load : Cond.instanceMethod m_M_load.1 ∈ lw_w := by decide +kernel
theorem se_M_load : Cond.selects "VersionMapsModel" m_M_load.1 m_M_load.1 ∈ lw_w := by decide +kernel
theorem d_M_load_0 : decode prog_11_method_20_code 0 = .ok (.iconst 0, 1) := by decide +kernel
theorem d_M_load_1 : decode prog_11_method_20_code 1 = .ok (.istore_n 2, 1) := by decide +kernel
theorem d_M_load_2 : decode prog_11_method_20_code 2 = .ok (.iload_n 2, 1) := by decide +kernel
theorem d_M_load_3 : decode prog_11_method_20_code 3 = .ok (.sipush 128, 3) := by decide +kernel
theorem d_M_load_6 : decode prog_11_method_20_code 6 = .ok (.if_icmp .ge 63, 3) := by decide +kernel
theorem d_M_load_9 : decode prog_11_method_20_code 9 = .ok (.aload_n 0, 1) := by decide +kernel
theorem d_M_load_10 : decode prog_11_method_20_code 10 = .ok (.iload_n 1, 1) := by decide +kernel
theorem d_M_load_11 : decode prog_11_method_20_code 11 = .ok (.iload_n 2, 1) := by decide +kernel
theorem d_M_load_12 : decode prog_11_method_20_code 12 = .ok (.bipush 32, 2) := by decide +kernel
theorem d_M_load_14 : decode prog_11_method_20_code 14 = .ok (.idiv, 1) := by decide +kernel
theorem d_M_load_15 : decode prog_11_method_20_code 15 = .ok (.iload_n 2, 1) := by decide +kernel
theorem d_M_load_16 : decode prog_11_method_20_code 16 = .ok (.bipush 32, 2) := by decide +kernel
theorem d_M_load_18 : decode prog_11_method_20_code 18 = .ok (.irem, 1) := by decide +kernel
theorem d_M_load_19 : decode prog_11_method_20_code 19 = .ok (.invokevirtual 136, 3) := by decide +kernel
theorem d_M_load_22 : decode prog_11_method_20_code 22 = .ok (.lstore_n 3, 1) := by decide +kernel
theorem d_M_load_23 : decode prog_11_method_20_code 23 = .ok (.aload_n 0, 1) := by decide +kernel
theorem d_M_load_24 : decode prog_11_method_20_code 24 = .ok (.getfield 7, 3) := by decide +kernel
theorem d_M_load_27 : decode prog_11_method_20_code 27 = .ok (.iload_n 2, 1) := by decide +kernel
theorem d_M_load_28 : decode prog_11_method_20_code 28 = .ok (.lload_n 3, 1) := by decide +kernel
theorem d_M_load_29 : decode prog_11_method_20_code 29 = .ok (.ldc2_w 131, 3) := by decide +kernel
theorem d_M_load_32 : decode prog_11_method_20_code 32 = .ok (.lcmp, 1) := by decide +kernel
theorem d_M_load_33 : decode prog_11_method_20_code 33 = .ok (.ifCond .eq 7, 3) := by decide +kernel
theorem d_M_load_36 : decode prog_11_method_20_code 36 = .ok (.iconst 1, 1) := by decide +kernel
theorem d_M_load_37 : decode prog_11_method_20_code 37 = .ok (.goto 4, 3) := by decide +kernel
theorem d_M_load_40 : decode prog_11_method_20_code 40 = .ok (.iconst 0, 1) := by decide +kernel
theorem d_M_load_41 : decode prog_11_method_20_code 41 = .ok (.bastore, 1) := by decide +kernel
theorem d_M_load_42 : decode prog_11_method_20_code 42 = .ok (.aload_n 0, 1) := by decide +kernel
theorem d_M_load_43 : decode prog_11_method_20_code 43 = .ok (.getfield 19, 3) := by decide +kernel
theorem d_M_load_46 : decode prog_11_method_20_code 46 = .ok (.iload_n 2, 1) := by decide +kernel
theorem d_M_load_47 : decode prog_11_method_20_code 47 = .ok (.aload_n 0, 1) := by decide +kernel
theorem d_M_load_48 : decode prog_11_method_20_code 48 = .ok (.getfield 7, 3) := by decide +kernel
theorem d_M_load_51 : decode prog_11_method_20_code 51 = .ok (.iload_n 2, 1) := by decide +kernel
theorem d_M_load_52 : decode prog_11_method_20_code 52 = .ok (.baload, 1) := by decide +kernel
theorem d_M_load_53 : decode prog_11_method_20_code 53 = .ok (.ifCond .eq 8, 3) := by decide +kernel
theorem d_M_load_56 : decode prog_11_method_20_code 56 = .ok (.lload_n 3, 1) := by decide +kernel
theorem d_M_load_57 : decode prog_11_method_20_code 57 = .ok (.l2i, 1) := by decide +kernel
theorem d_M_load_58 : decode prog_11_method_20_code 58 = .ok (.goto 4, 3) := by decide +kernel
theorem d_M_load_61 : decode prog_11_method_20_code 61 = .ok (.iconst 0, 1) := by decide +kernel
theorem d_M_load_62 : decode prog_11_method_20_code 62 = .ok (.iastore, 1) := by decide +kernel
theorem d_M_load_63 : decode prog_11_method_20_code 63 = .ok (.iinc 2 1, 3) := by decide +kernel
theorem d_M_load_66 : decode prog_11_method_20_code 66 = .ok (.goto (-64), 3) := by decide +kernel
theorem d_M_load_69 : decode prog_11_method_20_code 69 = .ok (.aload_n 0, 1) := by decide +kernel
theorem d_M_load_70 : decode prog_11_method_20_code 70 = .ok (.invokevirtual 140, 3) := by decide +kernel
theorem d_M_load_73 : decode prog_11_method_20_code 73 = .ok (.return_, 1) := by decide +kernel
def W_M_load : Wl := ([], [75, 76, 77, 78])
def j_M_load_41_L2 (y0 : Nat) (y1 : Int32) (y2 : Int32) (y3 : Int64) (w0 : Int32) (w1 : Int32) (w2 : Option Nat) (h : Hp) : Option ((Int32 × Hp) ⊕ (Hp)) :=
  dr w2 fun a9 => gd (isK h a9 75) (gd (inb w1 (hpL h a9)) (nm (wI h a9 w1.toNatClampNeg (vp_nar .boolean w0)) fun h13 => gd (isK h13 y0 8) (dr (hpR h13 y0 0) fun a17 => gd (isK h13 a17 75) (gd (inb y2 (hpL h13 a17)) (if (hpI h13 a17 y2.toNatClampNeg) = 0 then (dr (hpR h13 y0 3) fun a22 => gd (isK h13 a22 78) (gd (inb y2 (hpL h13 a22)) (nm (wI h13 a22 y2.toNatClampNeg (0 : Int32)) fun h26 => some (.inl ((y2 + (1 : Int32)), h26))))) else (dr (hpR h13 y0 3) fun a29 => gd (isK h13 a29 78) (gd (inb y2 (hpL h13 a29)) (nm (wI h13 a29 y2.toNatClampNeg y3.toInt32) fun h33 => some (.inl ((y2 + (1 : Int32)), h33))))))))))
set_option maxRecDepth 100000 in
set_option maxHeartbeats 4000000 in
theorem zj_M_load_41_L2 {l : Launch} {C : Ct} {mi : Nat} {y0 : Nat} {y1 : Int32} {y2 : Int32} {y3 : Int64} {w0 : Int32} {w1 : Int32} {w2 : Option Nat} {h h' : Hp} {q : ((Int32 × Hp) ⊕ (Hp))} (hf : j_M_load_41_L2 y0 y1 y2 y3 w0 w1 w2 h = some q) (kc : ∀ s, q = .inl s → Z l C mi m_M_load 2 2 [(0, vr (some y0)), (1, vi y1), (2, vi s.1)] [] s.2 none h') (ke : ∀ x, q = .inr x → Z l C mi m_M_load 2 69 [(0, vr (some y0))] [] x none h') : Z l C mi m_M_load 2 41 [(0, vr (some y0)), (1, vi y1), (2, vi y2), (3, vl y3)] [vi w0, vi w1, vr w2] h none h' := by
  unfold j_M_load_41_L2 at hf
  obtain ⟨a9, e10, hf⟩ := dr_some hf
  obtain ⟨g11, hf⟩ := gd_some hf
  obtain ⟨g12, hf⟩ := gd_some hf
  obtain ⟨h13, eh14, hf⟩ := nm_some hf
  refine z_zast d_M_load_41 e10 (by rw [isK_eq g11]; decide) (by rw [isK_eq g11]; rfl) (inb_vp g12) ?_
  refine z_hp eh14 ?_
  refine z_aload_n 0 d_M_load_42 rfl rfl ?_
  obtain ⟨g16, hf⟩ := gd_some hf
  refine z_getR d_M_load_43 (fl_K (isK_eq g16) fl_M_19_8) (fi_K (isK_eq g16) rfl) rfl ?_
  refine z_iload_n 2 d_M_load_46 rfl rfl ?_
  refine z_aload_n 0 d_M_load_47 rfl rfl ?_
  refine z_getR d_M_load_48 (fl_K (isK_eq g16) fl_M_7_8) (fi_K (isK_eq g16) rfl) rfl ?_
  refine z_iload_n 2 d_M_load_51 rfl rfl ?_
  obtain ⟨a17, e18, hf⟩ := dr_some hf
  obtain ⟨g19, hf⟩ := gd_some hf
  obtain ⟨g20, hf⟩ := gd_some hf
  refine z_zald d_M_load_52 e18 (by rw [isK_eq g19]; decide) (by rw [isK_eq g19]; rfl) (inb_vp g20) ?_
  refine z_if_eq (tgt := 61) d_M_load_53 (by decide) (fun c21 => ?_) (fun c21 => ?_)
  · rw [if_pos c21] at hf
    refine z_iconst (v := (0 : Int32)) d_M_load_61 (by decide) ?_
    obtain ⟨a22, e23, hf⟩ := dr_some hf
    obtain ⟨g24, hf⟩ := gd_some hf
    obtain ⟨g25, hf⟩ := gd_some hf
    obtain ⟨h26, eh27, hf⟩ := nm_some hf
    refine z_iast d_M_load_62 e23 (by rw [isK_eq g24]; decide) (by rw [isK_eq g24]; rfl) (inb_vp g25) ?_
    refine z_hp eh27 ?_
    refine z_iinc (ls2 := [(2, vi (y2 + (1 : Int32))), (0, vr (some y0)), (1, vi y1), (3, vl y3)]) 2 d_M_load_63 rfl rfl (by decide) rfl ?_
    refine z_goto (tgt := 2) d_M_load_66 (by decide) ?_
    refine z_ls [1, 2, 0] rfl ?_
    exact kc ((y2 + (1 : Int32)), h26) (Option.some.inj hf).symm
  · rw [if_neg c21] at hf
    refine z_lload_n 3 d_M_load_56 rfl rfl ?_
    refine z_l2i d_M_load_57 ?_
    refine z_goto (tgt := 62) d_M_load_58 (by decide) ?_
    obtain ⟨a29, e30, hf⟩ := dr_some hf
    obtain ⟨g31, hf⟩ := gd_some hf
    obtain ⟨g32, hf⟩ := gd_some hf
    obtain ⟨h33, eh34, hf⟩ := nm_some hf
    refine z_iast d_M_load_62 e30 (by rw [isK_eq g31]; decide) (by rw [isK_eq g31]; rfl) (inb_vp g32) ?_
    refine z_hp eh34 ?_
    refine z_iinc (ls2 := [(2, vi (y2 + (1 : Int32))), (0, vr (some y0)), (1, vi y1), (3, vl y3)]) 2 d_M_load_63 rfl rfl (by decide) rfl ?_
    refine z_goto (tgt := 2) d_M_load_66 (by decide) ?_
    refine z_ls [1, 2, 0] rfl ?_
    exact kc ((y2 + (1 : Int32)), h33) (Option.some.inj hf).symm
set_option maxRecDepth 100000 in
set_option maxHeartbeats 4000000 in
theorem kj_M_load_41_L2 {C : Ct} {mi : Nat} {y0 : Nat} {y1 : Int32} {y2 : Int32} {y3 : Int64} {w0 : Int32} {w1 : Int32} {w2 : Option Nat} {h : Hp} {q : ((Int32 × Hp) ⊕ (Hp))} (hf : j_M_load_41_L2 y0 y1 y2 y3 w0 w1 w2 h = some q) : Keep W_M_load h (Sum.elim (fun s : Int32 × Hp => s.2) (fun x : Hp => x) q) := by
  unfold j_M_load_41_L2 at hf
  obtain ⟨a9, e10, hf⟩ := dr_some hf
  obtain ⟨g11, hf⟩ := gd_some hf
  obtain ⟨g12, hf⟩ := gd_some hf
  obtain ⟨h13, eh14, hf⟩ := nm_some hf
  have K15 := (Keep.refl W_M_load _).trans (kw_I eh14 (isK_eq g11) (Or.inr (by decide)))
  obtain ⟨g16, hf⟩ := gd_some hf
  obtain ⟨a17, e18, hf⟩ := dr_some hf
  obtain ⟨g19, hf⟩ := gd_some hf
  obtain ⟨g20, hf⟩ := gd_some hf
  rcases Classical.em ((hpI h13 a17 y2.toNatClampNeg) = 0) with c21 | c21
  · rw [if_pos c21] at hf
    obtain ⟨a22, e23, hf⟩ := dr_some hf
    obtain ⟨g24, hf⟩ := gd_some hf
    obtain ⟨g25, hf⟩ := gd_some hf
    obtain ⟨h26, eh27, hf⟩ := nm_some hf
    have K28 := K15.trans (kw_I eh27 (isK_eq g24) (Or.inr (by decide)))
    cases (Option.some.inj hf)
    exact K28
  · rw [if_neg c21] at hf
    obtain ⟨a29, e30, hf⟩ := dr_some hf
    obtain ⟨g31, hf⟩ := gd_some hf
    obtain ⟨g32, hf⟩ := gd_some hf
    obtain ⟨h33, eh34, hf⟩ := nm_some hf
    have K35 := K15.trans (kw_I eh34 (isK_eq g31) (Or.inr (by decide)))
    cases (Option.some.inj hf)
    exact K35
def b_M_load_2 (y0 : Nat) (y1 : Int32) (y2 : Int32) (h : Hp) : Option ((Int32 × Hp) ⊕ (Hp)) :=
  if (nI 128) ≤ y2 then (some (.inr h)) else (gd (isK h y0 8) (cl (f_M_read y0 y1 (y2 / (nI 32)) (y2 - y2 / (nI 32) * (nI 32)) h) fun v5 h3 => gd (isK h3 y0 8) (if (lg_cmp v5 (1099511627776 : Int64)) = 0 then (j_M_load_41_L2 y0 y1 y2 v5 (0 : Int32) y2 (hpR h3 y0 0) h3) else (j_M_load_41_L2 y0 y1 y2 v5 (1 : Int32) y2 (hpR h3 y0 0) h3))))
set_option maxRecDepth 100000 in
set_option maxHeartbeats 4000000 in
theorem zb_M_load_2 {l : Launch} {C : Ct} {mi : Nat} {y0 : Nat} {y1 : Int32} {y2 : Int32} {h h' : Hp} {q : ((Int32 × Hp) ⊕ (Hp))} (hf : b_M_load_2 y0 y1 y2 h = some q) (kc : ∀ s, q = .inl s → Z l C mi m_M_load 2 2 [(0, vr (some y0)), (1, vi y1), (2, vi s.1)] [] s.2 none h') (ke : ∀ x, q = .inr x → Z l C mi m_M_load 2 69 [(0, vr (some y0))] [] x none h') : Z l C mi m_M_load 2 2 [(0, vr (some y0)), (1, vi y1), (2, vi y2)] [] h none h' := by
  unfold b_M_load_2 at hf
  refine z_iload_n 2 d_M_load_2 rfl rfl ?_
  refine z_sipush (v := (nI 128)) d_M_load_3 (by decide) ?_
  refine z_icmp_ge (tgt := 69) d_M_load_6 (by decide) (fun c1 => ?_) (fun c1 => ?_)
  · rw [if_pos c1] at hf
    refine z_ls [0] rfl ?_
    exact ke h (Option.some.inj hf).symm
  · rw [if_neg c1] at hf
    refine z_aload_n 0 d_M_load_9 rfl rfl ?_
    refine z_iload_n 1 d_M_load_10 rfl rfl ?_
    refine z_iload_n 2 d_M_load_11 rfl rfl ?_
    refine z_bipush (v := (nI 32)) d_M_load_12 (by decide) ?_
    refine z_idiv d_M_load_14 (by decide) ?_
    refine z_iload_n 2 d_M_load_15 rfl rfl ?_
    refine z_bipush (v := (nI 32)) d_M_load_16 (by decide) ?_
    refine z_irem d_M_load_18 (by decide) ?_
    obtain ⟨g2, hf⟩ := gd_some hf
    obtain ⟨v5, h3, ec4, hf⟩ := cl_some hf
    refine z_callVx rfl (c_M_read ec4) d_M_load_19 cw_M_read lk_M_136 im_M_read se_M_read (kc_K (isK_eq g2) kc_8) ⟨by decide, by decide⟩ (Nat.le_of_ble_eq_true rfl) rfl ?_
    refine z_lstore_n (ls2 := [(3, vl v5), (0, vr (some y0)), (1, vi y1), (2, vi y2)]) d_M_load_22 rfl (by decide) rfl ?_
    refine z_aload_n 1 d_M_load_23 rfl rfl ?_
    obtain ⟨g7, hf⟩ := gd_some hf
    refine z_getR d_M_load_24 (fl_K (isK_eq g7) fl_M_7_8) (fi_K (isK_eq g7) rfl) rfl ?_
    refine z_iload_n 3 d_M_load_27 rfl rfl ?_
    refine z_lload_n 0 d_M_load_28 rfl rfl ?_
    refine z_ldc2 (v := (1099511627776 : Int64)) d_M_load_29 (by decide +kernel) ?_
    refine z_lcmp d_M_load_32 ?_
    refine z_if_eq (tgt := 40) d_M_load_33 (by decide) (fun c8 => ?_) (fun c8 => ?_)
    · rw [if_pos c8] at hf
      refine z_iconst (v := (0 : Int32)) d_M_load_40 (by decide) ?_
      refine z_ls [1, 2, 3, 0] rfl ?_
      exact zj_M_load_41_L2 hf kc ke
    · rw [if_neg c8] at hf
      refine z_iconst (v := (1 : Int32)) d_M_load_36 (by decide) ?_
      refine z_goto (tgt := 41) d_M_load_37 (by decide) ?_
      refine z_ls [1, 2, 3, 0] rfl ?_
      exact zj_M_load_41_L2 hf kc ke
set_option maxRecDepth 100000 in
set_option maxHeartbeats 4000000 in
theorem kb_M_load_2 {C : Ct} {mi : Nat} {y0 : Nat} {y1 : Int32} {y2 : Int32} {h : Hp} {q : ((Int32 × Hp) ⊕ (Hp))} (hf : b_M_load_2 y0 y1 y2 h = some q) : Keep W_M_load h (Sum.elim (fun s : Int32 × Hp => s.2) (fun x : Hp => x) q) := by
  unfold b_M_load_2 at hf
  rcases Classical.em ((nI 128) ≤ y2) with c1 | c1
  · rw [if_pos c1] at hf
    cases (Option.some.inj hf)
    exact (Keep.refl W_M_load _)
  · rw [if_neg c1] at hf
    obtain ⟨g2, hf⟩ := gd_some hf
    obtain ⟨v5, h3, ec4, hf⟩ := cl_some hf
    have K6 := (Keep.refl W_M_load _).trans ((fr_M_read (C := C) (mi := mi) ec4).mono (by decide) (by decide))
    obtain ⟨g7, hf⟩ := gd_some hf
    rcases Classical.em ((lg_cmp v5 (1099511627776 : Int64)) = 0) with c8 | c8
    · rw [if_pos c8] at hf
      exact K6.trans (kj_M_load_41_L2 (C := C) (mi := mi) hf)
    · rw [if_neg c8] at hf
      exact K6.trans (kj_M_load_41_L2 (C := C) (mi := mi) hf)
def l_M_load_2 (y0 : Nat) (y1 : Int32) (s : Int32 × Hp) : Option (Hp) := lp (fun s => b_M_load_2 y0 y1 s.1 s.2) FU s
theorem zzl_M_load_2 {l : Launch} {C : Ct} {mi : Nat} {y0 : Nat} {y1 : Int32} {h' : Hp} : ∀ (n : Nat) (s : Int32 × Hp) (x : (Hp)), lp (fun s : Int32 × Hp => b_M_load_2 y0 y1 s.1 s.2) n s = some x → Z l C mi m_M_load 2 69 [(0, vr (some y0))] [] x none h' → Z l C mi m_M_load 2 2 [(0, vr (some y0)), (1, vi y1), (2, vi s.1)] [] s.2 none h' := by
  intro n
  induction n with
  | zero => intro s x hl; cases hl
  | succ n ih =>
    intro s x hl ke
    rcases lp_some hl with ⟨s2, hb, hl2⟩ | hb
    · exact zb_M_load_2 hb (fun s3 e3 => by cases e3; refine z_ls [0, 1, 2] rfl ?_; exact ih s2 x hl2 ke) (fun x e3 => by cases e3)
    · exact zb_M_load_2 hb (fun s3 e3 => by cases e3) (fun x e3 => by cases e3; exact ke)
theorem zl_M_load_2 {l : Launch} {C : Ct} {mi : Nat} {y0 : Nat} {y1 : Int32} {h' : Hp} {s : Int32 × Hp} {x : (Hp)} (hl : l_M_load_2 y0 y1 s = some x) (ke : Z l C mi m_M_load 2 69 [(0, vr (some y0))] [] x none h') : Z l C mi m_M_load 2 2 [(0, vr (some y0)), (1, vi y1), (2, vi s.1)] [] s.2 none h' := zzl_M_load_2 FU s x hl ke
theorem kl_M_load_2 {C : Ct} {mi : Nat} {y0 : Nat} {y1 : Int32} {s : Int32 × Hp} {q : (Hp)} (hl : l_M_load_2 y0 y1 s = some q) : Keep W_M_load s.2 ((fun x : Hp => x) q) := lpk (sh := (fun s : Int32 × Hp => s.2)) (rh := (fun x : Hp => x)) (fun s q hb => kb_M_load_2 (C := C) (mi := mi) hb) FU s q hl
def f_M_load (a0 : Nat) (p1 : Int32) (h : Hp) : Option Hp :=
  bd (l_M_load_2 a0 p1 ((0 : Int32), h)) fun x36 => gd (isK x36 a0 8) (cv (f_M_settle a0 x36) fun h40 => some h40)
set_option maxRecDepth 100000 in
set_option maxHeartbeats 4000000 in
theorem zf_M_load {l : Launch} {C : Ct} {mi : Nat} {a0 : Nat} {p1 : Int32} {h h' : Hp} (hf : f_M_load a0 p1 h = some h') : Z l C mi m_M_load 2 0 [(0, vr (some a0)), (1, vi p1)] [] h none h' := by
  unfold f_M_load at hf
  refine z_iconst (v := (0 : Int32)) d_M_load_0 (by decide) ?_
  refine z_istore_n (ls2 := [(2, vi (0 : Int32)), (0, vr (some a0)), (1, vi p1)]) d_M_load_1 rfl (by decide) rfl ?_
  obtain ⟨x36, el37, hf⟩ := bd_some hf
  refine z_ls [1, 2, 0] rfl ?_
  refine zl_M_load_2 el37 ?_
  refine z_aload_n 0 d_M_load_69 rfl rfl ?_
  obtain ⟨g39, hf⟩ := gd_some hf
  obtain ⟨h40, ec41, hf⟩ := cv_some hf
  refine z_callVx rfl (c_M_settle ec41) d_M_load_70 cw_M_settle lk_M_140 im_M_settle se_M_settle (kc_K (isK_eq g39) kc_8) ⟨by decide, by decide⟩ (Nat.le_of_ble_eq_true rfl) rfl ?_
  cases (Option.some.inj hf)
  exact z_ret d_M_load_73 rfl
set_option maxRecDepth 100000 in
set_option maxHeartbeats 4000000 in
theorem fr_M_load {C : Ct} {mi : Nat} {a0 : Nat} {p1 : Int32} {h h' : Hp} (hf : f_M_load a0 p1 h = some h') : Keep W_M_load h h' := by
  unfold f_M_load at hf
  obtain ⟨x36, el37, hf⟩ := bd_some hf
  have K38 := (Keep.refl W_M_load _).trans (kl_M_load_2 (C := C) (mi := mi) el37)
  obtain ⟨g39, hf⟩ := gd_some hf
  obtain ⟨h40, ec41, hf⟩ := cv_some hf
  have K42 := K38.trans ((fr_M_settle (C := C) (mi := mi) ec41).mono (by decide) (by decide))
  cases (Option.some.inj hf)
  exact K42
theorem c_M_load {l : Launch} {C : Ct} {mi : Nat} {a0 : Nat} {p1 : Int32} {h h' : Hp} (hf : f_M_load a0 p1 h = some h') : Mt l C mi m_M_load 2 [vr (some a0), vi p1] h none h' := mt_V rfl rfl (by decide) (Nat.le_of_ble_eq_true rfl) (zf_M_load hf)
-- VersionMapsModel.pin(I)I
def m_M_pin : Mi := (⟨"VersionMapsModel", "pin", "(I)I"⟩, prog_11_method_31_code, 3, (Option.some Jvm.ClassFile.FieldType.int), .ireturn)
theorem cw_M_pin : cw_ok m_M_pin 1 := ⟨by decide +kernel, by decide +kernel, by decide +kernel, by decide +kernel⟩
theorem im_M_pin : Cond.instanceMethod m_M_pin.1 ∈ lw_w := by decide +kernel
theorem se_M_pin : Cond.selects "VersionMapsModel" m_M_pin.1 m_M_pin.1 ∈ lw_w := by decide +kernel
theorem d_M_pin_0 : decode prog_11_method_31_code 0 = .ok (.aload_n 0, 1) := by decide +kernel
theorem d_M_pin_1 : decode prog_11_method_31_code 1 = .ok (.iload_n 1, 1) := by decide +kernel
theorem d_M_pin_2 : decode prog_11_method_31_code 2 = .ok (.invokevirtual 133, 3) := by decide +kernel
theorem d_M_pin_5 : decode prog_11_method_31_code 5 = .ok (.istore_n 2, 1) := by decide +kernel
theorem d_M_pin_6 : decode prog_11_method_31_code 6 = .ok (.iload_n 2, 1) := by decide +kernel
theorem d_M_pin_7 : decode prog_11_method_31_code 7 = .ok (.ifCond .ge 6, 3) := by decide +kernel
theorem d_M_pin_10 : decode prog_11_method_31_code 10 = .ok (.bipush (-3), 2) := by decide +kernel
theorem d_M_pin_12 : decode prog_11_method_31_code 12 = .ok (.ireturn, 1) := by decide +kernel
theorem d_M_pin_13 : decode prog_11_method_31_code 13 = .ok (.aload_n 0, 1) := by decide +kernel
theorem d_M_pin_14 : decode prog_11_method_31_code 14 = .ok (.getfield 90, 3) := by decide +kernel
theorem d_M_pin_17 : decode prog_11_method_31_code 17 = .ok (.iload_n 2, 1) := by decide +kernel
theorem d_M_pin_18 : decode prog_11_method_31_code 18 = .ok (.iaload, 1) := by decide +kernel
theorem d_M_pin_19 : decode prog_11_method_31_code 19 = .ok (.bipush 9, 2) := by decide +kernel
theorem d_M_pin_21 : decode prog_11_method_31_code 21 = .ok (.if_icmp .ne 6, 3) := by decide +kernel
theorem d_M_pin_24 : decode prog_11_method_31_code 24 = .ok (.bipush (-2), 2) := by decide +kernel
theorem d_M_pin_26 : decode prog_11_method_31_code 26 = .ok (.ireturn, 1) := by decide +kernel
theorem d_M_pin_27 : decode prog_11_method_31_code 27 = .ok (.aload_n 0, 1) := by decide +kernel
theorem d_M_pin_28 : decode prog_11_method_31_code 28 = .ok (.getfield 90, 3) := by decide +kernel
theorem d_M_pin_31 : decode prog_11_method_31_code 31 = .ok (.iload_n 2, 1) := by decide +kernel
theorem d_M_pin_32 : decode prog_11_method_31_code 32 = .ok (.dup2, 1) := by decide +kernel
theorem d_M_pin_33 : decode prog_11_method_31_code 33 = .ok (.iaload, 1) := by decide +kernel
theorem d_M_pin_34 : decode prog_11_method_31_code 34 = .ok (.iconst 1, 1) := by decide +kernel
theorem d_M_pin_35 : decode prog_11_method_31_code 35 = .ok (.iadd, 1) := by decide +kernel
theorem d_M_pin_36 : decode prog_11_method_31_code 36 = .ok (.iastore, 1) := by decide +kernel
theorem d_M_pin_37 : decode prog_11_method_31_code 37 = .ok (.aload_n 0, 1) := by decide +kernel
theorem d_M_pin_38 : decode prog_11_method_31_code 38 = .ok (.getfield 90, 3) := by decide +kernel
theorem d_M_pin_41 : decode prog_11_method_31_code 41 = .ok (.iload_n 2, 1) := by decide +kernel
theorem d_M_pin_42 : decode prog_11_method_31_code 42 = .ok (.iaload, 1) := by decide +kernel
theorem d_M_pin_43 : decode prog_11_method_31_code 43 = .ok (.ireturn, 1) := by decide +kernel
def W_M_pin : Wl := ([], [100])
def f_M_pin (a0 : Nat) (p1 : Int32) (h : Hp) : Option (Int32 × Hp) :=
  gd (isK h a0 8) (cl (f_M_find a0 p1 h) fun v4 h2 => if 0 ≤ v4 then (gd (isK h2 a0 8) (dr (hpR h2 a0 28) fun a8 => gd (isK h2 a8 100) (gd (inb v4 (hpL h2 a8)) (if (hpI h2 a8 v4.toNatClampNeg) = (nI 9) then (some ((-2 : Int32), h2)) else (nm (wI h2 a8 v4.toNatClampNeg ((hpI h2 a8 v4.toNatClampNeg) + (1 : Int32))) fun h13 => dr (hpR h13 a0 28) fun a16 => gd (isK h13 a16 100) (gd (inb v4 (hpL h13 a16)) (some ((hpI h13 a16 v4.toNatClampNeg), h13)))))))) else (some ((-3 : Int32), h2)))
set_option maxRecDepth 100000 in
set_option maxHeartbeats 4000000 in
theorem zf_M_pin {l : Launch} {C : Ct} {mi : Nat} {a0 : Nat} {p1 : Int32} {h h' : Hp} {v : Int32} (hf : f_M_pin a0 p1 h = some (v, h')) : Z l C mi m_M_pin 1 0 [(0, vr (some a0)), (1, vi p1)] [] h (some (vi v)) h' := by
  unfold f_M_pin at hf
  refine z_aload_n 0 d_M_pin_0 rfl rfl ?_
  refine z_iload_n 1 d_M_pin_1 rfl rfl ?_
  obtain ⟨g1, hf⟩ := gd_some hf
  obtain ⟨v4, h2, ec3, hf⟩ := cl_some hf
  refine z_callVx rfl (c_M_find ec3) d_M_pin_2 cw_M_find lk_M_133 im_M_find se_M_find (kc_K (isK_eq g1) kc_8) ⟨by decide, by decide⟩ (Nat.le_of_ble_eq_true rfl) rfl ?_
  refine z_istore_n (ls2 := [(2, vi v4), (0, vr (some a0)), (1, vi p1)]) d_M_pin_5 rfl (by decide) rfl ?_
  refine z_iload_n 0 d_M_pin_6 rfl rfl ?_
  refine z_if_ge (tgt := 13) d_M_pin_7 (by decide) (fun c6 => ?_) (fun c6 => ?_)
  · rw [if_pos c6] at hf
    refine z_aload_n 1 d_M_pin_13 rfl rfl ?_
    obtain ⟨g7, hf⟩ := gd_some hf
    refine z_getR d_M_pin_14 (fl_K (isK_eq g7) fl_M_90_8) (fi_K (isK_eq g7) rfl) rfl ?_
    refine z_iload_n 0 d_M_pin_17 rfl rfl ?_
    obtain ⟨a8, e9, hf⟩ := dr_some hf
    obtain ⟨g10, hf⟩ := gd_some hf
    obtain ⟨g11, hf⟩ := gd_some hf
    refine z_iald d_M_pin_18 e9 (by rw [isK_eq g10]; decide) (by rw [isK_eq g10]; rfl) (inb_vp g11) ?_
    refine z_bipush (v := (nI 9)) d_M_pin_19 (by decide) ?_
    refine z_icmp_ne (tgt := 27) d_M_pin_21 (by decide) (fun c12 => ?_) (fun c12 => ?_)
    · rw [if_neg c12] at hf
      refine z_aload_n 1 d_M_pin_27 rfl rfl ?_
      refine z_getR d_M_pin_28 (fl_K (isK_eq g7) fl_M_90_8) (fi_K (isK_eq g7) rfl) rfl ?_
      refine z_iload_n 0 d_M_pin_31 rfl rfl ?_
      refine z_dup2 d_M_pin_32 rfl rfl ?_
      refine z_iald d_M_pin_33 e9 (by rw [isK_eq g10]; decide) (by rw [isK_eq g10]; rfl) (inb_vp g11) ?_
      refine z_iconst (v := (1 : Int32)) d_M_pin_34 (by decide) ?_
      refine z_iadd d_M_pin_35 ?_
      obtain ⟨h13, eh14, hf⟩ := nm_some hf
      refine z_iast d_M_pin_36 e9 (by rw [isK_eq g10]; decide) (by rw [isK_eq g10]; rfl) (inb_vp g11) ?_
      refine z_hp eh14 ?_
      refine z_aload_n 1 d_M_pin_37 rfl rfl ?_
      refine z_getR d_M_pin_38 (fl_K (isK_eq (isK_wI eh14 g7)) fl_M_90_8) (fi_K (isK_eq (isK_wI eh14 g7)) rfl) rfl ?_
      refine z_iload_n 0 d_M_pin_41 rfl rfl ?_
      obtain ⟨a16, e17, hf⟩ := dr_some hf
      obtain ⟨g18, hf⟩ := gd_some hf
      obtain ⟨g19, hf⟩ := gd_some hf
      refine z_iald d_M_pin_42 e17 (by rw [isK_eq g18]; decide) (by rw [isK_eq g18]; rfl) (inb_vp g19) ?_
      obtain ⟨rfl, rfl⟩ := Prod.mk.inj (Option.some.inj hf)
      exact z_ret d_M_pin_43 rfl
    · rw [if_pos c12] at hf
      refine z_bipush (v := (-2 : Int32)) d_M_pin_24 (by decide) ?_
      obtain ⟨rfl, rfl⟩ := Prod.mk.inj (Option.some.inj hf)
      exact z_ret d_M_pin_26 rfl
  · rw [if_neg c6] at hf
    refine z_bipush (v := (-3 : Int32)) d_M_pin_10 (by decide) ?_
    obtain ⟨rfl, rfl⟩ := Prod.mk.inj (Option.some.inj hf)
    exact z_ret d_M_pin_12 rfl
set_option maxRecDepth 100000 in
set_option maxHeartbeats 4000000 in
theorem fr_M_pin {C : Ct} {mi : Nat} {a0 : Nat} {p1 : Int32} {h h' : Hp} {v : Int32} (hf : f_M_pin a0 p1 h = some (v, h')) : Keep W_M_pin h h' := by
  unfold f_M_pin at hf
  obtain ⟨g1, hf⟩ := gd_some hf
  obtain ⟨v4, h2, ec3, hf⟩ := cl_some hf
  have K5 := (Keep.refl W_M_pin _).trans ((fr_M_find (C := C) (mi := mi) ec3).mono (by decide) (by decide))
  rcases Classical.em (0 ≤ v4) with c6 | c6
  · rw [if_pos c6] at hf
    obtain ⟨g7, hf⟩ := gd_some hf
    obtain ⟨a8, e9, hf⟩ := dr_some hf
    obtain ⟨g10, hf⟩ := gd_some hf
    obtain ⟨g11, hf⟩ := gd_some hf
    rcases (Classical.em ((hpI h2 a8 v4.toNatClampNeg) = (nI 9))).symm with c12 | c12
    · rw [if_neg c12] at hf
      obtain ⟨h13, eh14, hf⟩ := nm_some hf
      have K15 := K5.trans (kw_I eh14 (isK_eq g10) (Or.inr (by decide)))
      obtain ⟨a16, e17, hf⟩ := dr_some hf
      obtain ⟨g18, hf⟩ := gd_some hf
      obtain ⟨g19, hf⟩ := gd_some hf
      obtain ⟨rfl, rfl⟩ := Prod.mk.inj (Option.some.inj hf)
      exact K15
    · rw [if_pos c12] at hf
      obtain ⟨rfl, rfl⟩ := Prod.mk.inj (Option.some.inj hf)
      exact K5
  · rw [if_neg c6] at hf
    obtain ⟨rfl, rfl⟩ := Prod.mk.inj (Option.some.inj hf)
    exact K5
theorem c_M_pin {l : Launch} {C : Ct} {mi : Nat} {a0 : Nat} {p1 : Int32} {h h' : Hp} {v : Int32} (hf : f_M_pin a0 p1 h = some (v, h')) : Mt l C mi m_M_pin 1 [vr (some a0), vi p1] h (some (vi v)) h' := mt_I (ty := .int) rfl rfl rfl (by decide) (Nat.le_of_ble_eq_true rfl) (zf_M_pin hf)
-- VersionMapsModel.unpin(I)I
def m_M_unpin : Mi := (⟨"VersionMapsModel", "unpin", "(I)I"⟩, prog_11_method_32_code, 4, (Option.some Jvm.ClassFile.FieldType.int), .ireturn)
theorem cw_M_unpin : cw_ok m_M_unpin 1 := ⟨by decide +kernel, by decide +kernel, by decide +kernel, by decide +kernel⟩
theorem im_M_unpin : Cond.instanceMethod m_M_unpin.1 ∈ lw_w := by decide +kernel
theorem se_M_unpin : Cond.selects "VersionMapsModel" m_M_unpin.1 m_M_unpin.1 ∈ lw_w := by decide +kernel
theorem d_M_unpin_0 : decode prog_11_method_32_code 0 = .ok (.aload_n 0, 1) := by decide +kernel
theorem d_M_unpin_1 : decode prog_11_method_32_code 1 = .ok (.iload_n 1, 1) := by decide +kernel
theorem d_M_unpin_2 : decode prog_11_method_32_code 2 = .ok (.invokevirtual 133, 3) := by decide +kernel
theorem d_M_unpin_5 : decode prog_11_method_32_code 5 = .ok (.istore_n 2, 1) := by decide +kernel
theorem d_M_unpin_6 : decode prog_11_method_32_code 6 = .ok (.iload_n 2, 1) := by decide +kernel
theorem d_M_unpin_7 : decode prog_11_method_32_code 7 = .ok (.ifCond .lt 12, 3) := by decide +kernel
theorem d_M_unpin_10 : decode prog_11_method_32_code 10 = .ok (.aload_n 0, 1) := by decide +kernel
theorem d_M_unpin_11 : decode prog_11_method_32_code 11 = .ok (.getfield 90, 3) := by decide +kernel
theorem d_M_unpin_14 : decode prog_11_method_32_code 14 = .ok (.iload_n 2, 1) := by decide +kernel
theorem d_M_unpin_15 : decode prog_11_method_32_code 15 = .ok (.iaload, 1) := by decide +kernel
theorem d_M_unpin_16 : decode prog_11_method_32_code 16 = .ok (.ifCond .ne 6, 3) := by decide +kernel
theorem d_M_unpin_19 : decode prog_11_method_32_code 19 = .ok (.bipush (-3), 2) := by decide +kernel
theorem d_M_unpin_21 : decode prog_11_method_32_code 21 = .ok (.ireturn, 1) := by decide +kernel
theorem d_M_unpin_22 : decode prog_11_method_32_code 22 = .ok (.aload_n 0, 1) := by decide +kernel
theorem d_M_unpin_23 : decode prog_11_method_32_code 23 = .ok (.getfield 90, 3) := by decide +kernel
theorem d_M_unpin_26 : decode prog_11_method_32_code 26 = .ok (.iload_n 2, 1) := by decide +kernel
theorem d_M_unpin_27 : decode prog_11_method_32_code 27 = .ok (.dup2, 1) := by decide +kernel
theorem d_M_unpin_28 : decode prog_11_method_32_code 28 = .ok (.iaload, 1) := by decide +kernel
theorem d_M_unpin_29 : decode prog_11_method_32_code 29 = .ok (.iconst 1, 1) := by decide +kernel
theorem d_M_unpin_30 : decode prog_11_method_32_code 30 = .ok (.isub, 1) := by decide +kernel
theorem d_M_unpin_31 : decode prog_11_method_32_code 31 = .ok (.iastore, 1) := by decide +kernel
theorem d_M_unpin_32 : decode prog_11_method_32_code 32 = .ok (.aload_n 0, 1) := by decide +kernel
theorem d_M_unpin_33 : decode prog_11_method_32_code 33 = .ok (.getfield 90, 3) := by decide +kernel
theorem d_M_unpin_36 : decode prog_11_method_32_code 36 = .ok (.iload_n 2, 1) := by decide +kernel
theorem d_M_unpin_37 : decode prog_11_method_32_code 37 = .ok (.iaload, 1) := by decide +kernel
theorem d_M_unpin_38 : decode prog_11_method_32_code 38 = .ok (.istore_n 3, 1) := by decide +kernel
theorem d_M_unpin_39 : decode prog_11_method_32_code 39 = .ok (.aload_n 0, 1) := by decide +kernel
theorem d_M_unpin_40 : decode prog_11_method_32_code 40 = .ok (.invokevirtual 181, 3) := by decide +kernel
theorem d_M_unpin_43 : decode prog_11_method_32_code 43 = .ok (.iload_n 3, 1) := by decide +kernel
theorem d_M_unpin_44 : decode prog_11_method_32_code 44 = .ok (.ireturn, 1) := by decide +kernel
def W_M_unpin : Wl := ([(8, 30)], [99, 100, 101])
def f_M_unpin (a0 : Nat) (p1 : Int32) (h : Hp) : Option (Int32 × Hp) :=
  gd (isK h a0 8) (cl (f_M_find a0 p1 h) fun v4 h2 => if v4 < 0 then (some ((-3 : Int32), h2)) else (gd (isK h2 a0 8) (dr (hpR h2 a0 28) fun a8 => gd (isK h2 a8 100) (gd (inb v4 (hpL h2 a8)) (if (hpI h2 a8 v4.toNatClampNeg) = 0 then (some ((-3 : Int32), h2)) else (nm (wI h2 a8 v4.toNatClampNeg ((hpI h2 a8 v4.toNatClampNeg) - (1 : Int32))) fun h13 => dr (hpR h13 a0 28) fun a16 => gd (isK h13 a16 100) (gd (inb v4 (hpL h13 a16)) (cv (f_M_drop a0 h13) fun h20 => some ((hpI h13 a16 v4.toNatClampNeg), h20)))))))))
set_option maxRecDepth 100000 in
set_option maxHeartbeats 4000000 in
theorem zf_M_unpin {l : Launch} {C : Ct} {mi : Nat} {a0 : Nat} {p1 : Int32} {h h' : Hp} {v : Int32} (hf : f_M_unpin a0 p1 h = some (v, h')) : Z l C mi m_M_unpin 2 0 [(0, vr (some a0)), (1, vi p1)] [] h (some (vi v)) h' := by
  unfold f_M_unpin at hf
  refine z_aload_n 0 d_M_unpin_0 rfl rfl ?_
  refine z_iload_n 1 d_M_unpin_1 rfl rfl ?_
  obtain ⟨g1, hf⟩ := gd_some hf
  obtain ⟨v4, h2, ec3, hf⟩ := cl_some hf
  refine z_callVx rfl (c_M_find ec3) d_M_unpin_2 cw_M_find lk_M_133 im_M_find se_M_find (kc_K (isK_eq g1) kc_8) ⟨by decide, by decide⟩ (Nat.le_of_ble_eq_true rfl) rfl ?_
  refine z_istore_n (ls2 := [(2, vi v4), (0, vr (some a0)), (1, vi p1)]) d_M_unpin_5 rfl (by decide) rfl ?_
  refine z_iload_n 0 d_M_unpin_6 rfl rfl ?_
  refine z_if_lt (tgt := 19) d_M_unpin_7 (by decide) (fun c6 => ?_) (fun c6 => ?_)
  · rw [if_pos c6] at hf
    refine z_bipush (v := (-3 : Int32)) d_M_unpin_19 (by decide) ?_
    obtain ⟨rfl, rfl⟩ := Prod.mk.inj (Option.some.inj hf)
    exact z_ret d_M_unpin_21 rfl
  · rw [if_neg c6] at hf
    refine z_aload_n 1 d_M_unpin_10 rfl rfl ?_
    obtain ⟨g7, hf⟩ := gd_some hf
    refine z_getR d_M_unpin_11 (fl_K (isK_eq g7) fl_M_90_8) (fi_K (isK_eq g7) rfl) rfl ?_
    refine z_iload_n 0 d_M_unpin_14 rfl rfl ?_
    obtain ⟨a8, e9, hf⟩ := dr_some hf
    obtain ⟨g10, hf⟩ := gd_some hf
    obtain ⟨g11, hf⟩ := gd_some hf
    refine z_iald d_M_unpin_15 e9 (by rw [isK_eq g10]; decide) (by rw [isK_eq g10]; rfl) (inb_vp g11) ?_
    refine z_if_ne (tgt := 22) d_M_unpin_16 (by decide) (fun c12 => ?_) (fun c12 => ?_)
    · rw [if_neg c12] at hf
      refine z_aload_n 1 d_M_unpin_22 rfl rfl ?_
      refine z_getR d_M_unpin_23 (fl_K (isK_eq g7) fl_M_90_8) (fi_K (isK_eq g7) rfl) rfl ?_
      refine z_iload_n 0 d_M_unpin_26 rfl rfl ?_
      refine z_dup2 d_M_unpin_27 rfl rfl ?_
      refine z_iald d_M_unpin_28 e9 (by rw [isK_eq g10]; decide) (by rw [isK_eq g10]; rfl) (inb_vp g11) ?_
      refine z_iconst (v := (1 : Int32)) d_M_unpin_29 (by decide) ?_
      refine z_isub d_M_unpin_30 ?_
      obtain ⟨h13, eh14, hf⟩ := nm_some hf
      refine z_iast d_M_unpin_31 e9 (by rw [isK_eq g10]; decide) (by rw [isK_eq g10]; rfl) (inb_vp g11) ?_
      refine z_hp eh14 ?_
      refine z_aload_n 1 d_M_unpin_32 rfl rfl ?_
      refine z_getR d_M_unpin_33 (fl_K (isK_eq (isK_wI eh14 g7)) fl_M_90_8) (fi_K (isK_eq (isK_wI eh14 g7)) rfl) rfl ?_
      refine z_iload_n 0 d_M_unpin_36 rfl rfl ?_
      obtain ⟨a16, e17, hf⟩ := dr_some hf
      obtain ⟨g18, hf⟩ := gd_some hf
      obtain ⟨g19, hf⟩ := gd_some hf
      refine z_iald d_M_unpin_37 e17 (by rw [isK_eq g18]; decide) (by rw [isK_eq g18]; rfl) (inb_vp g19) ?_
      refine z_istore_n (ls2 := [(3, vi (hpI h13 a16 v4.toNatClampNeg)), (2, vi v4), (0, vr (some a0)), (1, vi p1)]) d_M_unpin_38 rfl (by decide) rfl ?_
      refine z_aload_n 2 d_M_unpin_39 rfl rfl ?_
      obtain ⟨h20, ec21, hf⟩ := cv_some hf
      refine z_callVx rfl (c_M_drop ec21) d_M_unpin_40 cw_M_drop lk_M_181 im_M_drop se_M_drop (kc_K (isK_eq (isK_wI eh14 g7)) kc_8) ⟨by decide, by decide⟩ (Nat.le_of_ble_eq_true rfl) rfl ?_
      refine z_iload_n 0 d_M_unpin_43 rfl rfl ?_
      obtain ⟨rfl, rfl⟩ := Prod.mk.inj (Option.some.inj hf)
      exact z_ret d_M_unpin_44 rfl
    · rw [if_pos c12] at hf
      refine z_bipush (v := (-3 : Int32)) d_M_unpin_19 (by decide) ?_
      obtain ⟨rfl, rfl⟩ := Prod.mk.inj (Option.some.inj hf)
      exact z_ret d_M_unpin_21 rfl
set_option maxRecDepth 100000 in
set_option maxHeartbeats 4000000 in
theorem fr_M_unpin {C : Ct} {mi : Nat} {a0 : Nat} {p1 : Int32} {h h' : Hp} {v : Int32} (hf : f_M_unpin a0 p1 h = some (v, h')) : Keep W_M_unpin h h' := by
  unfold f_M_unpin at hf
  obtain ⟨g1, hf⟩ := gd_some hf
  obtain ⟨v4, h2, ec3, hf⟩ := cl_some hf
  have K5 := (Keep.refl W_M_unpin _).trans ((fr_M_find (C := C) (mi := mi) ec3).mono (by decide) (by decide))
  rcases Classical.em (v4 < 0) with c6 | c6
  · rw [if_pos c6] at hf
    obtain ⟨rfl, rfl⟩ := Prod.mk.inj (Option.some.inj hf)
    exact K5
  · rw [if_neg c6] at hf
    obtain ⟨g7, hf⟩ := gd_some hf
    obtain ⟨a8, e9, hf⟩ := dr_some hf
    obtain ⟨g10, hf⟩ := gd_some hf
    obtain ⟨g11, hf⟩ := gd_some hf
    rcases (Classical.em ((hpI h2 a8 v4.toNatClampNeg) = 0)).symm with c12 | c12
    · rw [if_neg c12] at hf
      obtain ⟨h13, eh14, hf⟩ := nm_some hf
      have K15 := K5.trans (kw_I eh14 (isK_eq g10) (Or.inr (by decide)))
      obtain ⟨a16, e17, hf⟩ := dr_some hf
      obtain ⟨g18, hf⟩ := gd_some hf
      obtain ⟨g19, hf⟩ := gd_some hf
      obtain ⟨h20, ec21, hf⟩ := cv_some hf
      have K22 := K15.trans ((fr_M_drop (C := C) (mi := mi) ec21).mono (by decide) (by decide))
      obtain ⟨rfl, rfl⟩ := Prod.mk.inj (Option.some.inj hf)
      exact K22
    · rw [if_pos c12] at hf
      obtain ⟨rfl, rfl⟩ := Prod.mk.inj (Option.some.inj hf)
      exact K5
theorem c_M_unpin {l : Launch} {C : Ct} {mi : Nat} {a0 : Nat} {p1 : Int32} {h h' : Hp} {v : Int32} (hf : f_M_unpin a0 p1 h = some (v, h')) : Mt l C mi m_M_unpin 2 [vr (some a0), vi p1] h (some (vi v)) h' := mt_I (ty := .int) rfl rfl rfl (by decide) (Nat.le_of_ble_eq_true rfl) (zf_M_unpin hf)
-- VersionMapsModel.hold(I)I
def m_M_hold : Mi := (⟨"VersionMapsModel", "hold", "(I)I"⟩, prog_11_method_33_code, 3, (Option.some Jvm.ClassFile.FieldType.int), .ireturn)
theorem cw_M_hold : cw_ok m_M_hold 1 := ⟨by decide +kernel, by decide +kernel, by decide +kernel, by decide +kernel⟩
theorem im_M_hold : Cond.instanceMethod m_M_hold.1 ∈ lw_w := by decide +kernel
theorem se_M_hold : Cond.selects "VersionMapsModel" m_M_hold.1 m_M_hold.1 ∈ lw_w := by decide +kernel
theorem d_M_hold_0 : decode prog_11_method_33_code 0 = .ok (.iload_n 1, 1) := by decide +kernel
theorem d_M_hold_1 : decode prog_11_method_33_code 1 = .ok (.iconst 5, 1) := by decide +kernel
theorem d_M_hold_2 : decode prog_11_method_33_code 2 = .ok (.invokestatic 125, 3) := by decide +kernel
theorem d_M_hold_5 : decode prog_11_method_33_code 5 = .ok (.ifCond .ne 5, 3) := by decide +kernel
theorem d_M_hold_8 : decode prog_11_method_33_code 8 = .ok (.iconst (-1), 1) := by decide +kernel
theorem d_M_hold_9 : decode prog_11_method_33_code 9 = .ok (.ireturn, 1) := by decide +kernel
theorem d_M_hold_10 : decode prog_11_method_33_code 10 = .ok (.aload_n 0, 1) := by decide +kernel
theorem d_M_hold_11 : decode prog_11_method_33_code 11 = .ok (.getfield 99, 3) := by decide +kernel
theorem d_M_hold_14 : decode prog_11_method_33_code 14 = .ok (.istore_n 2, 1) := by decide +kernel
theorem d_M_hold_15 : decode prog_11_method_33_code 15 = .ok (.aload_n 0, 1) := by decide +kernel
theorem d_M_hold_16 : decode prog_11_method_33_code 16 = .ok (.iload_n 1, 1) := by decide +kernel
theorem d_M_hold_17 : decode prog_11_method_33_code 17 = .ok (.putfield 99, 3) := by decide +kernel
theorem d_M_hold_20 : decode prog_11_method_33_code 20 = .ok (.aload_n 0, 1) := by decide +kernel
theorem d_M_hold_21 : decode prog_11_method_33_code 21 = .ok (.invokevirtual 181, 3) := by decide +kernel
theorem d_M_hold_24 : decode prog_11_method_33_code 24 = .ok (.iload_n 2, 1) := by decide +kernel
theorem d_M_hold_25 : decode prog_11_method_33_code 25 = .ok (.ireturn, 1) := by decide +kernel
def W_M_hold : Wl := ([(8, 30), (8, 32)], [99, 100, 101])
def f_M_hold (a0 : Nat) (p1 : Int32) (h : Hp) : Option (Int32 × Hp) :=
  cl (f_M_in p1 (nI 5) h) fun v3 h1 => if v3 = 0 then (some ((-1 : Int32), h1)) else (gd (isK h1 a0 8) (nm (wI h1 a0 32 p1) fun h7 => cv (f_M_drop a0 h7) fun h10 => some ((hpI h1 a0 32), h10)))
set_option maxRecDepth 100000 in
set_option maxHeartbeats 4000000 in
theorem zf_M_hold {l : Launch} {C : Ct} {mi : Nat} {a0 : Nat} {p1 : Int32} {h h' : Hp} {v : Int32} (hf : f_M_hold a0 p1 h = some (v, h')) : Z l C mi m_M_hold 2 0 [(0, vr (some a0)), (1, vi p1)] [] h (some (vi v)) h' := by
  unfold f_M_hold at hf
  refine z_iload_n 1 d_M_hold_0 rfl rfl ?_
  refine z_iconst (v := (nI 5)) d_M_hold_1 (by decide) ?_
  obtain ⟨v3, h1, ec2, hf⟩ := cl_some hf
  refine z_callS (c_M_in ec2) d_M_hold_2 cw_M_in lk_M_125 (by decide +kernel) ⟨by decide, by decide⟩ (Nat.le_of_ble_eq_true rfl) rfl ?_
  refine z_if_ne (tgt := 10) d_M_hold_5 (by decide) (fun c5 => ?_) (fun c5 => ?_)
  · rw [if_neg c5] at hf
    refine z_aload_n 0 d_M_hold_10 rfl rfl ?_
    obtain ⟨g6, hf⟩ := gd_some hf
    refine z_getI d_M_hold_11 (fl_K (isK_eq g6) fl_M_99_8) (fi_K (isK_eq g6) rfl) rfl ?_
    refine z_istore_n (ls2 := [(2, vi (hpI h1 a0 32)), (0, vr (some a0)), (1, vi p1)]) d_M_hold_14 rfl (by decide) rfl ?_
    refine z_aload_n 1 d_M_hold_15 rfl rfl ?_
    refine z_iload_n 2 d_M_hold_16 rfl rfl ?_
    obtain ⟨h7, eh8, hf⟩ := nm_some hf
    refine z_putI d_M_hold_17 (fl_K (isK_eq g6) fl_M_99_8) (pu_K (isK_eq g6) (fun q hq => by cases (Option.some.inj hq); exact Or.inl rfl)) (fi_K (isK_eq g6) rfl) rfl ?_
    refine z_hp eh8 ?_
    refine z_aload_n 1 d_M_hold_20 rfl rfl ?_
    obtain ⟨h10, ec11, hf⟩ := cv_some hf
    refine z_callVx rfl (c_M_drop ec11) d_M_hold_21 cw_M_drop lk_M_181 im_M_drop se_M_drop (kc_K (isK_eq (isK_wI eh8 g6)) kc_8) ⟨by decide, by decide⟩ (Nat.le_of_ble_eq_true rfl) rfl ?_
    refine z_iload_n 0 d_M_hold_24 rfl rfl ?_
    obtain ⟨rfl, rfl⟩ := Prod.mk.inj (Option.some.inj hf)
    exact z_ret d_M_hold_25 rfl
  · rw [if_pos c5] at hf
    refine z_iconst (v := (-1 : Int32)) d_M_hold_8 (by decide) ?_
    obtain ⟨rfl, rfl⟩ := Prod.mk.inj (Option.some.inj hf)
    exact z_ret d_M_hold_9 rfl
set_option maxRecDepth 100000 in
set_option maxHeartbeats 4000000 in
theorem fr_M_hold {C : Ct} {mi : Nat} {a0 : Nat} {p1 : Int32} {h h' : Hp} {v : Int32} (hf : f_M_hold a0 p1 h = some (v, h')) : Keep W_M_hold h h' := by
  unfold f_M_hold at hf
  obtain ⟨v3, h1, ec2, hf⟩ := cl_some hf
  have K4 := (Keep.refl W_M_hold _).trans ((fr_M_in (C := C) (mi := mi) ec2).mono (by decide) (by decide))
  rcases (Classical.em (v3 = 0)).symm with c5 | c5
  · rw [if_neg c5] at hf
    obtain ⟨g6, hf⟩ := gd_some hf
    obtain ⟨h7, eh8, hf⟩ := nm_some hf
    have K9 := K4.trans (kw_I eh8 (isK_eq g6) (Or.inl (by decide)))
    obtain ⟨h10, ec11, hf⟩ := cv_some hf
    have K12 := K9.trans ((fr_M_drop (C := C) (mi := mi) ec11).mono (by decide) (by decide))
    obtain ⟨rfl, rfl⟩ := Prod.mk.inj (Option.some.inj hf)
    exact K12
  · rw [if_pos c5] at hf
    obtain ⟨rfl, rfl⟩ := Prod.mk.inj (Option.some.inj hf)
    exact K4
theorem c_M_hold {l : Launch} {C : Ct} {mi : Nat} {a0 : Nat} {p1 : Int32} {h h' : Hp} {v : Int32} (hf : f_M_hold a0 p1 h = some (v, h')) : Mt l C mi m_M_hold 2 [vr (some a0), vi p1] h (some (vi v)) h' := mt_I (ty := .int) rfl rfl rfl (by decide) (Nat.le_of_ble_eq_true rfl) (zf_M_hold hf)
-- VersionMapsModel.keepAll()V
def m_M_keepAll : Mi := (⟨"VersionMapsModel", "keepAll", "()V"⟩, prog_11_method_35_code, 2, (Option.none : Option Jvm.ClassFile.FieldType), .return_)
theorem cw_M_keepAll : cw_ok m_M_keepAll 0 := ⟨by decide +kernel, by decide +kernel, by decide +kernel, by decide +kernel⟩
theorem im_M_keepAll : Cond.instanceMethod m_M_keepAll.1 ∈ lw_w := by decide +kernel
theorem se_M_keepAll : Cond.selects "VersionMapsModel" m_M_keepAll.1 m_M_keepAll.1 ∈ lw_w := by decide +kernel
theorem d_M_keepAll_0 : decode prog_11_method_35_code 0 = .ok (.iconst 0, 1) := by decide +kernel
theorem d_M_keepAll_1 : decode prog_11_method_35_code 1 = .ok (.istore_n 1, 1) := by decide +kernel
theorem d_M_keepAll_2 : decode prog_11_method_35_code 2 = .ok (.iload_n 1, 1) := by decide +kernel
theorem d_M_keepAll_3 : decode prog_11_method_35_code 3 = .ok (.bipush 32, 2) := by decide +kernel
theorem d_M_keepAll_5 : decode prog_11_method_35_code 5 = .ok (.if_icmp .ge 33, 3) := by decide +kernel
theorem d_M_keepAll_8 : decode prog_11_method_35_code 8 = .ok (.aload_n 0, 1) := by decide +kernel
theorem d_M_keepAll_9 : decode prog_11_method_35_code 9 = .ok (.getfield 56, 3) := by decide +kernel
theorem d_M_keepAll_12 : decode prog_11_method_35_code 12 = .ok (.iload_n 1, 1) := by decide +kernel
theorem d_M_keepAll_13 : decode prog_11_method_35_code 13 = .ok (.aload_n 0, 1) := by decide +kernel
theorem d_M_keepAll_14 : decode prog_11_method_35_code 14 = .ok (.getfield 50, 3) := by decide +kernel
theorem d_M_keepAll_17 : decode prog_11_method_35_code 17 = .ok (.iload_n 1, 1) := by decide +kernel
theorem d_M_keepAll_18 : decode prog_11_method_35_code 18 = .ok (.iaload, 1) := by decide +kernel
theorem d_M_keepAll_19 : decode prog_11_method_35_code 19 = .ok (.iastore, 1) := by decide +kernel
theorem d_M_keepAll_20 : decode prog_11_method_35_code 20 = .ok (.aload_n 0, 1) := by decide +kernel
theorem d_M_keepAll_21 : decode prog_11_method_35_code 21 = .ok (.getfield 59, 3) := by decide +kernel
theorem d_M_keepAll_24 : decode prog_11_method_35_code 24 = .ok (.iload_n 1, 1) := by decide +kernel
theorem d_M_keepAll_25 : decode prog_11_method_35_code 25 = .ok (.aload_n 0, 1) := by decide +kernel
theorem d_M_keepAll_26 : decode prog_11_method_35_code 26 = .ok (.getfield 53, 3) := by decide +kernel
theorem d_M_keepAll_29 : decode prog_11_method_35_code 29 = .ok (.iload_n 1, 1) := by decide +kernel
theorem d_M_keepAll_30 : decode prog_11_method_35_code 30 = .ok (.iaload, 1) := by decide +kernel
theorem d_M_keepAll_31 : decode prog_11_method_35_code 31 = .ok (.iastore, 1) := by decide +kernel
theorem d_M_keepAll_32 : decode prog_11_method_35_code 32 = .ok (.iinc 1 1, 3) := by decide +kernel
theorem d_M_keepAll_35 : decode prog_11_method_35_code 35 = .ok (.goto (-33), 3) := by decide +kernel
theorem d_M_keepAll_38 : decode prog_11_method_35_code 38 = .ok (.aload_n 0, 1) := by decide +kernel
theorem d_M_keepAll_39 : decode prog_11_method_35_code 39 = .ok (.iconst 0, 1) := by decide +kernel
theorem d_M_keepAll_40 : decode prog_11_method_35_code 40 = .ok (.putfield 156, 3) := by decide +kernel
theorem d_M_keepAll_43 : decode prog_11_method_35_code 43 = .ok (.return_, 1) := by decide +kernel
def W_M_keepAll : Wl := ([(8, 19)], [90, 91])
def b_M_keepAll_2 (y0 : Nat) (y1 : Int32) (h : Hp) : Option ((Int32 × Hp) ⊕ (Hp)) :=
  if (nI 32) ≤ y1 then (some (.inr h)) else (gd (isK h y0 8) (dr (hpR h y0 13) fun a3 => gd (isK h a3 88) (gd (inb y1 (hpL h a3)) (dr (hpR h y0 15) fun a7 => gd (isK h a7 90) (gd (inb y1 (hpL h a7)) (nm (wI h a7 y1.toNatClampNeg (hpI h a3 y1.toNatClampNeg)) fun h11 => dr (hpR h11 y0 14) fun a14 => gd (isK h11 a14 89) (gd (inb y1 (hpL h11 a14)) (dr (hpR h11 y0 16) fun a18 => gd (isK h11 a18 91) (gd (inb y1 (hpL h11 a18)) (nm (wI h11 a18 y1.toNatClampNeg (hpI h11 a14 y1.toNatClampNeg)) fun h22 => some (.inl ((y1 + (1 : Int32)), h22))))))))))))
set_option maxRecDepth 100000 in
set_option maxHeartbeats 4000000 in
theorem zb_M_keepAll_2 {l : Launch} {C : Ct} {mi : Nat} {y0 : Nat} {y1 : Int32} {h h' : Hp} {q : ((Int32 × Hp) ⊕ (Hp))} (hf : b_M_keepAll_2 y0 y1 h = some q) (kc : ∀ s, q = .inl s → Z l C mi m_M_keepAll 0 2 [(0, vr (some y0)), (1, vi s.1)] [] s.2 none h') (ke : ∀ x, q = .inr x → Z l C mi m_M_keepAll 0 38 [(0, vr (some y0))] [] x none h') : Z l C mi m_M_keepAll 0 2 [(0, vr (some y0)), (1, vi y1)] [] h none h' := by
  unfold b_M_keepAll_2 at hf
  refine z_iload_n 1 d_M_keepAll_2 rfl rfl ?_
  refine z_bipush (v := (nI 32)) d_M_keepAll_3 (by decide) ?_
  refine z_icmp_ge (tgt := 38) d_M_keepAll_5 (by decide) (fun c1 => ?_) (fun c1 => ?_)
  · rw [if_pos c1] at hf
    refine z_ls [0] rfl ?_
    exact ke h (Option.some.inj hf).symm
  · rw [if_neg c1] at hf
    refine z_aload_n 0 d_M_keepAll_8 rfl rfl ?_
    obtain ⟨g2, hf⟩ := gd_some hf
    refine z_getR d_M_keepAll_9 (fl_K (isK_eq g2) fl_M_56_8) (fi_K (isK_eq g2) rfl) rfl ?_
    refine z_iload_n 1 d_M_keepAll_12 rfl rfl ?_
    refine z_aload_n 0 d_M_keepAll_13 rfl rfl ?_
    refine z_getR d_M_keepAll_14 (fl_K (isK_eq g2) fl_M_50_8) (fi_K (isK_eq g2) rfl) rfl ?_
    refine z_iload_n 1 d_M_keepAll_17 rfl rfl ?_
    obtain ⟨a3, e4, hf⟩ := dr_some hf
    obtain ⟨g5, hf⟩ := gd_some hf
    obtain ⟨g6, hf⟩ := gd_some hf
    refine z_iald d_M_keepAll_18 e4 (by rw [isK_eq g5]; decide) (by rw [isK_eq g5]; rfl) (inb_vp g6) ?_
    obtain ⟨a7, e8, hf⟩ := dr_some hf
    obtain ⟨g9, hf⟩ := gd_some hf
    obtain ⟨g10, hf⟩ := gd_some hf
    obtain ⟨h11, eh12, hf⟩ := nm_some hf
    refine z_iast d_M_keepAll_19 e8 (by rw [isK_eq g9]; decide) (by rw [isK_eq g9]; rfl) (inb_vp g10) ?_
    refine z_hp eh12 ?_
    refine z_aload_n 0 d_M_keepAll_20 rfl rfl ?_
    refine z_getR d_M_keepAll_21 (fl_K (isK_eq (isK_wI eh12 g2)) fl_M_59_8) (fi_K (isK_eq (isK_wI eh12 g2)) rfl) rfl ?_
    refine z_iload_n 1 d_M_keepAll_24 rfl rfl ?_
    refine z_aload_n 0 d_M_keepAll_25 rfl rfl ?_
    refine z_getR d_M_keepAll_26 (fl_K (isK_eq (isK_wI eh12 g2)) fl_M_53_8) (fi_K (isK_eq (isK_wI eh12 g2)) rfl) rfl ?_
    refine z_iload_n 1 d_M_keepAll_29 rfl rfl ?_
    obtain ⟨a14, e15, hf⟩ := dr_some hf
    obtain ⟨g16, hf⟩ := gd_some hf
    obtain ⟨g17, hf⟩ := gd_some hf
    refine z_iald d_M_keepAll_30 e15 (by rw [isK_eq g16]; decide) (by rw [isK_eq g16]; rfl) (inb_vp g17) ?_
    obtain ⟨a18, e19, hf⟩ := dr_some hf
    obtain ⟨g20, hf⟩ := gd_some hf
    obtain ⟨g21, hf⟩ := gd_some hf
    obtain ⟨h22, eh23, hf⟩ := nm_some hf
    refine z_iast d_M_keepAll_31 e19 (by rw [isK_eq g20]; decide) (by rw [isK_eq g20]; rfl) (inb_vp g21) ?_
    refine z_hp eh23 ?_
    refine z_iinc (ls2 := [(1, vi (y1 + (1 : Int32))), (0, vr (some y0))]) 1 d_M_keepAll_32 rfl rfl (by decide) rfl ?_
    refine z_goto (tgt := 2) d_M_keepAll_35 (by decide) ?_
    refine z_ls [1, 0] rfl ?_
    exact kc ((y1 + (1 : Int32)), h22) (Option.some.inj hf).symm
set_option maxRecDepth 100000 in
set_option maxHeartbeats 4000000 in
theorem kb_M_keepAll_2 {C : Ct} {mi : Nat} {y0 : Nat} {y1 : Int32} {h : Hp} {q : ((Int32 × Hp) ⊕ (Hp))} (hf : b_M_keepAll_2 y0 y1 h = some q) : Keep W_M_keepAll h (Sum.elim (fun s : Int32 × Hp => s.2) (fun x : Hp => x) q) := by
  unfold b_M_keepAll_2 at hf
  rcases Classical.em ((nI 32) ≤ y1) with c1 | c1
  · rw [if_pos c1] at hf
    cases (Option.some.inj hf)
    exact (Keep.refl W_M_keepAll _)
  · rw [if_neg c1] at hf
    obtain ⟨g2, hf⟩ := gd_some hf
    obtain ⟨a3, e4, hf⟩ := dr_some hf
    obtain ⟨g5, hf⟩ := gd_some hf
    obtain ⟨g6, hf⟩ := gd_some hf
    obtain ⟨a7, e8, hf⟩ := dr_some hf
    obtain ⟨g9, hf⟩ := gd_some hf
    obtain ⟨g10, hf⟩ := gd_some hf
    obtain ⟨h11, eh12, hf⟩ := nm_some hf
    have K13 := (Keep.refl W_M_keepAll _).trans (kw_I eh12 (isK_eq g9) (Or.inr (by decide)))
    obtain ⟨a14, e15, hf⟩ := dr_some hf
    obtain ⟨g16, hf⟩ := gd_some hf
    obtain ⟨g17, hf⟩ := gd_some hf
    obtain ⟨a18, e19, hf⟩ := dr_some hf
    obtain ⟨g20, hf⟩ := gd_some hf
    obtain ⟨g21, hf⟩ := gd_some hf
    obtain ⟨h22, eh23, hf⟩ := nm_some hf
    have K24 := K13.trans (kw_I eh23 (isK_eq g20) (Or.inr (by decide)))
    cases (Option.some.inj hf)
    exact K24
def l_M_keepAll_2 (y0 : Nat) (s : Int32 × Hp) : Option (Hp) := lp (fun s => b_M_keepAll_2 y0 s.1 s.2) FU s
theorem zzl_M_keepAll_2 {l : Launch} {C : Ct} {mi : Nat} {y0 : Nat} {h' : Hp} : ∀ (n : Nat) (s : Int32 × Hp) (x : (Hp)), lp (fun s : Int32 × Hp => b_M_keepAll_2 y0 s.1 s.2) n s = some x → Z l C mi m_M_keepAll 0 38 [(0, vr (some y0))] [] x none h' → Z l C mi m_M_keepAll 0 2 [(0, vr (some y0)), (1, vi s.1)] [] s.2 none h' := by
  intro n
  induction n with
  | zero => intro s x hl; cases hl
  | succ n ih =>
    intro s x hl ke
    rcases lp_some hl with ⟨s2, hb, hl2⟩ | hb
    · exact zb_M_keepAll_2 hb (fun s3 e3 => by cases e3; refine z_ls [0, 1] rfl ?_; exact ih s2 x hl2 ke) (fun x e3 => by cases e3)
    · exact zb_M_keepAll_2 hb (fun s3 e3 => by cases e3) (fun x e3 => by cases e3; exact ke)
theorem zl_M_keepAll_2 {l : Launch} {C : Ct} {mi : Nat} {y0 : Nat} {h' : Hp} {s : Int32 × Hp} {x : (Hp)} (hl : l_M_keepAll_2 y0 s = some x) (ke : Z l C mi m_M_keepAll 0 38 [(0, vr (some y0))] [] x none h') : Z l C mi m_M_keepAll 0 2 [(0, vr (some y0)), (1, vi s.1)] [] s.2 none h' := zzl_M_keepAll_2 FU s x hl ke
theorem kl_M_keepAll_2 {C : Ct} {mi : Nat} {y0 : Nat} {s : Int32 × Hp} {q : (Hp)} (hl : l_M_keepAll_2 y0 s = some q) : Keep W_M_keepAll s.2 ((fun x : Hp => x) q) := lpk (sh := (fun s : Int32 × Hp => s.2)) (rh := (fun x : Hp => x)) (fun s q hb => kb_M_keepAll_2 (C := C) (mi := mi) hb) FU s q hl
def f_M_keepAll (a0 : Nat) (h : Hp) : Option Hp :=
  bd (l_M_keepAll_2 a0 ((0 : Int32), h)) fun x25 => gd (isK x25 a0 8) (nm (wI x25 a0 19 (0 : Int32)) fun h29 => some h29)
set_option maxRecDepth 100000 in
set_option maxHeartbeats 4000000 in
theorem zf_M_keepAll {l : Launch} {C : Ct} {mi : Nat} {a0 : Nat} {h h' : Hp} (hf : f_M_keepAll a0 h = some h') : Z l C mi m_M_keepAll 0 0 [(0, vr (some a0))] [] h none h' := by
  unfold f_M_keepAll at hf
  refine z_iconst (v := (0 : Int32)) d_M_keepAll_0 (by decide) ?_
  refine z_istore_n (ls2 := [(1, vi (0 : Int32)), (0, vr (some a0))]) d_M_keepAll_1 rfl (by decide) rfl ?_
  obtain ⟨x25, el26, hf⟩ := bd_some hf
  refine z_ls [1, 0] rfl ?_
  refine zl_M_keepAll_2 el26 ?_
  refine z_aload_n 0 d_M_keepAll_38 rfl rfl ?_
  refine z_iconst (v := (0 : Int32)) d_M_keepAll_39 (by decide) ?_
  obtain ⟨g28, hf⟩ := gd_some hf
  obtain ⟨h29, eh30, hf⟩ := nm_some hf
  refine z_putI d_M_keepAll_40 (fl_K (isK_eq g28) fl_M_156_8) (pu_K (isK_eq g28) (fun q hq => by cases (Option.some.inj hq); exact Or.inl rfl)) (fi_K (isK_eq g28) rfl) rfl ?_
  refine z_hp eh30 ?_
  cases (Option.some.inj hf)
  exact z_ret d_M_keepAll_43 rfl
set_option maxRecDepth 100000 in
set_option maxHeartbeats 4000000 in
theorem fr_M_keepAll {C : Ct} {mi : Nat} {a0 : Nat} {h h' : Hp} (hf : f_M_keepAll a0 h = some h') : Keep W_M_keepAll h h' := by
  unfold f_M_keepAll at hf
  obtain ⟨x25, el26, hf⟩ := bd_some hf
  have K27 := (Keep.refl W_M_keepAll _).trans (kl_M_keepAll_2 (C := C) (mi := mi) el26)
  obtain ⟨g28, hf⟩ := gd_some hf
  obtain ⟨h29, eh30, hf⟩ := nm_some hf
  have K31 := K27.trans (kw_I eh30 (isK_eq g28) (Or.inl (by decide)))
  cases (Option.some.inj hf)
  exact K31
theorem c_M_keepAll {l : Launch} {C : Ct} {mi : Nat} {a0 : Nat} {h h' : Hp} (hf : f_M_keepAll a0 h = some h') : Mt l C mi m_M_keepAll 0 [vr (some a0)] h none h' := mt_V rfl rfl (by decide) (Nat.le_of_ble_eq_true rfl) (zf_M_keepAll hf)
-- VersionMapsModel.markNone()V
def m_M_markNone : Mi := (⟨"VersionMapsModel", "markNone", "()V"⟩, prog_11_method_8_code, 2, (Option.none : Option Jvm.ClassFile.FieldType), .return_)
theorem cw_M_markNone : cw_ok m_M_markNone 0 := ⟨by decide +kernel, by decide +kernel, by decide +kernel, by decide +kernel⟩
theorem im_M_markNone : Cond.instanceMethod m_M_markNone.1 ∈ lw_w := by decide +kernel
theorem se_M_markNone : Cond.selects "VersionMapsModel" m_M_markNone.1 m_M_markNone.1 ∈ lw_w := by decide +kernel
theorem d_M_markNone_0 : decode prog_11_method_8_code 0 = .ok (.iconst 0, 1) := by decide +kernel
theorem d_M_markNone_1 : decode prog_11_method_8_code 1 = .ok (.istore_n 1, 1) := by decide +kernel
theorem d_M_markNone_2 : decode prog_11_method_8_code 2 = .ok (.iload_n 1, 1) := by decide +kernel
theorem d_M_markNone_3 : decode prog_11_method_8_code 3 = .ok (.sipush 160, 3) := by decide +kernel
theorem d_M_markNone_6 : decode prog_11_method_8_code 6 = .ok (.if_icmp .ge 16, 3) := by decide +kernel
theorem d_M_markNone_9 : decode prog_11_method_8_code 9 = .ok (.aload_n 0, 1) := by decide +kernel
theorem d_M_markNone_10 : decode prog_11_method_8_code 10 = .ok (.getfield 47, 3) := by decide +kernel
theorem d_M_markNone_13 : decode prog_11_method_8_code 13 = .ok (.iload_n 1, 1) := by decide +kernel
theorem d_M_markNone_14 : decode prog_11_method_8_code 14 = .ok (.iconst 0, 1) := by decide +kernel
theorem d_M_markNone_15 : decode prog_11_method_8_code 15 = .ok (.bastore, 1) := by decide +kernel
theorem d_M_markNone_16 : decode prog_11_method_8_code 16 = .ok (.iinc 1 1, 3) := by decide +kernel
theorem d_M_markNone_19 : decode prog_11_method_8_code 19 = .ok (.goto (-17), 3) := by decide +kernel
theorem d_M_markNone_22 : decode prog_11_method_8_code 22 = .ok (.return_, 1) := by decide +kernel
def W_M_markNone : Wl := ([], [87])
def b_M_markNone_2 (y0 : Nat) (y1 : Int32) (h : Hp) : Option ((Int32 × Hp) ⊕ (Hp)) :=
  if (nI 160) ≤ y1 then (some (.inr h)) else (gd (isK h y0 8) (dr (hpR h y0 12) fun a3 => gd (isK h a3 87) (gd (inb y1 (hpL h a3)) (nm (wI h a3 y1.toNatClampNeg (vp_nar .boolean (0 : Int32))) fun h7 => some (.inl ((y1 + (1 : Int32)), h7))))))
set_option maxRecDepth 100000 in
set_option maxHeartbeats 4000000 in
theorem zb_M_markNone_2 {l : Launch} {C : Ct} {mi : Nat} {y0 : Nat} {y1 : Int32} {h h' : Hp} {q : ((Int32 × Hp) ⊕ (Hp))} (hf : b_M_markNone_2 y0 y1 h = some q) (kc : ∀ s, q = .inl s → Z l C mi m_M_markNone 0 2 [(0, vr (some y0)), (1, vi s.1)] [] s.2 none h') (ke : ∀ x, q = .inr x → Z l C mi m_M_markNone 0 22 [] [] x none h') : Z l C mi m_M_markNone 0 2 [(0, vr (some y0)), (1, vi y1)] [] h none h' := by
  unfold b_M_markNone_2 at hf
  refine z_iload_n 1 d_M_markNone_2 rfl rfl ?_
  refine z_sipush (v := (nI 160)) d_M_markNone_3 (by decide) ?_
  refine z_icmp_ge (tgt := 22) d_M_markNone_6 (by decide) (fun c1 => ?_) (fun c1 => ?_)
  · rw [if_pos c1] at hf
    refine z_ls [] rfl ?_
    exact ke h (Option.some.inj hf).symm
  · rw [if_neg c1] at hf
    refine z_aload_n 0 d_M_markNone_9 rfl rfl ?_
    obtain ⟨g2, hf⟩ := gd_some hf
    refine z_getR d_M_markNone_10 (fl_K (isK_eq g2) fl_M_47_8) (fi_K (isK_eq g2) rfl) rfl ?_
    refine z_iload_n 1 d_M_markNone_13 rfl rfl ?_
    refine z_iconst (v := (0 : Int32)) d_M_markNone_14 (by decide) ?_
    obtain ⟨a3, e4, hf⟩ := dr_some hf
    obtain ⟨g5, hf⟩ := gd_some hf
    obtain ⟨g6, hf⟩ := gd_some hf
    obtain ⟨h7, eh8, hf⟩ := nm_some hf
    refine z_zast d_M_markNone_15 e4 (by rw [isK_eq g5]; decide) (by rw [isK_eq g5]; rfl) (inb_vp g6) ?_
    refine z_hp eh8 ?_
    refine z_iinc (ls2 := [(1, vi (y1 + (1 : Int32))), (0, vr (some y0))]) 1 d_M_markNone_16 rfl rfl (by decide) rfl ?_
    refine z_goto (tgt := 2) d_M_markNone_19 (by decide) ?_
    refine z_ls [1, 0] rfl ?_
    exact kc ((y1 + (1 : Int32)), h7) (Option.some.inj hf).symm
set_option maxRecDepth 100000 in
set_option maxHeartbeats 4000000 in
theorem kb_M_markNone_2 {C : Ct} {mi : Nat} {y0 : Nat} {y1 : Int32} {h : Hp} {q : ((Int32 × Hp) ⊕ (Hp))} (hf : b_M_markNone_2 y0 y1 h = some q) : Keep W_M_markNone h (Sum.elim (fun s : Int32 × Hp => s.2) (fun x : Hp => x) q) := by
  unfold b_M_markNone_2 at hf
  rcases Classical.em ((nI 160) ≤ y1) with c1 | c1
  · rw [if_pos c1] at hf
    cases (Option.some.inj hf)
    exact (Keep.refl W_M_markNone _)
  · rw [if_neg c1] at hf
    obtain ⟨g2, hf⟩ := gd_some hf
    obtain ⟨a3, e4, hf⟩ := dr_some hf
    obtain ⟨g5, hf⟩ := gd_some hf
    obtain ⟨g6, hf⟩ := gd_some hf
    obtain ⟨h7, eh8, hf⟩ := nm_some hf
    have K9 := (Keep.refl W_M_markNone _).trans (kw_I eh8 (isK_eq g5) (Or.inr (by decide)))
    cases (Option.some.inj hf)
    exact K9
def l_M_markNone_2 (y0 : Nat) (s : Int32 × Hp) : Option (Hp) := lp (fun s => b_M_markNone_2 y0 s.1 s.2) FU s
theorem zzl_M_markNone_2 {l : Launch} {C : Ct} {mi : Nat} {y0 : Nat} {h' : Hp} : ∀ (n : Nat) (s : Int32 × Hp) (x : (Hp)), lp (fun s : Int32 × Hp => b_M_markNone_2 y0 s.1 s.2) n s = some x → Z l C mi m_M_markNone 0 22 [] [] x none h' → Z l C mi m_M_markNone 0 2 [(0, vr (some y0)), (1, vi s.1)] [] s.2 none h' := by
  intro n
  induction n with
  | zero => intro s x hl; cases hl
  | succ n ih =>
    intro s x hl ke
    rcases lp_some hl with ⟨s2, hb, hl2⟩ | hb
    · exact zb_M_markNone_2 hb (fun s3 e3 => by cases e3; refine z_ls [0, 1] rfl ?_; exact ih s2 x hl2 ke) (fun x e3 => by cases e3)
    · exact zb_M_markNone_2 hb (fun s3 e3 => by cases e3) (fun x e3 => by cases e3; exact ke)
theorem zl_M_markNone_2 {l : Launch} {C : Ct} {mi : Nat} {y0 : Nat} {h' : Hp} {s : Int32 × Hp} {x : (Hp)} (hl : l_M_markNone_2 y0 s = some x) (ke : Z l C mi m_M_markNone 0 22 [] [] x none h') : Z l C mi m_M_markNone 0 2 [(0, vr (some y0)), (1, vi s.1)] [] s.2 none h' := zzl_M_markNone_2 FU s x hl ke
theorem kl_M_markNone_2 {C : Ct} {mi : Nat} {y0 : Nat} {s : Int32 × Hp} {q : (Hp)} (hl : l_M_markNone_2 y0 s = some q) : Keep W_M_markNone s.2 ((fun x : Hp => x) q) := lpk (sh := (fun s : Int32 × Hp => s.2)) (rh := (fun x : Hp => x)) (fun s q hb => kb_M_markNone_2 (C := C) (mi := mi) hb) FU s q hl
def f_M_markNone (a0 : Nat) (h : Hp) : Option Hp :=
  bd (l_M_markNone_2 a0 ((0 : Int32), h)) fun x10 => some x10
set_option maxRecDepth 100000 in
set_option maxHeartbeats 4000000 in
theorem zf_M_markNone {l : Launch} {C : Ct} {mi : Nat} {a0 : Nat} {h h' : Hp} (hf : f_M_markNone a0 h = some h') : Z l C mi m_M_markNone 0 0 [(0, vr (some a0))] [] h none h' := by
  unfold f_M_markNone at hf
  refine z_iconst (v := (0 : Int32)) d_M_markNone_0 (by decide) ?_
  refine z_istore_n (ls2 := [(1, vi (0 : Int32)), (0, vr (some a0))]) d_M_markNone_1 rfl (by decide) rfl ?_
  obtain ⟨x10, el11, hf⟩ := bd_some hf
  refine z_ls [1, 0] rfl ?_
  refine zl_M_markNone_2 el11 ?_
  cases (Option.some.inj hf)
  exact z_ret d_M_markNone_22 rfl
set_option maxRecDepth 100000 in
set_option maxHeartbeats 4000000 in
theorem fr_M_markNone {C : Ct} {mi : Nat} {a0 : Nat} {h h' : Hp} (hf : f_M_markNone a0 h = some h') : Keep W_M_markNone h h' := by
  unfold f_M_markNone at hf
  obtain ⟨x10, el11, hf⟩ := bd_some hf
  have K12 := (Keep.refl W_M_markNone _).trans (kl_M_markNone_2 (C := C) (mi := mi) el11)
  cases (Option.some.inj hf)
  exact K12
theorem c_M_markNone {l : Launch} {C : Ct} {mi : Nat} {a0 : Nat} {h h' : Hp} (hf : f_M_markNone a0 h = some h') : Mt l C mi m_M_markNone 0 [vr (some a0)] h none h' := mt_V rfl rfl (by decide) (Nat.le_of_ble_eq_true rfl) (zf_M_markNone hf)
-- VersionMapsModel.mark(I)V
def m_M_mark : Mi := (⟨"VersionMapsModel", "mark", "(I)V"⟩, prog_11_method_7_code, 7, (Option.none : Option Jvm.ClassFile.FieldType), .return_)
theorem cw_M_mark : cw_ok m_M_mark 1 := ⟨by decide +kernel, by decide +kernel, by decide +kernel, by decide +kernel⟩
theorem im_M_mark : Cond.instanceMethod m_M_mark.1 ∈ lw_w := by decide +kernel
theorem se_M_mark : Cond.selects "VersionMapsModel" m_M_mark.1 m_M_mark.1 ∈ lw_w := by decide +kernel
theorem d_M_mark_0 : decode prog_11_method_7_code 0 = .ok (.aload_n 0, 1) := by decide +kernel
theorem d_M_mark_1 : decode prog_11_method_7_code 1 = .ok (.iload_n 1, 1) := by decide +kernel
theorem d_M_mark_2 : decode prog_11_method_7_code 2 = .ok (.invokevirtual 108, 3) := by decide +kernel
theorem d_M_mark_5 : decode prog_11_method_7_code 5 = .ok (.istore_n 2, 1) := by decide +kernel
theorem d_M_mark_6 : decode prog_11_method_7_code 6 = .ok (.iload_n 2, 1) := by decide +kernel
theorem d_M_mark_7 : decode prog_11_method_7_code 7 = .ok (.ifCond .ge 4, 3) := by decide +kernel
theorem d_M_mark_10 : decode prog_11_method_7_code 10 = .ok (.return_, 1) := by decide +kernel
theorem d_M_mark_11 : decode prog_11_method_7_code 11 = .ok (.aload_n 0, 1) := by decide +kernel
theorem d_M_mark_12 : decode prog_11_method_7_code 12 = .ok (.getfield 47, 3) := by decide +kernel
theorem d_M_mark_15 : decode prog_11_method_7_code 15 = .ok (.iload_n 2, 1) := by decide +kernel
theorem d_M_mark_16 : decode prog_11_method_7_code 16 = .ok (.iconst 1, 1) := by decide +kernel
theorem d_M_mark_17 : decode prog_11_method_7_code 17 = .ok (.bastore, 1) := by decide +kernel
theorem d_M_mark_18 : decode prog_11_method_7_code 18 = .ok (.iconst 0, 1) := by decide +kernel
theorem d_M_mark_19 : decode prog_11_method_7_code 19 = .ok (.istore_n 3, 1) := by decide +kernel
theorem d_M_mark_20 : decode prog_11_method_7_code 20 = .ok (.iload_n 3, 1) := by decide +kernel
theorem d_M_mark_21 : decode prog_11_method_7_code 21 = .ok (.iconst 4, 1) := by decide +kernel
theorem d_M_mark_22 : decode prog_11_method_7_code 22 = .ok (.if_icmp .ge 87, 3) := by decide +kernel
theorem d_M_mark_25 : decode prog_11_method_7_code 25 = .ok (.aload_n 0, 1) := by decide +kernel
theorem d_M_mark_26 : decode prog_11_method_7_code 26 = .ok (.aload_n 0, 1) := by decide +kernel
theorem d_M_mark_27 : decode prog_11_method_7_code 27 = .ok (.getfield 44, 3) := by decide +kernel
theorem d_M_mark_30 : decode prog_11_method_7_code 30 = .ok (.iconst 4, 1) := by decide +kernel
theorem d_M_mark_31 : decode prog_11_method_7_code 31 = .ok (.iload_n 2, 1) := by decide +kernel
theorem d_M_mark_32 : decode prog_11_method_7_code 32 = .ok (.imul, 1) := by decide +kernel
theorem d_M_mark_33 : decode prog_11_method_7_code 33 = .ok (.iload_n 3, 1) := by decide +kernel
theorem d_M_mark_34 : decode prog_11_method_7_code 34 = .ok (.iadd, 1) := by decide +kernel
theorem d_M_mark_35 : decode prog_11_method_7_code 35 = .ok (.iaload, 1) := by decide +kernel
theorem d_M_mark_36 : decode prog_11_method_7_code 36 = .ok (.invokevirtual 108, 3) := by decide +kernel
theorem d_M_mark_39 : decode prog_11_method_7_code 39 = .ok (.istore 4, 2) := by decide +kernel
theorem d_M_mark_41 : decode prog_11_method_7_code 41 = .ok (.iload 4, 2) := by decide +kernel
theorem d_M_mark_43 : decode prog_11_method_7_code 43 = .ok (.ifCond .ge 6, 3) := by decide +kernel
theorem d_M_mark_46 : decode prog_11_method_7_code 46 = .ok (.goto 57, 3) := by decide +kernel
theorem d_M_mark_49 : decode prog_11_method_7_code 49 = .ok (.aload_n 0, 1) := by decide +kernel
theorem d_M_mark_50 : decode prog_11_method_7_code 50 = .ok (.getfield 47, 3) := by decide +kernel
theorem d_M_mark_53 : decode prog_11_method_7_code 53 = .ok (.iload 4, 2) := by decide +kernel
theorem d_M_mark_55 : decode prog_11_method_7_code 55 = .ok (.iconst 1, 1) := by decide +kernel
theorem d_M_mark_56 : decode prog_11_method_7_code 56 = .ok (.bastore, 1) := by decide +kernel
theorem d_M_mark_57 : decode prog_11_method_7_code 57 = .ok (.iconst 0, 1) := by decide +kernel
theorem d_M_mark_58 : decode prog_11_method_7_code 58 = .ok (.istore 5, 2) := by decide +kernel
theorem d_M_mark_60 : decode prog_11_method_7_code 60 = .ok (.iload 5, 2) := by decide +kernel
theorem d_M_mark_62 : decode prog_11_method_7_code 62 = .ok (.iconst 4, 1) := by decide +kernel
theorem d_M_mark_63 : decode prog_11_method_7_code 63 = .ok (.if_icmp .ge 40, 3) := by decide +kernel
theorem d_M_mark_66 : decode prog_11_method_7_code 66 = .ok (.aload_n 0, 1) := by decide +kernel
theorem d_M_mark_67 : decode prog_11_method_7_code 67 = .ok (.aload_n 0, 1) := by decide +kernel
theorem d_M_mark_68 : decode prog_11_method_7_code 68 = .ok (.getfield 44, 3) := by decide +kernel
theorem d_M_mark_71 : decode prog_11_method_7_code 71 = .ok (.iconst 4, 1) := by decide +kernel
theorem d_M_mark_72 : decode prog_11_method_7_code 72 = .ok (.iload 4, 2) := by decide +kernel
theorem d_M_mark_74 : decode prog_11_method_7_code 74 = .ok (.imul, 1) := by decide +kernel
theorem d_M_mark_75 : decode prog_11_method_7_code 75 = .ok (.iload 5, 2) := by decide +kernel
theorem d_M_mark_77 : decode prog_11_method_7_code 77 = .ok (.iadd, 1) := by decide +kernel
theorem d_M_mark_78 : decode prog_11_method_7_code 78 = .ok (.iaload, 1) := by decide +kernel
theorem d_M_mark_79 : decode prog_11_method_7_code 79 = .ok (.invokevirtual 108, 3) := by decide +kernel
theorem d_M_mark_82 : decode prog_11_method_7_code 82 = .ok (.istore 6, 2) := by decide +kernel
theorem d_M_mark_84 : decode prog_11_method_7_code 84 = .ok (.iload 6, 2) := by decide +kernel
theorem d_M_mark_86 : decode prog_11_method_7_code 86 = .ok (.ifCond .lt 11, 3) := by decide +kernel
theorem d_M_mark_89 : decode prog_11_method_7_code 89 = .ok (.aload_n 0, 1) := by decide +kernel
theorem d_M_mark_90 : decode prog_11_method_7_code 90 = .ok (.getfield 47, 3) := by decide +kernel
theorem d_M_mark_93 : decode prog_11_method_7_code 93 = .ok (.iload 6, 2) := by decide +kernel
theorem d_M_mark_95 : decode prog_11_method_7_code 95 = .ok (.iconst 1, 1) := by decide +kernel
theorem d_M_mark_96 : decode prog_11_method_7_code 96 = .ok (.bastore, 1) := by decide +kernel
theorem d_M_mark_97 : decode prog_11_method_7_code 97 = .ok (.iinc 5 1, 3) := by decide +kernel
theorem d_M_mark_100 : decode prog_11_method_7_code 100 = .ok (.goto (-40), 3) := by decide +kernel
theorem d_M_mark_103 : decode prog_11_method_7_code 103 = .ok (.iinc 3 1, 3) := by decide +kernel
theorem d_M_mark_106 : decode prog_11_method_7_code 106 = .ok (.goto (-86), 3) := by decide +kernel
theorem d_M_mark_109 : decode prog_11_method_7_code 109 = .ok (.return_, 1) := by decide +kernel
def W_M_mark : Wl := ([], [87])
def b_M_mark_60 (y0 : Nat) (y2 : Int32) (y3 : Int32) (y4 : Int32) (y5 : Int32) (h : Hp) : Option ((Int32 × Hp) ⊕ (Hp)) :=
  if (nI 4) ≤ y5 then (some (.inr h)) else (gd (isK h y0 8) (dr (hpR h y0 11) fun a36 => gd (isK h a36 86) (gd (inb (((nI 4) * y4) + y5) (hpL h a36)) (cl (f_M_page y0 (hpI h a36 (((nI 4) * y4) + y5).toNatClampNeg) h) fun v42 h40 => if v42 < 0 then (some (.inl ((y5 + (1 : Int32)), h40))) else (gd (isK h40 y0 8) (dr (hpR h40 y0 12) fun a46 => gd (isK h40 a46 87) (gd (inb v42 (hpL h40 a46)) (nm (wI h40 a46 v42.toNatClampNeg (vp_nar .boolean (1 : Int32))) fun h50 => some (.inl ((y5 + (1 : Int32)), h50))))))))))
set_option maxRecDepth 100000 in
set_option maxHeartbeats 4000000 in
theorem zb_M_mark_60 {l : Launch} {C : Ct} {mi : Nat} {y0 : Nat} {y2 : Int32} {y3 : Int32} {y4 : Int32} {y5 : Int32} {h h' : Hp} {q : ((Int32 × Hp) ⊕ (Hp))} (hf : b_M_mark_60 y0 y2 y3 y4 y5 h = some q) (kc : ∀ s, q = .inl s → Z l C mi m_M_mark 1 60 [(0, vr (some y0)), (2, vi y2), (3, vi y3), (4, vi y4), (5, vi s.1)] [] s.2 none h') (ke : ∀ x, q = .inr x → Z l C mi m_M_mark 1 103 [(0, vr (some y0)), (2, vi y2), (3, vi y3)] [] x none h') : Z l C mi m_M_mark 1 60 [(0, vr (some y0)), (2, vi y2), (3, vi y3), (4, vi y4), (5, vi y5)] [] h none h' := by
  unfold b_M_mark_60 at hf
  refine z_iload 4 d_M_mark_60 rfl ?_
  refine z_iconst (v := (nI 4)) d_M_mark_62 (by decide) ?_
  refine z_icmp_ge (tgt := 103) d_M_mark_63 (by decide) (fun c34 => ?_) (fun c34 => ?_)
  · rw [if_pos c34] at hf
    refine z_ls [0, 1, 2] rfl ?_
    exact ke h (Option.some.inj hf).symm
  · rw [if_neg c34] at hf
    refine z_aload_n 0 d_M_mark_66 rfl rfl ?_
    refine z_aload_n 0 d_M_mark_67 rfl rfl ?_
    obtain ⟨g35, hf⟩ := gd_some hf
    refine z_getR d_M_mark_68 (fl_K (isK_eq g35) fl_M_44_8) (fi_K (isK_eq g35) rfl) rfl ?_
    refine z_iconst (v := (nI 4)) d_M_mark_71 (by decide) ?_
    refine z_iload 3 d_M_mark_72 rfl ?_
    refine z_imul d_M_mark_74 ?_
    refine z_iload 4 d_M_mark_75 rfl ?_
    refine z_iadd d_M_mark_77 ?_
    obtain ⟨a36, e37, hf⟩ := dr_some hf
    obtain ⟨g38, hf⟩ := gd_some hf
    obtain ⟨g39, hf⟩ := gd_some hf
    refine z_iald d_M_mark_78 e37 (by rw [isK_eq g38]; decide) (by rw [isK_eq g38]; rfl) (inb_vp g39) ?_
    obtain ⟨v42, h40, ec41, hf⟩ := cl_some hf
    refine z_callVx rfl (c_M_page ec41) d_M_mark_79 cw_M_page lk_M_108 im_M_page se_M_page (kc_K (isK_eq g35) kc_8) ⟨by decide, by decide⟩ (Nat.le_of_ble_eq_true rfl) rfl ?_
    refine z_istore (ls2 := [(6, vi v42), (0, vr (some y0)), (2, vi y2), (3, vi y3), (4, vi y4), (5, vi y5)]) d_M_mark_82 (by decide) rfl ?_
    refine z_iload 0 d_M_mark_84 rfl ?_
    refine z_if_lt (tgt := 97) d_M_mark_86 (by decide) (fun c44 => ?_) (fun c44 => ?_)
    · rw [if_pos c44] at hf
      refine z_iinc (ls2 := [(5, vi (y5 + (1 : Int32))), (6, vi v42), (0, vr (some y0)), (2, vi y2), (3, vi y3), (4, vi y4)]) 5 d_M_mark_97 rfl rfl (by decide) rfl ?_
      refine z_goto (tgt := 60) d_M_mark_100 (by decide) ?_
      refine z_ls [2, 3, 4, 5, 0] rfl ?_
      exact kc ((y5 + (1 : Int32)), h40) (Option.some.inj hf).symm
    · rw [if_neg c44] at hf
      refine z_aload_n 1 d_M_mark_89 rfl rfl ?_
      obtain ⟨g45, hf⟩ := gd_some hf
      refine z_getR d_M_mark_90 (fl_K (isK_eq g45) fl_M_47_8) (fi_K (isK_eq g45) rfl) rfl ?_
      refine z_iload 0 d_M_mark_93 rfl ?_
      refine z_iconst (v := (1 : Int32)) d_M_mark_95 (by decide) ?_
      obtain ⟨a46, e47, hf⟩ := dr_some hf
      obtain ⟨g48, hf⟩ := gd_some hf
      obtain ⟨g49, hf⟩ := gd_some hf
      obtain ⟨h50, eh51, hf⟩ := nm_some hf
      refine z_zast d_M_mark_96 e47 (by rw [isK_eq g48]; decide) (by rw [isK_eq g48]; rfl) (inb_vp g49) ?_
      refine z_hp eh51 ?_
      refine z_iinc (ls2 := [(5, vi (y5 + (1 : Int32))), (6, vi v42), (0, vr (some y0)), (2, vi y2), (3, vi y3), (4, vi y4)]) 5 d_M_mark_97 rfl rfl (by decide) rfl ?_
      refine z_goto (tgt := 60) d_M_mark_100 (by decide) ?_
      refine z_ls [2, 3, 4, 5, 0] rfl ?_
      exact kc ((y5 + (1 : Int32)), h50) (Option.some.inj hf).symm
set_option maxRecDepth 100000 in
set_option maxHeartbeats 4000000 in
theorem kb_M_mark_60 {C : Ct} {mi : Nat} {y0 : Nat} {y2 : Int32} {y3 : Int32} {y4 : Int32} {y5 : Int32} {h : Hp} {q : ((Int32 × Hp) ⊕ (Hp))} (hf : b_M_mark_60 y0 y2 y3 y4 y5 h = some q) : Keep W_M_mark h (Sum.elim (fun s : Int32 × Hp => s.2) (fun x : Hp => x) q) := by
  unfold b_M_mark_60 at hf
  rcases Classical.em ((nI 4) ≤ y5) with c34 | c34
  · rw [if_pos c34] at hf
    cases (Option.some.inj hf)
    exact (Keep.refl W_M_mark _)
  · rw [if_neg c34] at hf
    obtain ⟨g35, hf⟩ := gd_some hf
    obtain ⟨a36, e37, hf⟩ := dr_some hf
    obtain ⟨g38, hf⟩ := gd_some hf
    obtain ⟨g39, hf⟩ := gd_some hf
    obtain ⟨v42, h40, ec41, hf⟩ := cl_some hf
    have K43 := (Keep.refl W_M_mark _).trans ((fr_M_page (C := C) (mi := mi) ec41).mono (by decide) (by decide))
    rcases Classical.em (v42 < 0) with c44 | c44
    · rw [if_pos c44] at hf
      cases (Option.some.inj hf)
      exact K43
    · rw [if_neg c44] at hf
      obtain ⟨g45, hf⟩ := gd_some hf
      obtain ⟨a46, e47, hf⟩ := dr_some hf
      obtain ⟨g48, hf⟩ := gd_some hf
      obtain ⟨g49, hf⟩ := gd_some hf
      obtain ⟨h50, eh51, hf⟩ := nm_some hf
      have K52 := K43.trans (kw_I eh51 (isK_eq g48) (Or.inr (by decide)))
      cases (Option.some.inj hf)
      exact K52
def l_M_mark_60 (y0 : Nat) (y2 : Int32) (y3 : Int32) (y4 : Int32) (s : Int32 × Hp) : Option (Hp) := lp (fun s => b_M_mark_60 y0 y2 y3 y4 s.1 s.2) FU s
theorem zzl_M_mark_60 {l : Launch} {C : Ct} {mi : Nat} {y0 : Nat} {y2 : Int32} {y3 : Int32} {y4 : Int32} {h' : Hp} : ∀ (n : Nat) (s : Int32 × Hp) (x : (Hp)), lp (fun s : Int32 × Hp => b_M_mark_60 y0 y2 y3 y4 s.1 s.2) n s = some x → Z l C mi m_M_mark 1 103 [(0, vr (some y0)), (2, vi y2), (3, vi y3)] [] x none h' → Z l C mi m_M_mark 1 60 [(0, vr (some y0)), (2, vi y2), (3, vi y3), (4, vi y4), (5, vi s.1)] [] s.2 none h' := by
  intro n
  induction n with
  | zero => intro s x hl; cases hl
  | succ n ih =>
    intro s x hl ke
    rcases lp_some hl with ⟨s2, hb, hl2⟩ | hb
    · exact zb_M_mark_60 hb (fun s3 e3 => by cases e3; refine z_ls [0, 1, 2, 3, 4] rfl ?_; exact ih s2 x hl2 ke) (fun x e3 => by cases e3)
    · exact zb_M_mark_60 hb (fun s3 e3 => by cases e3) (fun x e3 => by cases e3; exact ke)
theorem zl_M_mark_60 {l : Launch} {C : Ct} {mi : Nat} {y0 : Nat} {y2 : Int32} {y3 : Int32} {y4 : Int32} {h' : Hp} {s : Int32 × Hp} {x : (Hp)} (hl : l_M_mark_60 y0 y2 y3 y4 s = some x) (ke : Z l C mi m_M_mark 1 103 [(0, vr (some y0)), (2, vi y2), (3, vi y3)] [] x none h') : Z l C mi m_M_mark 1 60 [(0, vr (some y0)), (2, vi y2), (3, vi y3), (4, vi y4), (5, vi s.1)] [] s.2 none h' := zzl_M_mark_60 FU s x hl ke
theorem kl_M_mark_60 {C : Ct} {mi : Nat} {y0 : Nat} {y2 : Int32} {y3 : Int32} {y4 : Int32} {s : Int32 × Hp} {q : (Hp)} (hl : l_M_mark_60 y0 y2 y3 y4 s = some q) : Keep W_M_mark s.2 ((fun x : Hp => x) q) := lpk (sh := (fun s : Int32 × Hp => s.2)) (rh := (fun x : Hp => x)) (fun s q hb => kb_M_mark_60 (C := C) (mi := mi) hb) FU s q hl
def b_M_mark_20 (y0 : Nat) (y2 : Int32) (y3 : Int32) (h : Hp) : Option ((Int32 × Hp) ⊕ (Hp)) :=
  if (nI 4) ≤ y3 then (some (.inr h)) else (gd (isK h y0 8) (dr (hpR h y0 11) fun a17 => gd (isK h a17 86) (gd (inb (((nI 4) * y2) + y3) (hpL h a17)) (cl (f_M_page y0 (hpI h a17 (((nI 4) * y2) + y3).toNatClampNeg) h) fun v23 h21 => if 0 ≤ v23 then (gd (isK h21 y0 8) (dr (hpR h21 y0 12) fun a27 => gd (isK h21 a27 87) (gd (inb v23 (hpL h21 a27)) (nm (wI h21 a27 v23.toNatClampNeg (vp_nar .boolean (1 : Int32))) fun h31 => bd (l_M_mark_60 y0 y2 y3 v23 ((0 : Int32), h31)) fun x53 => some (.inl ((y3 + (1 : Int32)), x53)))))) else (some (.inl ((y3 + (1 : Int32)), h21)))))))
set_option maxRecDepth 100000 in
set_option maxHeartbeats 4000000 in
theorem zb_M_mark_20 {l : Launch} {C : Ct} {mi : Nat} {y0 : Nat} {y2 : Int32} {y3 : Int32} {h h' : Hp} {q : ((Int32 × Hp) ⊕ (Hp))} (hf : b_M_mark_20 y0 y2 y3 h = some q) (kc : ∀ s, q = .inl s → Z l C mi m_M_mark 1 20 [(0, vr (some y0)), (2, vi y2), (3, vi s.1)] [] s.2 none h') (ke : ∀ x, q = .inr x → Z l C mi m_M_mark 1 109 [] [] x none h') : Z l C mi m_M_mark 1 20 [(0, vr (some y0)), (2, vi y2), (3, vi y3)] [] h none h' := by
  unfold b_M_mark_20 at hf
  refine z_iload_n 2 d_M_mark_20 rfl rfl ?_
  refine z_iconst (v := (nI 4)) d_M_mark_21 (by decide) ?_
  refine z_icmp_ge (tgt := 109) d_M_mark_22 (by decide) (fun c15 => ?_) (fun c15 => ?_)
  · rw [if_pos c15] at hf
    refine z_ls [] rfl ?_
    exact ke h (Option.some.inj hf).symm
  · rw [if_neg c15] at hf
    refine z_aload_n 0 d_M_mark_25 rfl rfl ?_
    refine z_aload_n 0 d_M_mark_26 rfl rfl ?_
    obtain ⟨g16, hf⟩ := gd_some hf
    refine z_getR d_M_mark_27 (fl_K (isK_eq g16) fl_M_44_8) (fi_K (isK_eq g16) rfl) rfl ?_
    refine z_iconst (v := (nI 4)) d_M_mark_30 (by decide) ?_
    refine z_iload_n 1 d_M_mark_31 rfl rfl ?_
    refine z_imul d_M_mark_32 ?_
    refine z_iload_n 2 d_M_mark_33 rfl rfl ?_
    refine z_iadd d_M_mark_34 ?_
    obtain ⟨a17, e18, hf⟩ := dr_some hf
    obtain ⟨g19, hf⟩ := gd_some hf
    obtain ⟨g20, hf⟩ := gd_some hf
    refine z_iald d_M_mark_35 e18 (by rw [isK_eq g19]; decide) (by rw [isK_eq g19]; rfl) (inb_vp g20) ?_
    obtain ⟨v23, h21, ec22, hf⟩ := cl_some hf
    refine z_callVx rfl (c_M_page ec22) d_M_mark_36 cw_M_page lk_M_108 im_M_page se_M_page (kc_K (isK_eq g16) kc_8) ⟨by decide, by decide⟩ (Nat.le_of_ble_eq_true rfl) rfl ?_
    refine z_istore (ls2 := [(4, vi v23), (0, vr (some y0)), (2, vi y2), (3, vi y3)]) d_M_mark_39 (by decide) rfl ?_
    refine z_iload 0 d_M_mark_41 rfl ?_
    refine z_if_ge (tgt := 49) d_M_mark_43 (by decide) (fun c25 => ?_) (fun c25 => ?_)
    · rw [if_pos c25] at hf
      refine z_aload_n 1 d_M_mark_49 rfl rfl ?_
      obtain ⟨g26, hf⟩ := gd_some hf
      refine z_getR d_M_mark_50 (fl_K (isK_eq g26) fl_M_47_8) (fi_K (isK_eq g26) rfl) rfl ?_
      refine z_iload 0 d_M_mark_53 rfl ?_
      refine z_iconst (v := (1 : Int32)) d_M_mark_55 (by decide) ?_
      obtain ⟨a27, e28, hf⟩ := dr_some hf
      obtain ⟨g29, hf⟩ := gd_some hf
      obtain ⟨g30, hf⟩ := gd_some hf
      obtain ⟨h31, eh32, hf⟩ := nm_some hf
      refine z_zast d_M_mark_56 e28 (by rw [isK_eq g29]; decide) (by rw [isK_eq g29]; rfl) (inb_vp g30) ?_
      refine z_hp eh32 ?_
      refine z_iconst (v := (0 : Int32)) d_M_mark_57 (by decide) ?_
      refine z_istore (ls2 := [(5, vi (0 : Int32)), (4, vi v23), (0, vr (some y0)), (2, vi y2), (3, vi y3)]) d_M_mark_58 (by decide) rfl ?_
      obtain ⟨x53, el54, hf⟩ := bd_some hf
      refine z_ls [2, 3, 4, 1, 0] rfl ?_
      refine zl_M_mark_60 el54 ?_
      refine z_iinc (ls2 := [(3, vi (y3 + (1 : Int32))), (0, vr (some y0)), (2, vi y2)]) 2 d_M_mark_103 rfl rfl (by decide) rfl ?_
      refine z_goto (tgt := 20) d_M_mark_106 (by decide) ?_
      refine z_ls [1, 2, 0] rfl ?_
      exact kc ((y3 + (1 : Int32)), x53) (Option.some.inj hf).symm
    · rw [if_neg c25] at hf
      refine z_goto (tgt := 103) d_M_mark_46 (by decide) ?_
      refine z_iinc (ls2 := [(3, vi (y3 + (1 : Int32))), (4, vi v23), (0, vr (some y0)), (2, vi y2)]) 3 d_M_mark_103 rfl rfl (by decide) rfl ?_
      refine z_goto (tgt := 20) d_M_mark_106 (by decide) ?_
      refine z_ls [2, 3, 0] rfl ?_
      exact kc ((y3 + (1 : Int32)), h21) (Option.some.inj hf).symm
set_option maxRecDepth 100000 in
set_option maxHeartbeats 4000000 in
theorem kb_M_mark_20 {C : Ct} {mi : Nat} {y0 : Nat} {y2 : Int32} {y3 : Int32} {h : Hp} {q : ((Int32 × Hp) ⊕ (Hp))} (hf : b_M_mark_20 y0 y2 y3 h = some q) : Keep W_M_mark h (Sum.elim (fun s : Int32 × Hp => s.2) (fun x : Hp => x) q) := by
  unfold b_M_mark_20 at hf
  rcases Classical.em ((nI 4) ≤ y3) with c15 | c15
  · rw [if_pos c15] at hf
    cases (Option.some.inj hf)
    exact (Keep.refl W_M_mark _)
  · rw [if_neg c15] at hf
    obtain ⟨g16, hf⟩ := gd_some hf
    obtain ⟨a17, e18, hf⟩ := dr_some hf
    obtain ⟨g19, hf⟩ := gd_some hf
    obtain ⟨g20, hf⟩ := gd_some hf
    obtain ⟨v23, h21, ec22, hf⟩ := cl_some hf
    have K24 := (Keep.refl W_M_mark _).trans ((fr_M_page (C := C) (mi := mi) ec22).mono (by decide) (by decide))
    rcases Classical.em (0 ≤ v23) with c25 | c25
    · rw [if_pos c25] at hf
      obtain ⟨g26, hf⟩ := gd_some hf
      obtain ⟨a27, e28, hf⟩ := dr_some hf
      obtain ⟨g29, hf⟩ := gd_some hf
      obtain ⟨g30, hf⟩ := gd_some hf
      obtain ⟨h31, eh32, hf⟩ := nm_some hf
      have K33 := K24.trans (kw_I eh32 (isK_eq g29) (Or.inr (by decide)))
      obtain ⟨x53, el54, hf⟩ := bd_some hf
      have K55 := K33.trans (kl_M_mark_60 (C := C) (mi := mi) el54)
      cases (Option.some.inj hf)
      exact K55
    · rw [if_neg c25] at hf
      cases (Option.some.inj hf)
      exact K24
def l_M_mark_20 (y0 : Nat) (y2 : Int32) (s : Int32 × Hp) : Option (Hp) := lp (fun s => b_M_mark_20 y0 y2 s.1 s.2) FU s
theorem zzl_M_mark_20 {l : Launch} {C : Ct} {mi : Nat} {y0 : Nat} {y2 : Int32} {h' : Hp} : ∀ (n : Nat) (s : Int32 × Hp) (x : (Hp)), lp (fun s : Int32 × Hp => b_M_mark_20 y0 y2 s.1 s.2) n s = some x → Z l C mi m_M_mark 1 109 [] [] x none h' → Z l C mi m_M_mark 1 20 [(0, vr (some y0)), (2, vi y2), (3, vi s.1)] [] s.2 none h' := by
  intro n
  induction n with
  | zero => intro s x hl; cases hl
  | succ n ih =>
    intro s x hl ke
    rcases lp_some hl with ⟨s2, hb, hl2⟩ | hb
    · exact zb_M_mark_20 hb (fun s3 e3 => by cases e3; refine z_ls [0, 1, 2] rfl ?_; exact ih s2 x hl2 ke) (fun x e3 => by cases e3)
    · exact zb_M_mark_20 hb (fun s3 e3 => by cases e3) (fun x e3 => by cases e3; exact ke)
theorem zl_M_mark_20 {l : Launch} {C : Ct} {mi : Nat} {y0 : Nat} {y2 : Int32} {h' : Hp} {s : Int32 × Hp} {x : (Hp)} (hl : l_M_mark_20 y0 y2 s = some x) (ke : Z l C mi m_M_mark 1 109 [] [] x none h') : Z l C mi m_M_mark 1 20 [(0, vr (some y0)), (2, vi y2), (3, vi s.1)] [] s.2 none h' := zzl_M_mark_20 FU s x hl ke
theorem kl_M_mark_20 {C : Ct} {mi : Nat} {y0 : Nat} {y2 : Int32} {s : Int32 × Hp} {q : (Hp)} (hl : l_M_mark_20 y0 y2 s = some q) : Keep W_M_mark s.2 ((fun x : Hp => x) q) := lpk (sh := (fun s : Int32 × Hp => s.2)) (rh := (fun x : Hp => x)) (fun s q hb => kb_M_mark_20 (C := C) (mi := mi) hb) FU s q hl
def f_M_mark (a0 : Nat) (p1 : Int32) (h : Hp) : Option Hp :=
  gd (isK h a0 8) (cl (f_M_page a0 p1 h) fun v4 h2 => if 0 ≤ v4 then (gd (isK h2 a0 8) (dr (hpR h2 a0 12) fun a8 => gd (isK h2 a8 87) (gd (inb v4 (hpL h2 a8)) (nm (wI h2 a8 v4.toNatClampNeg (vp_nar .boolean (1 : Int32))) fun h12 => bd (l_M_mark_20 a0 v4 ((0 : Int32), h12)) fun x56 => some x56)))) else (some h2))
set_option maxRecDepth 100000 in
set_option maxHeartbeats 4000000 in
theorem zf_M_mark {l : Launch} {C : Ct} {mi : Nat} {a0 : Nat} {p1 : Int32} {h h' : Hp} (hf : f_M_mark a0 p1 h = some h') : Z l C mi m_M_mark 1 0 [(0, vr (some a0)), (1, vi p1)] [] h none h' := by
  unfold f_M_mark at hf
  refine z_aload_n 0 d_M_mark_0 rfl rfl ?_
  refine z_iload_n 1 d_M_mark_1 rfl rfl ?_
  obtain ⟨g1, hf⟩ := gd_some hf
  obtain ⟨v4, h2, ec3, hf⟩ := cl_some hf
  refine z_callVx rfl (c_M_page ec3) d_M_mark_2 cw_M_page lk_M_108 im_M_page se_M_page (kc_K (isK_eq g1) kc_8) ⟨by decide, by decide⟩ (Nat.le_of_ble_eq_true rfl) rfl ?_
  refine z_istore_n (ls2 := [(2, vi v4), (0, vr (some a0)), (1, vi p1)]) d_M_mark_5 rfl (by decide) rfl ?_
  refine z_iload_n 0 d_M_mark_6 rfl rfl ?_
  refine z_if_ge (tgt := 11) d_M_mark_7 (by decide) (fun c6 => ?_) (fun c6 => ?_)
  · rw [if_pos c6] at hf
    refine z_aload_n 1 d_M_mark_11 rfl rfl ?_
    obtain ⟨g7, hf⟩ := gd_some hf
    refine z_getR d_M_mark_12 (fl_K (isK_eq g7) fl_M_47_8) (fi_K (isK_eq g7) rfl) rfl ?_
    refine z_iload_n 0 d_M_mark_15 rfl rfl ?_
    refine z_iconst (v := (1 : Int32)) d_M_mark_16 (by decide) ?_
    obtain ⟨a8, e9, hf⟩ := dr_some hf
    obtain ⟨g10, hf⟩ := gd_some hf
    obtain ⟨g11, hf⟩ := gd_some hf
    obtain ⟨h12, eh13, hf⟩ := nm_some hf
    refine z_zast d_M_mark_17 e9 (by rw [isK_eq g10]; decide) (by rw [isK_eq g10]; rfl) (inb_vp g11) ?_
    refine z_hp eh13 ?_
    refine z_iconst (v := (0 : Int32)) d_M_mark_18 (by decide) ?_
    refine z_istore_n (ls2 := [(3, vi (0 : Int32)), (2, vi v4), (0, vr (some a0)), (1, vi p1)]) d_M_mark_19 rfl (by decide) rfl ?_
    obtain ⟨x56, el57, hf⟩ := bd_some hf
    refine z_ls [2, 1, 0] rfl ?_
    refine zl_M_mark_20 el57 ?_
    cases (Option.some.inj hf)
    exact z_ret d_M_mark_109 rfl
  · rw [if_neg c6] at hf
    cases (Option.some.inj hf)
    exact z_ret d_M_mark_10 rfl
set_option maxRecDepth 100000 in
set_option maxHeartbeats 4000000 in
theorem fr_M_mark {C : Ct} {mi : Nat} {a0 : Nat} {p1 : Int32} {h h' : Hp} (hf : f_M_mark a0 p1 h = some h') : Keep W_M_mark h h' := by
  unfold f_M_mark at hf
  obtain ⟨g1, hf⟩ := gd_some hf
  obtain ⟨v4, h2, ec3, hf⟩ := cl_some hf
  have K5 := (Keep.refl W_M_mark _).trans ((fr_M_page (C := C) (mi := mi) ec3).mono (by decide) (by decide))
  rcases Classical.em (0 ≤ v4) with c6 | c6
  · rw [if_pos c6] at hf
    obtain ⟨g7, hf⟩ := gd_some hf
    obtain ⟨a8, e9, hf⟩ := dr_some hf
    obtain ⟨g10, hf⟩ := gd_some hf
    obtain ⟨g11, hf⟩ := gd_some hf
    obtain ⟨h12, eh13, hf⟩ := nm_some hf
    have K14 := K5.trans (kw_I eh13 (isK_eq g10) (Or.inr (by decide)))
    obtain ⟨x56, el57, hf⟩ := bd_some hf
    have K58 := K14.trans (kl_M_mark_20 (C := C) (mi := mi) el57)
    cases (Option.some.inj hf)
    exact K58
  · rw [if_neg c6] at hf
    cases (Option.some.inj hf)
    exact K5
theorem c_M_mark {l : Launch} {C : Ct} {mi : Nat} {a0 : Nat} {p1 : Int32} {h h' : Hp} (hf : f_M_mark a0 p1 h = some h') : Mt l C mi m_M_mark 1 [vr (some a0), vi p1] h none h' := mt_V rfl rfl (by decide) (Nat.le_of_ble_eq_true rfl) (zf_M_mark hf)
-- VersionMapsModel.markKept()V
def m_M_markKept : Mi := (⟨"VersionMapsModel", "markKept", "()V"⟩, prog_11_method_9_code, 2, (Option.none : Option Jvm.ClassFile.FieldType), .return_)
theorem cw_M_markKept : cw_ok m_M_markKept 0 := ⟨by decide +kernel, by decide +kernel, by decide +kernel, by decide +kernel⟩
theorem im_M_markKept : Cond.instanceMethod m_M_markKept.1 ∈ lw_w := by decide +kernel
theorem se_M_markKept : Cond.selects "VersionMapsModel" m_M_markKept.1 m_M_markKept.1 ∈ lw_w := by decide +kernel
theorem d_M_markKept_0 : decode prog_11_method_9_code 0 = .ok (.aload_n 0, 1) := by decide +kernel
theorem d_M_markKept_1 : decode prog_11_method_9_code 1 = .ok (.invokevirtual 112, 3) := by decide +kernel
theorem d_M_markKept_4 : decode prog_11_method_9_code 4 = .ok (.iconst 0, 1) := by decide +kernel
theorem d_M_markKept_5 : decode prog_11_method_9_code 5 = .ok (.istore_n 1, 1) := by decide +kernel
theorem d_M_markKept_6 : decode prog_11_method_9_code 6 = .ok (.iload_n 1, 1) := by decide +kernel
theorem d_M_markKept_7 : decode prog_11_method_9_code 7 = .ok (.aload_n 0, 1) := by decide +kernel
theorem d_M_markKept_8 : decode prog_11_method_9_code 8 = .ok (.getfield 96, 3) := by decide +kernel
theorem d_M_markKept_11 : decode prog_11_method_9_code 11 = .ok (.if_icmp .ge 19, 3) := by decide +kernel
theorem d_M_markKept_14 : decode prog_11_method_9_code 14 = .ok (.aload_n 0, 1) := by decide +kernel
theorem d_M_markKept_15 : decode prog_11_method_9_code 15 = .ok (.aload_n 0, 1) := by decide +kernel
theorem d_M_markKept_16 : decode prog_11_method_9_code 16 = .ok (.getfield 93, 3) := by decide +kernel
theorem d_M_markKept_19 : decode prog_11_method_9_code 19 = .ok (.iload_n 1, 1) := by decide +kernel
theorem d_M_markKept_20 : decode prog_11_method_9_code 20 = .ok (.iaload, 1) := by decide +kernel
theorem d_M_markKept_21 : decode prog_11_method_9_code 21 = .ok (.invokevirtual 115, 3) := by decide +kernel
theorem d_M_markKept_24 : decode prog_11_method_9_code 24 = .ok (.iinc 1 1, 3) := by decide +kernel
theorem d_M_markKept_27 : decode prog_11_method_9_code 27 = .ok (.goto (-21), 3) := by decide +kernel
theorem d_M_markKept_30 : decode prog_11_method_9_code 30 = .ok (.return_, 1) := by decide +kernel
def W_M_markKept : Wl := ([], [87])
def b_M_markKept_6 (y0 : Nat) (y1 : Int32) (h : Hp) : Option ((Int32 × Hp) ⊕ (Hp)) :=
  gd (isK h y0 8) (if (hpI h y0 30) ≤ y1 then (some (.inr h)) else (dr (hpR h y0 29) fun a7 => gd (isK h a7 101) (gd (inb y1 (hpL h a7)) (cv (f_M_mark y0 (hpI h a7 y1.toNatClampNeg) h) fun h11 => some (.inl ((y1 + (1 : Int32)), h11))))))
set_option maxRecDepth 100000 in
set_option maxHeartbeats 4000000 in
theorem zb_M_markKept_6 {l : Launch} {C : Ct} {mi : Nat} {y0 : Nat} {y1 : Int32} {h h' : Hp} {q : ((Int32 × Hp) ⊕ (Hp))} (hf : b_M_markKept_6 y0 y1 h = some q) (kc : ∀ s, q = .inl s → Z l C mi m_M_markKept 2 6 [(0, vr (some y0)), (1, vi s.1)] [] s.2 none h') (ke : ∀ x, q = .inr x → Z l C mi m_M_markKept 2 30 [] [] x none h') : Z l C mi m_M_markKept 2 6 [(0, vr (some y0)), (1, vi y1)] [] h none h' := by
  unfold b_M_markKept_6 at hf
  refine z_iload_n 1 d_M_markKept_6 rfl rfl ?_
  refine z_aload_n 0 d_M_markKept_7 rfl rfl ?_
  obtain ⟨g5, hf⟩ := gd_some hf
  refine z_getI d_M_markKept_8 (fl_K (isK_eq g5) fl_M_96_8) (fi_K (isK_eq g5) rfl) rfl ?_
  refine z_icmp_ge (tgt := 30) d_M_markKept_11 (by decide) (fun c6 => ?_) (fun c6 => ?_)
  · rw [if_pos c6] at hf
    refine z_ls [] rfl ?_
    exact ke h (Option.some.inj hf).symm
  · rw [if_neg c6] at hf
    refine z_aload_n 0 d_M_markKept_14 rfl rfl ?_
    refine z_aload_n 0 d_M_markKept_15 rfl rfl ?_
    refine z_getR d_M_markKept_16 (fl_K (isK_eq g5) fl_M_93_8) (fi_K (isK_eq g5) rfl) rfl ?_
    refine z_iload_n 1 d_M_markKept_19 rfl rfl ?_
    obtain ⟨a7, e8, hf⟩ := dr_some hf
    obtain ⟨g9, hf⟩ := gd_some hf
    obtain ⟨g10, hf⟩ := gd_some hf
    refine z_iald d_M_markKept_20 e8 (by rw [isK_eq g9]; decide) (by rw [isK_eq g9]; rfl) (inb_vp g10) ?_
    obtain ⟨h11, ec12, hf⟩ := cv_some hf
    refine z_callVx rfl (c_M_mark ec12) d_M_markKept_21 cw_M_mark lk_M_115 im_M_mark se_M_mark (kc_K (isK_eq g5) kc_8) ⟨by decide, by decide⟩ (Nat.le_of_ble_eq_true rfl) rfl ?_
    refine z_iinc (ls2 := [(1, vi (y1 + (1 : Int32))), (0, vr (some y0))]) 1 d_M_markKept_24 rfl rfl (by decide) rfl ?_
    refine z_goto (tgt := 6) d_M_markKept_27 (by decide) ?_
    refine z_ls [1, 0] rfl ?_
    exact kc ((y1 + (1 : Int32)), h11) (Option.some.inj hf).symm
set_option maxRecDepth 100000 in
set_option maxHeartbeats 4000000 in
theorem kb_M_markKept_6 {C : Ct} {mi : Nat} {y0 : Nat} {y1 : Int32} {h : Hp} {q : ((Int32 × Hp) ⊕ (Hp))} (hf : b_M_markKept_6 y0 y1 h = some q) : Keep W_M_markKept h (Sum.elim (fun s : Int32 × Hp => s.2) (fun x : Hp => x) q) := by
  unfold b_M_markKept_6 at hf
  obtain ⟨g5, hf⟩ := gd_some hf
  rcases Classical.em ((hpI h y0 30) ≤ y1) with c6 | c6
  · rw [if_pos c6] at hf
    cases (Option.some.inj hf)
    exact (Keep.refl W_M_markKept _)
  · rw [if_neg c6] at hf
    obtain ⟨a7, e8, hf⟩ := dr_some hf
    obtain ⟨g9, hf⟩ := gd_some hf
    obtain ⟨g10, hf⟩ := gd_some hf
    obtain ⟨h11, ec12, hf⟩ := cv_some hf
    have K13 := (Keep.refl W_M_markKept _).trans ((fr_M_mark (C := C) (mi := mi) ec12).mono (by decide) (by decide))
    cases (Option.some.inj hf)
    exact K13
def l_M_markKept_6 (y0 : Nat) (s : Int32 × Hp) : Option (Hp) := lp (fun s => b_M_markKept_6 y0 s.1 s.2) FU s
theorem zzl_M_markKept_6 {l : Launch} {C : Ct} {mi : Nat} {y0 : Nat} {h' : Hp} : ∀ (n : Nat) (s : Int32 × Hp) (x : (Hp)), lp (fun s : Int32 × Hp => b_M_markKept_6 y0 s.1 s.2) n s = some x → Z l C mi m_M_markKept 2 30 [] [] x none h' → Z l C mi m_M_markKept 2 6 [(0, vr (some y0)), (1, vi s.1)] [] s.2 none h' := by
  intro n
  induction n with
  | zero => intro s x hl; cases hl
  | succ n ih =>
    intro s x hl ke
    rcases lp_some hl with ⟨s2, hb, hl2⟩ | hb
    · exact zb_M_markKept_6 hb (fun s3 e3 => by cases e3; refine z_ls [0, 1] rfl ?_; exact ih s2 x hl2 ke) (fun x e3 => by cases e3)
    · exact zb_M_markKept_6 hb (fun s3 e3 => by cases e3) (fun x e3 => by cases e3; exact ke)
theorem zl_M_markKept_6 {l : Launch} {C : Ct} {mi : Nat} {y0 : Nat} {h' : Hp} {s : Int32 × Hp} {x : (Hp)} (hl : l_M_markKept_6 y0 s = some x) (ke : Z l C mi m_M_markKept 2 30 [] [] x none h') : Z l C mi m_M_markKept 2 6 [(0, vr (some y0)), (1, vi s.1)] [] s.2 none h' := zzl_M_markKept_6 FU s x hl ke
theorem kl_M_markKept_6 {C : Ct} {mi : Nat} {y0 : Nat} {s : Int32 × Hp} {q : (Hp)} (hl : l_M_markKept_6 y0 s = some q) : Keep W_M_markKept s.2 ((fun x : Hp => x) q) := lpk (sh := (fun s : Int32 × Hp => s.2)) (rh := (fun x : Hp => x)) (fun s q hb => kb_M_markKept_6 (C := C) (mi := mi) hb) FU s q hl
def f_M_markKept (a0 : Nat) (h : Hp) : Option Hp :=
  gd (isK h a0 8) (cv (f_M_markNone a0 h) fun h2 => bd (l_M_markKept_6 a0 ((0 : Int32), h2)) fun x14 => some x14)
set_option maxRecDepth 100000 in
set_option maxHeartbeats 4000000 in
theorem zf_M_markKept {l : Launch} {C : Ct} {mi : Nat} {a0 : Nat} {h h' : Hp} (hf : f_M_markKept a0 h = some h') : Z l C mi m_M_markKept 2 0 [(0, vr (some a0))] [] h none h' := by
  unfold f_M_markKept at hf
  refine z_aload_n 0 d_M_markKept_0 rfl rfl ?_
  obtain ⟨g1, hf⟩ := gd_some hf
  obtain ⟨h2, ec3, hf⟩ := cv_some hf
  refine z_callVx rfl (c_M_markNone ec3) d_M_markKept_1 cw_M_markNone lk_M_112 im_M_markNone se_M_markNone (kc_K (isK_eq g1) kc_8) ⟨by decide, by decide⟩ (Nat.le_of_ble_eq_true rfl) rfl ?_
  refine z_iconst (v := (0 : Int32)) d_M_markKept_4 (by decide) ?_
  refine z_istore_n (ls2 := [(1, vi (0 : Int32)), (0, vr (some a0))]) d_M_markKept_5 rfl (by decide) rfl ?_
  obtain ⟨x14, el15, hf⟩ := bd_some hf
  refine z_ls [1, 0] rfl ?_
  refine zl_M_markKept_6 el15 ?_
  cases (Option.some.inj hf)
  exact z_ret d_M_markKept_30 rfl
set_option maxRecDepth 100000 in
set_option maxHeartbeats 4000000 in
theorem fr_M_markKept {C : Ct} {mi : Nat} {a0 : Nat} {h h' : Hp} (hf : f_M_markKept a0 h = some h') : Keep W_M_markKept h h' := by
  unfold f_M_markKept at hf
  obtain ⟨g1, hf⟩ := gd_some hf
  obtain ⟨h2, ec3, hf⟩ := cv_some hf
  have K4 := (Keep.refl W_M_markKept _).trans ((fr_M_markNone (C := C) (mi := mi) ec3).mono (by decide) (by decide))
  obtain ⟨x14, el15, hf⟩ := bd_some hf
  have K16 := K4.trans (kl_M_markKept_6 (C := C) (mi := mi) el15)
  cases (Option.some.inj hf)
  exact K16
theorem c_M_markKept {l : Launch} {C : Ct} {mi : Nat} {a0 : Nat} {h h' : Hp} (hf : f_M_markKept a0 h = some h') : Mt l C mi m_M_markKept 2 [vr (some a0)] h none h' := mt_V rfl rfl (by decide) (Nat.le_of_ble_eq_true rfl) (zf_M_markKept hf)
-- VersionMapsModel.liveOf(I)I
def m_M_liveOf : Mi := (⟨"VersionMapsModel", "liveOf", "(I)I"⟩, prog_11_method_10_code, 4, (Option.some Jvm.ClassFile.FieldType.int), .ireturn)
theorem cw_M_liveOf : cw_ok m_M_liveOf 1 := ⟨by decide +kernel, by decide +kernel, by decide +kernel, by decide +kernel⟩
theorem im_M_liveOf : Cond.instanceMethod m_M_liveOf.1 ∈ lw_w := by decide +kernel
theorem se_M_liveOf : Cond.selects "VersionMapsModel" m_M_liveOf.1 m_M_liveOf.1 ∈ lw_w := by decide +kernel
theorem d_M_liveOf_0 : decode prog_11_method_10_code 0 = .ok (.iconst 0, 1) := by decide +kernel
theorem d_M_liveOf_1 : decode prog_11_method_10_code 1 = .ok (.istore_n 2, 1) := by decide +kernel
theorem d_M_liveOf_2 : decode prog_11_method_10_code 2 = .ok (.iconst 0, 1) := by decide +kernel
theorem d_M_liveOf_3 : decode prog_11_method_10_code 3 = .ok (.istore_n 3, 1) := by decide +kernel
theorem d_M_liveOf_4 : decode prog_11_method_10_code 4 = .ok (.iload_n 3, 1) := by decide +kernel
theorem d_M_liveOf_5 : decode prog_11_method_10_code 5 = .ok (.sipush 160, 3) := by decide +kernel
theorem d_M_liveOf_8 : decode prog_11_method_10_code 8 = .ok (.if_icmp .ge 36, 3) := by decide +kernel
theorem d_M_liveOf_11 : decode prog_11_method_10_code 11 = .ok (.aload_n 0, 1) := by decide +kernel
theorem d_M_liveOf_12 : decode prog_11_method_10_code 12 = .ok (.getfield 23, 3) := by decide +kernel
theorem d_M_liveOf_15 : decode prog_11_method_10_code 15 = .ok (.iload_n 3, 1) := by decide +kernel
theorem d_M_liveOf_16 : decode prog_11_method_10_code 16 = .ok (.iaload, 1) := by decide +kernel
theorem d_M_liveOf_17 : decode prog_11_method_10_code 17 = .ok (.aload_n 0, 1) := by decide +kernel
theorem d_M_liveOf_18 : decode prog_11_method_10_code 18 = .ok (.getfield 68, 3) := by decide +kernel
theorem d_M_liveOf_21 : decode prog_11_method_10_code 21 = .ok (.iload_n 1, 1) := by decide +kernel
theorem d_M_liveOf_22 : decode prog_11_method_10_code 22 = .ok (.iaload, 1) := by decide +kernel
theorem d_M_liveOf_23 : decode prog_11_method_10_code 23 = .ok (.if_icmp .ne 15, 3) := by decide +kernel
theorem d_M_liveOf_26 : decode prog_11_method_10_code 26 = .ok (.aload_n 0, 1) := by decide +kernel
theorem d_M_liveOf_27 : decode prog_11_method_10_code 27 = .ok (.getfield 47, 3) := by decide +kernel
theorem d_M_liveOf_30 : decode prog_11_method_10_code 30 = .ok (.iload_n 3, 1) := by decide +kernel
theorem d_M_liveOf_31 : decode prog_11_method_10_code 31 = .ok (.baload, 1) := by decide +kernel
theorem d_M_liveOf_32 : decode prog_11_method_10_code 32 = .ok (.ifCond .eq 6, 3) := by decide +kernel
theorem d_M_liveOf_35 : decode prog_11_method_10_code 35 = .ok (.iinc 2 1, 3) := by decide +kernel
theorem d_M_liveOf_38 : decode prog_11_method_10_code 38 = .ok (.iinc 3 1, 3) := by decide +kernel
theorem d_M_liveOf_41 : decode prog_11_method_10_code 41 = .ok (.goto (-37), 3) := by decide +kernel
theorem d_M_liveOf_44 : decode prog_11_method_10_code 44 = .ok (.iload_n 2, 1) := by decide +kernel
theorem d_M_liveOf_45 : decode prog_11_method_10_code 45 = .ok (.ireturn, 1) := by decide +kernel
def W_M_liveOf : Wl := ([], [])
def b_M_liveOf_4 (y0 : Nat) (y1 : Int32) (y2 : Int32) (y3 : Int32) (h : Hp) : Option ((Int32 × Int32 × Hp) ⊕ (Int32 × Hp)) :=
  if (nI 160) ≤ y3 then (some (.inr (y2, h))) else (gd (isK h y0 8) (dr (hpR h y0 4) fun a3 => gd (isK h a3 79) (gd (inb y3 (hpL h a3)) (dr (hpR h y0 20) fun a7 => gd (isK h a7 94) (gd (inb y1 (hpL h a7)) (if (hpI h a3 y3.toNatClampNeg) = (hpI h a7 y1.toNatClampNeg) then (dr (hpR h y0 12) fun a12 => gd (isK h a12 87) (gd (inb y3 (hpL h a12)) (if (hpI h a12 y3.toNatClampNeg) = 0 then (some (.inl (y2, (y3 + (1 : Int32)), h))) else (some (.inl ((y2 + (1 : Int32)), (y3 + (1 : Int32)), h)))))) else (some (.inl (y2, (y3 + (1 : Int32)), h)))))))))
set_option maxRecDepth 100000 in
set_option maxHeartbeats 4000000 in
theorem zb_M_liveOf_4 {l : Launch} {C : Ct} {mi : Nat} {y0 : Nat} {y1 : Int32} {y2 : Int32} {y3 : Int32} {h h' : Hp} {v : Int32} {q : ((Int32 × Int32 × Hp) ⊕ (Int32 × Hp))} (hf : b_M_liveOf_4 y0 y1 y2 y3 h = some q) (kc : ∀ s, q = .inl s → Z l C mi m_M_liveOf 0 4 [(0, vr (some y0)), (1, vi y1), (2, vi s.1), (3, vi s.2.1)] [] s.2.2 (some (vi v)) h') (ke : ∀ x, q = .inr x → Z l C mi m_M_liveOf 0 44 [(2, vi x.1)] [] x.2 (some (vi v)) h') : Z l C mi m_M_liveOf 0 4 [(0, vr (some y0)), (1, vi y1), (2, vi y2), (3, vi y3)] [] h (some (vi v)) h' := by
  unfold b_M_liveOf_4 at hf
  refine z_iload_n 3 d_M_liveOf_4 rfl rfl ?_
  refine z_sipush (v := (nI 160)) d_M_liveOf_5 (by decide) ?_
  refine z_icmp_ge (tgt := 44) d_M_liveOf_8 (by decide) (fun c1 => ?_) (fun c1 => ?_)
  · rw [if_pos c1] at hf
    refine z_ls [2] rfl ?_
    exact ke (y2, h) (Option.some.inj hf).symm
  · rw [if_neg c1] at hf
    refine z_aload_n 0 d_M_liveOf_11 rfl rfl ?_
    obtain ⟨g2, hf⟩ := gd_some hf
    refine z_getR d_M_liveOf_12 (fl_K (isK_eq g2) fl_M_23_8) (fi_K (isK_eq g2) rfl) rfl ?_
    refine z_iload_n 3 d_M_liveOf_15 rfl rfl ?_
    obtain ⟨a3, e4, hf⟩ := dr_some hf
    obtain ⟨g5, hf⟩ := gd_some hf
    obtain ⟨g6, hf⟩ := gd_some hf
    refine z_iald d_M_liveOf_16 e4 (by rw [isK_eq g5]; decide) (by rw [isK_eq g5]; rfl) (inb_vp g6) ?_
    refine z_aload_n 0 d_M_liveOf_17 rfl rfl ?_
    refine z_getR d_M_liveOf_18 (fl_K (isK_eq g2) fl_M_68_8) (fi_K (isK_eq g2) rfl) rfl ?_
    refine z_iload_n 1 d_M_liveOf_21 rfl rfl ?_
    obtain ⟨a7, e8, hf⟩ := dr_some hf
    obtain ⟨g9, hf⟩ := gd_some hf
    obtain ⟨g10, hf⟩ := gd_some hf
    refine z_iald d_M_liveOf_22 e8 (by rw [isK_eq g9]; decide) (by rw [isK_eq g9]; rfl) (inb_vp g10) ?_
    refine z_icmp_ne (tgt := 38) d_M_liveOf_23 (by decide) (fun c11 => ?_) (fun c11 => ?_)
    · rw [if_neg c11] at hf
      refine z_iinc (ls2 := [(3, vi (y3 + (1 : Int32))), (0, vr (some y0)), (1, vi y1), (2, vi y2)]) 3 d_M_liveOf_38 rfl rfl (by decide) rfl ?_
      refine z_goto (tgt := 4) d_M_liveOf_41 (by decide) ?_
      refine z_ls [1, 2, 3, 0] rfl ?_
      exact kc (y2, (y3 + (1 : Int32)), h) (Option.some.inj hf).symm
    · rw [if_pos c11] at hf
      refine z_aload_n 0 d_M_liveOf_26 rfl rfl ?_
      refine z_getR d_M_liveOf_27 (fl_K (isK_eq g2) fl_M_47_8) (fi_K (isK_eq g2) rfl) rfl ?_
      refine z_iload_n 3 d_M_liveOf_30 rfl rfl ?_
      obtain ⟨a12, e13, hf⟩ := dr_some hf
      obtain ⟨g14, hf⟩ := gd_some hf
      obtain ⟨g15, hf⟩ := gd_some hf
      refine z_zald d_M_liveOf_31 e13 (by rw [isK_eq g14]; decide) (by rw [isK_eq g14]; rfl) (inb_vp g15) ?_
      refine z_if_eq (tgt := 38) d_M_liveOf_32 (by decide) (fun c16 => ?_) (fun c16 => ?_)
      · rw [if_pos c16] at hf
        refine z_iinc (ls2 := [(3, vi (y3 + (1 : Int32))), (0, vr (some y0)), (1, vi y1), (2, vi y2)]) 3 d_M_liveOf_38 rfl rfl (by decide) rfl ?_
        refine z_goto (tgt := 4) d_M_liveOf_41 (by decide) ?_
        refine z_ls [1, 2, 3, 0] rfl ?_
        exact kc (y2, (y3 + (1 : Int32)), h) (Option.some.inj hf).symm
      · rw [if_neg c16] at hf
        refine z_iinc (ls2 := [(2, vi (y2 + (1 : Int32))), (0, vr (some y0)), (1, vi y1), (3, vi y3)]) 2 d_M_liveOf_35 rfl rfl (by decide) rfl ?_
        refine z_iinc (ls2 := [(3, vi (y3 + (1 : Int32))), (2, vi (y2 + (1 : Int32))), (0, vr (some y0)), (1, vi y1)]) 3 d_M_liveOf_38 rfl rfl (by decide) rfl ?_
        refine z_goto (tgt := 4) d_M_liveOf_41 (by decide) ?_
        refine z_ls [2, 3, 1, 0] rfl ?_
        exact kc ((y2 + (1 : Int32)), (y3 + (1 : Int32)), h) (Option.some.inj hf).symm
set_option maxRecDepth 100000 in
set_option maxHeartbeats 4000000 in
theorem kb_M_liveOf_4 {C : Ct} {mi : Nat} {y0 : Nat} {y1 : Int32} {y2 : Int32} {y3 : Int32} {h : Hp} {q : ((Int32 × Int32 × Hp) ⊕ (Int32 × Hp))} (hf : b_M_liveOf_4 y0 y1 y2 y3 h = some q) : Keep W_M_liveOf h (Sum.elim (fun s : Int32 × Int32 × Hp => s.2.2) (fun x : Int32 × Hp => x.2) q) := by
  unfold b_M_liveOf_4 at hf
  rcases Classical.em ((nI 160) ≤ y3) with c1 | c1
  · rw [if_pos c1] at hf
    cases (Option.some.inj hf)
    exact (Keep.refl W_M_liveOf _)
  · rw [if_neg c1] at hf
    obtain ⟨g2, hf⟩ := gd_some hf
    obtain ⟨a3, e4, hf⟩ := dr_some hf
    obtain ⟨g5, hf⟩ := gd_some hf
    obtain ⟨g6, hf⟩ := gd_some hf
    obtain ⟨a7, e8, hf⟩ := dr_some hf
    obtain ⟨g9, hf⟩ := gd_some hf
    obtain ⟨g10, hf⟩ := gd_some hf
    rcases (Classical.em ((hpI h a3 y3.toNatClampNeg) = (hpI h a7 y1.toNatClampNeg))).symm with c11 | c11
    · rw [if_neg c11] at hf
      cases (Option.some.inj hf)
      exact (Keep.refl W_M_liveOf _)
    · rw [if_pos c11] at hf
      obtain ⟨a12, e13, hf⟩ := dr_some hf
      obtain ⟨g14, hf⟩ := gd_some hf
      obtain ⟨g15, hf⟩ := gd_some hf
      rcases Classical.em ((hpI h a12 y3.toNatClampNeg) = 0) with c16 | c16
      · rw [if_pos c16] at hf
        cases (Option.some.inj hf)
        exact (Keep.refl W_M_liveOf _)
      · rw [if_neg c16] at hf
        cases (Option.some.inj hf)
        exact (Keep.refl W_M_liveOf _)
def l_M_liveOf_4 (y0 : Nat) (y1 : Int32) (s : Int32 × Int32 × Hp) : Option (Int32 × Hp) := lp (fun s => b_M_liveOf_4 y0 y1 s.1 s.2.1 s.2.2) FU s
theorem zzl_M_liveOf_4 {l : Launch} {C : Ct} {mi : Nat} {y0 : Nat} {y1 : Int32} {h' : Hp} {v : Int32} : ∀ (n : Nat) (s : Int32 × Int32 × Hp) (x : (Int32 × Hp)), lp (fun s : Int32 × Int32 × Hp => b_M_liveOf_4 y0 y1 s.1 s.2.1 s.2.2) n s = some x → Z l C mi m_M_liveOf 0 44 [(2, vi x.1)] [] x.2 (some (vi v)) h' → Z l C mi m_M_liveOf 0 4 [(0, vr (some y0)), (1, vi y1), (2, vi s.1), (3, vi s.2.1)] [] s.2.2 (some (vi v)) h' := by
  intro n
  induction n with
  | zero => intro s x hl; cases hl
  | succ n ih =>
    intro s x hl ke
    rcases lp_some hl with ⟨s2, hb, hl2⟩ | hb
    · exact zb_M_liveOf_4 hb (fun s3 e3 => by cases e3; refine z_ls [0, 1, 2, 3] rfl ?_; exact ih s2 x hl2 ke) (fun x e3 => by cases e3)
    · exact zb_M_liveOf_4 hb (fun s3 e3 => by cases e3) (fun x e3 => by cases e3; exact ke)
theorem zl_M_liveOf_4 {l : Launch} {C : Ct} {mi : Nat} {y0 : Nat} {y1 : Int32} {h' : Hp} {v : Int32} {s : Int32 × Int32 × Hp} {x : (Int32 × Hp)} (hl : l_M_liveOf_4 y0 y1 s = some x) (ke : Z l C mi m_M_liveOf 0 44 [(2, vi x.1)] [] x.2 (some (vi v)) h') : Z l C mi m_M_liveOf 0 4 [(0, vr (some y0)), (1, vi y1), (2, vi s.1), (3, vi s.2.1)] [] s.2.2 (some (vi v)) h' := zzl_M_liveOf_4 FU s x hl ke
theorem kl_M_liveOf_4 {C : Ct} {mi : Nat} {y0 : Nat} {y1 : Int32} {s : Int32 × Int32 × Hp} {q : (Int32 × Hp)} (hl : l_M_liveOf_4 y0 y1 s = some q) : Keep W_M_liveOf s.2.2 ((fun x : Int32 × Hp => x.2) q) := lpk (sh := (fun s : Int32 × Int32 × Hp => s.2.2)) (rh := (fun x : Int32 × Hp => x.2)) (fun s q hb => kb_M_liveOf_4 (C := C) (mi := mi) hb) FU s q hl
def f_M_liveOf (a0 : Nat) (p1 : Int32) (h : Hp) : Option (Int32 × Hp) :=
  bd (l_M_liveOf_4 a0 p1 ((0 : Int32), (0 : Int32), h)) fun x17 => some (x17.1, x17.2)
set_option maxRecDepth 100000 in
set_option maxHeartbeats 4000000 in
theorem zf_M_liveOf {l : Launch} {C : Ct} {mi : Nat} {a0 : Nat} {p1 : Int32} {h h' : Hp} {v : Int32} (hf : f_M_liveOf a0 p1 h = some (v, h')) : Z l C mi m_M_liveOf 0 0 [(0, vr (some a0)), (1, vi p1)] [] h (some (vi v)) h' := by
  unfold f_M_liveOf at hf
  refine z_iconst (v := (0 : Int32)) d_M_liveOf_0 (by decide) ?_
  refine z_istore_n (ls2 := [(2, vi (0 : Int32)), (0, vr (some a0)), (1, vi p1)]) d_M_liveOf_1 rfl (by decide) rfl ?_
  refine z_iconst (v := (0 : Int32)) d_M_liveOf_2 (by decide) ?_
  refine z_istore_n (ls2 := [(3, vi (0 : Int32)), (2, vi (0 : Int32)), (0, vr (some a0)), (1, vi p1)]) d_M_liveOf_3 rfl (by decide) rfl ?_
  obtain ⟨x17, el18, hf⟩ := bd_some hf
  refine z_ls [2, 3, 1, 0] rfl ?_
  refine zl_M_liveOf_4 el18 ?_
  refine z_iload_n 0 d_M_liveOf_44 rfl rfl ?_
  obtain ⟨rfl, rfl⟩ := Prod.mk.inj (Option.some.inj hf)
  exact z_ret d_M_liveOf_45 rfl
set_option maxRecDepth 100000 in
set_option maxHeartbeats 4000000 in
theorem fr_M_liveOf {C : Ct} {mi : Nat} {a0 : Nat} {p1 : Int32} {h h' : Hp} {v : Int32} (hf : f_M_liveOf a0 p1 h = some (v, h')) : Keep W_M_liveOf h h' := by
  unfold f_M_liveOf at hf
  obtain ⟨x17, el18, hf⟩ := bd_some hf
  have K19 := (Keep.refl W_M_liveOf _).trans (kl_M_liveOf_4 (C := C) (mi := mi) el18)
  obtain ⟨rfl, rfl⟩ := Prod.mk.inj (Option.some.inj hf)
  exact K19
theorem c_M_liveOf {l : Launch} {C : Ct} {mi : Nat} {a0 : Nat} {p1 : Int32} {h h' : Hp} {v : Int32} (hf : f_M_liveOf a0 p1 h = some (v, h')) : Mt l C mi m_M_liveOf 0 [vr (some a0), vi p1] h (some (vi v)) h' := mt_I (ty := .int) rfl rfl rfl (by decide) (Nat.le_of_ble_eq_true rfl) (zf_M_liveOf hf)

-- VersionMaps$BlockFile.<init>()V
def m_F_init : Mi := (⟨"VersionMaps$BlockFile", "<init>", "()V"⟩, prog_2_method_1_code, 2, (Option.none : Option Jvm.ClassFile.FieldType), .return_)
theorem cw_F_init : cw_ok m_F_init 0 := ⟨by decide +kernel, by decide +kernel, by decide +kernel, by decide +kernel⟩
theorem im_F_init : Cond.instanceMethod m_F_init.1 ∈ lw_w := by decide +kernel
theorem d_F_init_0 : decode prog_2_method_1_code 0 = .ok (.aload_n 0, 1) := by decide +kernel
theorem d_F_init_1 : decode prog_2_method_1_code 1 = .ok (.invokespecial 3, 3) := by decide +kernel
theorem d_F_init_4 : decode prog_2_method_1_code 4 = .ok (.aload_n 0, 1) := by decide +kernel
theorem d_F_init_5 : decode prog_2_method_1_code 5 = .ok (.bipush 32, 2) := by decide +kernel
theorem d_F_init_7 : decode prog_2_method_1_code 7 = .ok (.anewarray 9, 3) := by decide +kernel
theorem d_F_init_10 : decode prog_2_method_1_code 10 = .ok (.putfield 11, 3) := by decide +kernel
theorem d_F_init_13 : decode prog_2_method_1_code 13 = .ok (.aload_n 0, 1) := by decide +kernel
theorem d_F_init_14 : decode prog_2_method_1_code 14 = .ok (.bipush 32, 2) := by decide +kernel
theorem d_F_init_16 : decode prog_2_method_1_code 16 = .ok (.anewarray 9, 3) := by decide +kernel
theorem d_F_init_19 : decode prog_2_method_1_code 19 = .ok (.putfield 17, 3) := by decide +kernel
theorem d_F_init_22 : decode prog_2_method_1_code 22 = .ok (.aload_n 0, 1) := by decide +kernel
theorem d_F_init_23 : decode prog_2_method_1_code 23 = .ok (.bipush 32, 2) := by decide +kernel
theorem d_F_init_25 : decode prog_2_method_1_code 25 = .ok (.newarray .boolean, 2) := by decide +kernel
theorem d_F_init_27 : decode prog_2_method_1_code 27 = .ok (.putfield 20, 3) := by decide +kernel
theorem d_F_init_30 : decode prog_2_method_1_code 30 = .ok (.aload_n 0, 1) := by decide +kernel
theorem d_F_init_31 : decode prog_2_method_1_code 31 = .ok (.bipush 32, 2) := by decide +kernel
theorem d_F_init_33 : decode prog_2_method_1_code 33 = .ok (.newarray .boolean, 2) := by decide +kernel
theorem d_F_init_35 : decode prog_2_method_1_code 35 = .ok (.putfield 24, 3) := by decide +kernel
theorem d_F_init_38 : decode prog_2_method_1_code 38 = .ok (.aload_n 0, 1) := by decide +kernel
theorem d_F_init_39 : decode prog_2_method_1_code 39 = .ok (.bipush 32, 2) := by decide +kernel
theorem d_F_init_41 : decode prog_2_method_1_code 41 = .ok (.newarray .int, 2) := by decide +kernel
theorem d_F_init_43 : decode prog_2_method_1_code 43 = .ok (.putfield 27, 3) := by decide +kernel
theorem d_F_init_46 : decode prog_2_method_1_code 46 = .ok (.aload_n 0, 1) := by decide +kernel
theorem d_F_init_47 : decode prog_2_method_1_code 47 = .ok (.iconst 0, 1) := by decide +kernel
theorem d_F_init_48 : decode prog_2_method_1_code 48 = .ok (.putfield 31, 3) := by decide +kernel
theorem d_F_init_51 : decode prog_2_method_1_code 51 = .ok (.iconst 0, 1) := by decide +kernel
theorem d_F_init_52 : decode prog_2_method_1_code 52 = .ok (.istore_n 1, 1) := by decide +kernel
theorem d_F_init_53 : decode prog_2_method_1_code 53 = .ok (.iload_n 1, 1) := by decide +kernel
theorem d_F_init_54 : decode prog_2_method_1_code 54 = .ok (.bipush 32, 2) := by decide +kernel
theorem d_F_init_56 : decode prog_2_method_1_code 56 = .ok (.if_icmp .ge 16, 3) := by decide +kernel
theorem d_F_init_59 : decode prog_2_method_1_code 59 = .ok (.aload_n 0, 1) := by decide +kernel
theorem d_F_init_60 : decode prog_2_method_1_code 60 = .ok (.getfield 20, 3) := by decide +kernel
theorem d_F_init_63 : decode prog_2_method_1_code 63 = .ok (.iload_n 1, 1) := by decide +kernel
theorem d_F_init_64 : decode prog_2_method_1_code 64 = .ok (.iconst 1, 1) := by decide +kernel
theorem d_F_init_65 : decode prog_2_method_1_code 65 = .ok (.bastore, 1) := by decide +kernel
theorem d_F_init_66 : decode prog_2_method_1_code 66 = .ok (.iinc 1 1, 3) := by decide +kernel
theorem d_F_init_69 : decode prog_2_method_1_code 69 = .ok (.goto (-16), 3) := by decide +kernel
theorem d_F_init_72 : decode prog_2_method_1_code 72 = .ok (.return_, 1) := by decide +kernel
def W_F_init : Wl := ([(1, 0), (1, 1), (1, 2), (1, 3), (1, 4), (1, 5)], [70])
def b_F_init_53 (y0 : Nat) (y1 : Int32) (h : Hp) : Option ((Int32 × Hp) ⊕ (Hp)) :=
  if (nI 32) ≤ y1 then (some (.inr h)) else (gd (isK h y0 1) (dr (hpR h y0 2) fun a41 => gd (isK h a41 70) (gd (inb y1 (hpL h a41)) (nm (wI h a41 y1.toNatClampNeg (vp_nar .boolean (1 : Int32))) fun h45 => some (.inl ((y1 + (1 : Int32)), h45))))))
set_option maxRecDepth 100000 in
set_option maxHeartbeats 4000000 in
theorem zb_F_init_53 {l : Launch} {C : Ct} {mi : Nat} {y0 : Nat} {y1 : Int32} {h h' : Hp} {q : ((Int32 × Hp) ⊕ (Hp))} (hf : b_F_init_53 y0 y1 h = some q) (kc : ∀ s, q = .inl s → Z l C mi m_F_init 1 53 [(0, vr (some y0)), (1, vi s.1)] [] s.2 none h') (ke : ∀ x, q = .inr x → Z l C mi m_F_init 1 72 [] [] x none h') : Z l C mi m_F_init 1 53 [(0, vr (some y0)), (1, vi y1)] [] h none h' := by
  unfold b_F_init_53 at hf
  refine z_iload_n 1 d_F_init_53 rfl rfl ?_
  refine z_bipush (v := (nI 32)) d_F_init_54 (by decide) ?_
  refine z_icmp_ge (tgt := 72) d_F_init_56 (by decide) (fun c39 => ?_) (fun c39 => ?_)
  · rw [if_pos c39] at hf
    refine z_ls [] rfl ?_
    exact ke h (Option.some.inj hf).symm
  · rw [if_neg c39] at hf
    refine z_aload_n 0 d_F_init_59 rfl rfl ?_
    obtain ⟨g40, hf⟩ := gd_some hf
    refine z_getR d_F_init_60 (fl_K (isK_eq g40) fl_F_20_1) (fi_K (isK_eq g40) rfl) rfl ?_
    refine z_iload_n 1 d_F_init_63 rfl rfl ?_
    refine z_iconst (v := (1 : Int32)) d_F_init_64 (by decide) ?_
    obtain ⟨a41, e42, hf⟩ := dr_some hf
    obtain ⟨g43, hf⟩ := gd_some hf
    obtain ⟨g44, hf⟩ := gd_some hf
    obtain ⟨h45, eh46, hf⟩ := nm_some hf
    refine z_zast d_F_init_65 e42 (by rw [isK_eq g43]; decide) (by rw [isK_eq g43]; rfl) (inb_vp g44) ?_
    refine z_hp eh46 ?_
    refine z_iinc (ls2 := [(1, vi (y1 + (1 : Int32))), (0, vr (some y0))]) 1 d_F_init_66 rfl rfl (by decide) rfl ?_
    refine z_goto (tgt := 53) d_F_init_69 (by decide) ?_
    refine z_ls [1, 0] rfl ?_
    exact kc ((y1 + (1 : Int32)), h45) (Option.some.inj hf).symm
set_option maxRecDepth 100000 in
set_option maxHeartbeats 4000000 in
theorem kb_F_init_53 {C : Ct} {mi : Nat} {y0 : Nat} {y1 : Int32} {h : Hp} {q : ((Int32 × Hp) ⊕ (Hp))} (hf : b_F_init_53 y0 y1 h = some q) : Keep W_F_init h (Sum.elim (fun s : Int32 × Hp => s.2) (fun x : Hp => x) q) := by
  unfold b_F_init_53 at hf
  rcases Classical.em ((nI 32) ≤ y1) with c39 | c39
  · rw [if_pos c39] at hf
    cases (Option.some.inj hf)
    exact (Keep.refl W_F_init _)
  · rw [if_neg c39] at hf
    obtain ⟨g40, hf⟩ := gd_some hf
    obtain ⟨a41, e42, hf⟩ := dr_some hf
    obtain ⟨g43, hf⟩ := gd_some hf
    obtain ⟨g44, hf⟩ := gd_some hf
    obtain ⟨h45, eh46, hf⟩ := nm_some hf
    have K47 := (Keep.refl W_F_init _).trans (kw_I eh46 (isK_eq g43) (Or.inr (by decide)))
    cases (Option.some.inj hf)
    exact K47
def l_F_init_53 (y0 : Nat) (s : Int32 × Hp) : Option (Hp) := lp (fun s => b_F_init_53 y0 s.1 s.2) FU s
theorem zzl_F_init_53 {l : Launch} {C : Ct} {mi : Nat} {y0 : Nat} {h' : Hp} : ∀ (n : Nat) (s : Int32 × Hp) (x : (Hp)), lp (fun s : Int32 × Hp => b_F_init_53 y0 s.1 s.2) n s = some x → Z l C mi m_F_init 1 72 [] [] x none h' → Z l C mi m_F_init 1 53 [(0, vr (some y0)), (1, vi s.1)] [] s.2 none h' := by
  intro n
  induction n with
  | zero => intro s x hl; cases hl
  | succ n ih =>
    intro s x hl ke
    rcases lp_some hl with ⟨s2, hb, hl2⟩ | hb
    · exact zb_F_init_53 hb (fun s3 e3 => by cases e3; refine z_ls [0, 1] rfl ?_; exact ih s2 x hl2 ke) (fun x e3 => by cases e3)
    · exact zb_F_init_53 hb (fun s3 e3 => by cases e3) (fun x e3 => by cases e3; exact ke)
theorem zl_F_init_53 {l : Launch} {C : Ct} {mi : Nat} {y0 : Nat} {h' : Hp} {s : Int32 × Hp} {x : (Hp)} (hl : l_F_init_53 y0 s = some x) (ke : Z l C mi m_F_init 1 72 [] [] x none h') : Z l C mi m_F_init 1 53 [(0, vr (some y0)), (1, vi s.1)] [] s.2 none h' := zzl_F_init_53 FU s x hl ke
theorem kl_F_init_53 {C : Ct} {mi : Nat} {y0 : Nat} {s : Int32 × Hp} {q : (Hp)} (hl : l_F_init_53 y0 s = some q) : Keep W_F_init s.2 ((fun x : Hp => x) q) := lpk (sh := (fun s : Int32 × Hp => s.2)) (rh := (fun x : Hp => x)) (fun s q hb => kb_F_init_53 (C := C) (mi := mi) hb) FU s q hl
def f_F_init (a0 : Nat) (h : Hp) : Option Hp :=
  nm (nw h 68 32 32) fun h1 => gd (isK h1 a0 1) (nm (wR h1 a0 0 (some (hpN h))) fun h5 => nm (nw h5 69 32 32) fun h8 => gd (isK h8 a0 1) (nm (wR h8 a0 1 (some (hpN h5))) fun h12 => nm (nw h12 70 32 32) fun h15 => gd (isK h15 a0 1) (nm (wR h15 a0 2 (some (hpN h12))) fun h19 => nm (nw h19 71 32 32) fun h22 => gd (isK h22 a0 1) (nm (wR h22 a0 3 (some (hpN h19))) fun h26 => nm (nw h26 72 32 32) fun h29 => gd (isK h29 a0 1) (nm (wR h29 a0 4 (some (hpN h26))) fun h33 => nm (wI h33 a0 5 (0 : Int32)) fun h36 => bd (l_F_init_53 a0 ((0 : Int32), h36)) fun x48 => some x48)))))
set_option maxRecDepth 100000 in
set_option maxHeartbeats 4000000 in
theorem zf_F_init {l : Launch} {C : Ct} {mi : Nat} {a0 : Nat} {h h' : Hp} (hf : f_F_init a0 h = some h') : Z l C mi m_F_init 1 0 [(0, vr (some a0))] [] h none h' := by
  unfold f_F_init at hf
  refine z_aload_n 0 d_F_init_0 rfl rfl ?_
  refine z_oinit d_F_init_1 (by decide +kernel) rfl (by decide) (Nat.le_of_ble_eq_true rfl) ?_
  refine z_aload_n 0 d_F_init_4 rfl rfl ?_
  refine z_bipush (v := (nI 32)) d_F_init_5 (by decide) ?_
  obtain ⟨h1, eh2, hf⟩ := nm_some hf
  refine z_newR (N := 32) (κ := 68) (t := 2) d_F_init_7 (by decide +kernel) (by decide +kernel) (by decide) (by decide) rfl (by decide) (by decide) (by decide) ?_
  refine z_hp eh2 ?_
  obtain ⟨g4, hf⟩ := gd_some hf
  obtain ⟨h5, eh6, hf⟩ := nm_some hf
  refine z_putR d_F_init_10 (fl_K (isK_eq g4) fl_F_11_1) (pu_K (isK_eq g4) (fun q hq => by cases (Option.some.inj hq); exact Or.inr ⟨rfl, rfl⟩)) (fi_K (isK_eq g4) rfl) rfl ?_
  refine z_hp eh6 ?_
  refine z_aload_n 0 d_F_init_13 rfl rfl ?_
  refine z_bipush (v := (nI 32)) d_F_init_14 (by decide) ?_
  obtain ⟨h8, eh9, hf⟩ := nm_some hf
  refine z_newR (N := 32) (κ := 69) (t := 2) d_F_init_16 (by decide +kernel) (by decide +kernel) (by decide) (by decide) rfl (by decide) (by decide) (by decide) ?_
  refine z_hp eh9 ?_
  obtain ⟨g11, hf⟩ := gd_some hf
  obtain ⟨h12, eh13, hf⟩ := nm_some hf
  refine z_putR d_F_init_19 (fl_K (isK_eq g11) fl_F_17_1) (pu_K (isK_eq g11) (fun q hq => by cases (Option.some.inj hq); exact Or.inr ⟨rfl, rfl⟩)) (fi_K (isK_eq g11) rfl) rfl ?_
  refine z_hp eh13 ?_
  refine z_aload_n 0 d_F_init_22 rfl rfl ?_
  refine z_bipush (v := (nI 32)) d_F_init_23 (by decide) ?_
  obtain ⟨h15, eh16, hf⟩ := nm_some hf
  refine z_newZ (N := 32) (κ := 70) d_F_init_25 (by decide) rfl (by decide) (by decide) (by decide) ?_
  refine z_hp eh16 ?_
  obtain ⟨g18, hf⟩ := gd_some hf
  obtain ⟨h19, eh20, hf⟩ := nm_some hf
  refine z_putR d_F_init_27 (fl_K (isK_eq g18) fl_F_20_1) (pu_K (isK_eq g18) (fun q hq => by cases (Option.some.inj hq); exact Or.inr ⟨rfl, rfl⟩)) (fi_K (isK_eq g18) rfl) rfl ?_
  refine z_hp eh20 ?_
  refine z_aload_n 0 d_F_init_30 rfl rfl ?_
  refine z_bipush (v := (nI 32)) d_F_init_31 (by decide) ?_
  obtain ⟨h22, eh23, hf⟩ := nm_some hf
  refine z_newZ (N := 32) (κ := 71) d_F_init_33 (by decide) rfl (by decide) (by decide) (by decide) ?_
  refine z_hp eh23 ?_
  obtain ⟨g25, hf⟩ := gd_some hf
  obtain ⟨h26, eh27, hf⟩ := nm_some hf
  refine z_putR d_F_init_35 (fl_K (isK_eq g25) fl_F_24_1) (pu_K (isK_eq g25) (fun q hq => by cases (Option.some.inj hq); exact Or.inr ⟨rfl, rfl⟩)) (fi_K (isK_eq g25) rfl) rfl ?_
  refine z_hp eh27 ?_
  refine z_aload_n 0 d_F_init_38 rfl rfl ?_
  refine z_bipush (v := (nI 32)) d_F_init_39 (by decide) ?_
  obtain ⟨h29, eh30, hf⟩ := nm_some hf
  refine z_newI (N := 32) (κ := 72) d_F_init_41 (by decide) rfl (by decide) (by decide) (by decide) ?_
  refine z_hp eh30 ?_
  obtain ⟨g32, hf⟩ := gd_some hf
  obtain ⟨h33, eh34, hf⟩ := nm_some hf
  refine z_putR d_F_init_43 (fl_K (isK_eq g32) fl_F_27_1) (pu_K (isK_eq g32) (fun q hq => by cases (Option.some.inj hq); exact Or.inr ⟨rfl, rfl⟩)) (fi_K (isK_eq g32) rfl) rfl ?_
  refine z_hp eh34 ?_
  refine z_aload_n 0 d_F_init_46 rfl rfl ?_
  refine z_iconst (v := (0 : Int32)) d_F_init_47 (by decide) ?_
  obtain ⟨h36, eh37, hf⟩ := nm_some hf
  refine z_putI d_F_init_48 (fl_K (isK_eq (isK_wR eh34 g32)) fl_F_31_1) (pu_K (isK_eq (isK_wR eh34 g32)) (fun q hq => by cases (Option.some.inj hq); exact Or.inl rfl)) (fi_K (isK_eq (isK_wR eh34 g32)) rfl) rfl ?_
  refine z_hp eh37 ?_
  refine z_iconst (v := (0 : Int32)) d_F_init_51 (by decide) ?_
  refine z_istore_n (ls2 := [(1, vi (0 : Int32)), (0, vr (some a0))]) d_F_init_52 rfl (by decide) rfl ?_
  obtain ⟨x48, el49, hf⟩ := bd_some hf
  refine z_ls [1, 0] rfl ?_
  refine zl_F_init_53 el49 ?_
  cases (Option.some.inj hf)
  exact z_ret d_F_init_72 rfl
set_option maxRecDepth 100000 in
set_option maxHeartbeats 4000000 in
theorem fr_F_init {C : Ct} {mi : Nat} {a0 : Nat} {h h' : Hp} (hf : f_F_init a0 h = some h') : Keep W_F_init h h' := by
  unfold f_F_init at hf
  obtain ⟨h1, eh2, hf⟩ := nm_some hf
  have K3 := (Keep.refl W_F_init _).trans (kw_N eh2)
  obtain ⟨g4, hf⟩ := gd_some hf
  obtain ⟨h5, eh6, hf⟩ := nm_some hf
  have K7 := K3.trans (kw_R eh6 (isK_eq g4) (Or.inl (by decide)))
  obtain ⟨h8, eh9, hf⟩ := nm_some hf
  have K10 := K7.trans (kw_N eh9)
  obtain ⟨g11, hf⟩ := gd_some hf
  obtain ⟨h12, eh13, hf⟩ := nm_some hf
  have K14 := K10.trans (kw_R eh13 (isK_eq g11) (Or.inl (by decide)))
  obtain ⟨h15, eh16, hf⟩ := nm_some hf
  have K17 := K14.trans (kw_N eh16)
  obtain ⟨g18, hf⟩ := gd_some hf
  obtain ⟨h19, eh20, hf⟩ := nm_some hf
  have K21 := K17.trans (kw_R eh20 (isK_eq g18) (Or.inl (by decide)))
  obtain ⟨h22, eh23, hf⟩ := nm_some hf
  have K24 := K21.trans (kw_N eh23)
  obtain ⟨g25, hf⟩ := gd_some hf
  obtain ⟨h26, eh27, hf⟩ := nm_some hf
  have K28 := K24.trans (kw_R eh27 (isK_eq g25) (Or.inl (by decide)))
  obtain ⟨h29, eh30, hf⟩ := nm_some hf
  have K31 := K28.trans (kw_N eh30)
  obtain ⟨g32, hf⟩ := gd_some hf
  obtain ⟨h33, eh34, hf⟩ := nm_some hf
  have K35 := K31.trans (kw_R eh34 (isK_eq g32) (Or.inl (by decide)))
  obtain ⟨h36, eh37, hf⟩ := nm_some hf
  have K38 := K35.trans (kw_I eh37 (isK_eq (isK_wR eh34 g32)) (Or.inl (by decide)))
  obtain ⟨x48, el49, hf⟩ := bd_some hf
  have K50 := K38.trans (kl_F_init_53 (C := C) (mi := mi) el49)
  cases (Option.some.inj hf)
  exact K50
theorem c_F_init {l : Launch} {C : Ct} {mi : Nat} {a0 : Nat} {h h' : Hp} (hf : f_F_init a0 h = some h') : Mt l C mi m_F_init 1 [vr (some a0)] h none h' := mt_V rfl rfl (by decide) (Nat.le_of_ble_eq_true rfl) (zf_F_init hf)
-- VersionMaps$BlockFile.findFreeRow(I)I
def m_F_findFreeRow : Mi := (⟨"VersionMaps$BlockFile", "findFreeRow", "(I)I"⟩, prog_2_method_2_code, 4, (Option.some Jvm.ClassFile.FieldType.int), .ireturn)
theorem cw_F_findFreeRow : cw_ok m_F_findFreeRow 1 := ⟨by decide +kernel, by decide +kernel, by decide +kernel, by decide +kernel⟩
theorem im_F_findFreeRow : Cond.instanceMethod m_F_findFreeRow.1 ∈ lw_w := by decide +kernel
theorem se_F_findFreeRow : Cond.selects "VersionMaps$BlockFile" m_F_findFreeRow.1 m_F_findFreeRow.1 ∈ lw_w := by decide +kernel
theorem d_F_findFreeRow_0 : decode prog_2_method_2_code 0 = .ok (.iconst 0, 1) := by decide +kernel
theorem d_F_findFreeRow_1 : decode prog_2_method_2_code 1 = .ok (.istore_n 2, 1) := by decide +kernel
theorem d_F_findFreeRow_2 : decode prog_2_method_2_code 2 = .ok (.iconst 0, 1) := by decide +kernel
theorem d_F_findFreeRow_3 : decode prog_2_method_2_code 3 = .ok (.istore_n 3, 1) := by decide +kernel
theorem d_F_findFreeRow_4 : decode prog_2_method_2_code 4 = .ok (.iload_n 3, 1) := by decide +kernel
theorem d_F_findFreeRow_5 : decode prog_2_method_2_code 5 = .ok (.bipush 32, 2) := by decide +kernel
theorem d_F_findFreeRow_7 : decode prog_2_method_2_code 7 = .ok (.if_icmp .ge 37, 3) := by decide +kernel
theorem d_F_findFreeRow_10 : decode prog_2_method_2_code 10 = .ok (.aload_n 0, 1) := by decide +kernel
theorem d_F_findFreeRow_11 : decode prog_2_method_2_code 11 = .ok (.getfield 20, 3) := by decide +kernel
theorem d_F_findFreeRow_14 : decode prog_2_method_2_code 14 = .ok (.iload_n 3, 1) := by decide +kernel
theorem d_F_findFreeRow_15 : decode prog_2_method_2_code 15 = .ok (.baload, 1) := by decide +kernel
theorem d_F_findFreeRow_16 : decode prog_2_method_2_code 16 = .ok (.ifCond .eq 9, 3) := by decide +kernel
theorem d_F_findFreeRow_19 : decode prog_2_method_2_code 19 = .ok (.iload_n 2, 1) := by decide +kernel
theorem d_F_findFreeRow_20 : decode prog_2_method_2_code 20 = .ok (.iconst 1, 1) := by decide +kernel
theorem d_F_findFreeRow_21 : decode prog_2_method_2_code 21 = .ok (.iadd, 1) := by decide +kernel
theorem d_F_findFreeRow_22 : decode prog_2_method_2_code 22 = .ok (.goto 4, 3) := by decide +kernel
theorem d_F_findFreeRow_25 : decode prog_2_method_2_code 25 = .ok (.iconst 0, 1) := by decide +kernel
theorem d_F_findFreeRow_26 : decode prog_2_method_2_code 26 = .ok (.istore_n 2, 1) := by decide +kernel
theorem d_F_findFreeRow_27 : decode prog_2_method_2_code 27 = .ok (.iload_n 2, 1) := by decide +kernel
theorem d_F_findFreeRow_28 : decode prog_2_method_2_code 28 = .ok (.iload_n 1, 1) := by decide +kernel
theorem d_F_findFreeRow_29 : decode prog_2_method_2_code 29 = .ok (.if_icmp .lt 9, 3) := by decide +kernel
theorem d_F_findFreeRow_32 : decode prog_2_method_2_code 32 = .ok (.iload_n 3, 1) := by decide +kernel
theorem d_F_findFreeRow_33 : decode prog_2_method_2_code 33 = .ok (.iload_n 1, 1) := by decide +kernel
theorem d_F_findFreeRow_34 : decode prog_2_method_2_code 34 = .ok (.isub, 1) := by decide +kernel
theorem d_F_findFreeRow_35 : decode prog_2_method_2_code 35 = .ok (.iconst 1, 1) := by decide +kernel
theorem d_F_findFreeRow_36 : decode prog_2_method_2_code 36 = .ok (.iadd, 1) := by decide +kernel
theorem d_F_findFreeRow_37 : decode prog_2_method_2_code 37 = .ok (.ireturn, 1) := by decide +kernel
theorem d_F_findFreeRow_38 : decode prog_2_method_2_code 38 = .ok (.iinc 3 1, 3) := by decide +kernel
theorem d_F_findFreeRow_41 : decode prog_2_method_2_code 41 = .ok (.goto (-37), 3) := by decide +kernel
theorem d_F_findFreeRow_44 : decode prog_2_method_2_code 44 = .ok (.bipush (-2), 2) := by decide +kernel
theorem d_F_findFreeRow_46 : decode prog_2_method_2_code 46 = .ok (.ireturn, 1) := by decide +kernel
def W_F_findFreeRow : Wl := ([], [])
def j_F_findFreeRow_26_L4 (y0 : Nat) (y1 : Int32) (y3 : Int32) (w0 : Int32) (h : Hp) : Option ((Int32 × Int32 × Hp) ⊕ ((Hp) ⊕ (Int32 × Hp))) :=
  if w0 < y1 then (some (.inl (w0, (y3 + (1 : Int32)), h))) else (some (.inr (.inr (((y3 - y1) + (1 : Int32)), h))))
set_option maxRecDepth 100000 in
set_option maxHeartbeats 4000000 in
theorem zj_F_findFreeRow_26_L4 {l : Launch} {C : Ct} {mi : Nat} {y0 : Nat} {y1 : Int32} {y3 : Int32} {w0 : Int32} {h h' : Hp} {v : Int32} {q : ((Int32 × Int32 × Hp) ⊕ ((Hp) ⊕ (Int32 × Hp)))} (hf : j_F_findFreeRow_26_L4 y0 y1 y3 w0 h = some q) (kc : ∀ s, q = .inl s → Z l C mi m_F_findFreeRow 0 4 [(0, vr (some y0)), (1, vi y1), (2, vi s.1), (3, vi s.2.1)] [] s.2.2 (some (vi v)) h') (ke : ∀ x, q = .inr (.inl x) → Z l C mi m_F_findFreeRow 0 44 [] [] x (some (vi v)) h') (kr : ∀ rv rh, q = .inr (.inr (rv, rh)) → v = rv ∧ h' = rh) : Z l C mi m_F_findFreeRow 0 26 [(0, vr (some y0)), (1, vi y1), (3, vi y3)] [vi w0] h (some (vi v)) h' := by
  unfold j_F_findFreeRow_26_L4 at hf
  refine z_istore_n (ls2 := [(2, vi w0), (0, vr (some y0)), (1, vi y1), (3, vi y3)]) d_F_findFreeRow_26 rfl (by decide) rfl ?_
  refine z_iload_n 0 d_F_findFreeRow_27 rfl rfl ?_
  refine z_iload_n 2 d_F_findFreeRow_28 rfl rfl ?_
  refine z_icmp_lt (tgt := 38) d_F_findFreeRow_29 (by decide) (fun c8 => ?_) (fun c8 => ?_)
  · rw [if_pos c8] at hf
    refine z_iinc (ls2 := [(3, vi (y3 + (1 : Int32))), (2, vi w0), (0, vr (some y0)), (1, vi y1)]) 3 d_F_findFreeRow_38 rfl rfl (by decide) rfl ?_
    refine z_goto (tgt := 4) d_F_findFreeRow_41 (by decide) ?_
    refine z_ls [2, 3, 1, 0] rfl ?_
    exact kc (w0, (y3 + (1 : Int32)), h) (Option.some.inj hf).symm
  · rw [if_neg c8] at hf
    refine z_iload_n 3 d_F_findFreeRow_32 rfl rfl ?_
    refine z_iload_n 2 d_F_findFreeRow_33 rfl rfl ?_
    refine z_isub d_F_findFreeRow_34 ?_
    refine z_iconst (v := (1 : Int32)) d_F_findFreeRow_35 (by decide) ?_
    refine z_iadd d_F_findFreeRow_36 ?_
    obtain ⟨rfl, rfl⟩ := kr _ _ (Option.some.inj hf).symm
    exact z_ret d_F_findFreeRow_37 rfl
set_option maxRecDepth 100000 in
set_option maxHeartbeats 4000000 in
theorem kj_F_findFreeRow_26_L4 {C : Ct} {mi : Nat} {y0 : Nat} {y1 : Int32} {y3 : Int32} {w0 : Int32} {h : Hp} {q : ((Int32 × Int32 × Hp) ⊕ ((Hp) ⊕ (Int32 × Hp)))} (hf : j_F_findFreeRow_26_L4 y0 y1 y3 w0 h = some q) : Keep W_F_findFreeRow h (Sum.elim (fun s : Int32 × Int32 × Hp => s.2.2) (Sum.elim (fun x : Hp => x) (fun r : (Int32 × Hp) => r.2)) q) := by
  unfold j_F_findFreeRow_26_L4 at hf
  rcases Classical.em (w0 < y1) with c8 | c8
  · rw [if_pos c8] at hf
    cases (Option.some.inj hf)
    exact (Keep.refl W_F_findFreeRow _)
  · rw [if_neg c8] at hf
    cases (Option.some.inj hf)
    exact (Keep.refl W_F_findFreeRow _)
def b_F_findFreeRow_4 (y0 : Nat) (y1 : Int32) (y2 : Int32) (y3 : Int32) (h : Hp) : Option ((Int32 × Int32 × Hp) ⊕ ((Hp) ⊕ (Int32 × Hp))) :=
  if (nI 32) ≤ y3 then (some (.inr (.inl h))) else (gd (isK h y0 1) (dr (hpR h y0 2) fun a3 => gd (isK h a3 70) (gd (inb y3 (hpL h a3)) (if (hpI h a3 y3.toNatClampNeg) = 0 then (j_F_findFreeRow_26_L4 y0 y1 y3 (0 : Int32) h) else (j_F_findFreeRow_26_L4 y0 y1 y3 (y2 + (1 : Int32)) h)))))
set_option maxRecDepth 100000 in
set_option maxHeartbeats 4000000 in
theorem zb_F_findFreeRow_4 {l : Launch} {C : Ct} {mi : Nat} {y0 : Nat} {y1 : Int32} {y2 : Int32} {y3 : Int32} {h h' : Hp} {v : Int32} {q : ((Int32 × Int32 × Hp) ⊕ ((Hp) ⊕ (Int32 × Hp)))} (hf : b_F_findFreeRow_4 y0 y1 y2 y3 h = some q) (kc : ∀ s, q = .inl s → Z l C mi m_F_findFreeRow 0 4 [(0, vr (some y0)), (1, vi y1), (2, vi s.1), (3, vi s.2.1)] [] s.2.2 (some (vi v)) h') (ke : ∀ x, q = .inr (.inl x) → Z l C mi m_F_findFreeRow 0 44 [] [] x (some (vi v)) h') (kr : ∀ rv rh, q = .inr (.inr (rv, rh)) → v = rv ∧ h' = rh) : Z l C mi m_F_findFreeRow 0 4 [(0, vr (some y0)), (1, vi y1), (2, vi y2), (3, vi y3)] [] h (some (vi v)) h' := by
  unfold b_F_findFreeRow_4 at hf
  refine z_iload_n 3 d_F_findFreeRow_4 rfl rfl ?_
  refine z_bipush (v := (nI 32)) d_F_findFreeRow_5 (by decide) ?_
  refine z_icmp_ge (tgt := 44) d_F_findFreeRow_7 (by decide) (fun c1 => ?_) (fun c1 => ?_)
  · rw [if_pos c1] at hf
    refine z_ls [] rfl ?_
    exact ke h (Option.some.inj hf).symm
  · rw [if_neg c1] at hf
    refine z_aload_n 0 d_F_findFreeRow_10 rfl rfl ?_
    obtain ⟨g2, hf⟩ := gd_some hf
    refine z_getR d_F_findFreeRow_11 (fl_K (isK_eq g2) fl_F_20_1) (fi_K (isK_eq g2) rfl) rfl ?_
    refine z_iload_n 3 d_F_findFreeRow_14 rfl rfl ?_
    obtain ⟨a3, e4, hf⟩ := dr_some hf
    obtain ⟨g5, hf⟩ := gd_some hf
    obtain ⟨g6, hf⟩ := gd_some hf
    refine z_zald d_F_findFreeRow_15 e4 (by rw [isK_eq g5]; decide) (by rw [isK_eq g5]; rfl) (inb_vp g6) ?_
    refine z_if_eq (tgt := 25) d_F_findFreeRow_16 (by decide) (fun c7 => ?_) (fun c7 => ?_)
    · rw [if_pos c7] at hf
      refine z_iconst (v := (0 : Int32)) d_F_findFreeRow_25 (by decide) ?_
      refine z_ls [0, 1, 3] rfl ?_
      exact zj_F_findFreeRow_26_L4 hf kc ke kr
    · rw [if_neg c7] at hf
      refine z_iload_n 2 d_F_findFreeRow_19 rfl rfl ?_
      refine z_iconst (v := (1 : Int32)) d_F_findFreeRow_20 (by decide) ?_
      refine z_iadd d_F_findFreeRow_21 ?_
      refine z_goto (tgt := 26) d_F_findFreeRow_22 (by decide) ?_
      refine z_ls [0, 1, 3] rfl ?_
      exact zj_F_findFreeRow_26_L4 hf kc ke kr
set_option maxRecDepth 100000 in
set_option maxHeartbeats 4000000 in
theorem kb_F_findFreeRow_4 {C : Ct} {mi : Nat} {y0 : Nat} {y1 : Int32} {y2 : Int32} {y3 : Int32} {h : Hp} {q : ((Int32 × Int32 × Hp) ⊕ ((Hp) ⊕ (Int32 × Hp)))} (hf : b_F_findFreeRow_4 y0 y1 y2 y3 h = some q) : Keep W_F_findFreeRow h (Sum.elim (fun s : Int32 × Int32 × Hp => s.2.2) (Sum.elim (fun x : Hp => x) (fun r : (Int32 × Hp) => r.2)) q) := by
  unfold b_F_findFreeRow_4 at hf
  rcases Classical.em ((nI 32) ≤ y3) with c1 | c1
  · rw [if_pos c1] at hf
    cases (Option.some.inj hf)
    exact (Keep.refl W_F_findFreeRow _)
  · rw [if_neg c1] at hf
    obtain ⟨g2, hf⟩ := gd_some hf
    obtain ⟨a3, e4, hf⟩ := dr_some hf
    obtain ⟨g5, hf⟩ := gd_some hf
    obtain ⟨g6, hf⟩ := gd_some hf
    rcases Classical.em ((hpI h a3 y3.toNatClampNeg) = 0) with c7 | c7
    · rw [if_pos c7] at hf
      exact (Keep.refl W_F_findFreeRow _).trans (kj_F_findFreeRow_26_L4 (C := C) (mi := mi) hf)
    · rw [if_neg c7] at hf
      exact (Keep.refl W_F_findFreeRow _).trans (kj_F_findFreeRow_26_L4 (C := C) (mi := mi) hf)
def l_F_findFreeRow_4 (y0 : Nat) (y1 : Int32) (s : Int32 × Int32 × Hp) : Option ((Hp) ⊕ (Int32 × Hp)) := lp (fun s => b_F_findFreeRow_4 y0 y1 s.1 s.2.1 s.2.2) FU s
theorem zzl_F_findFreeRow_4 {l : Launch} {C : Ct} {mi : Nat} {y0 : Nat} {y1 : Int32} {h' : Hp} {v : Int32} : ∀ (n : Nat) (s : Int32 × Int32 × Hp) (q : ((Hp) ⊕ (Int32 × Hp))), lp (fun s : Int32 × Int32 × Hp => b_F_findFreeRow_4 y0 y1 s.1 s.2.1 s.2.2) n s = some q → (∀ x, q = .inl x → Z l C mi m_F_findFreeRow 0 44 [] [] x (some (vi v)) h') → (∀ rv rh, q = .inr (rv, rh) → v = rv ∧ h' = rh) → Z l C mi m_F_findFreeRow 0 4 [(0, vr (some y0)), (1, vi y1), (2, vi s.1), (3, vi s.2.1)] [] s.2.2 (some (vi v)) h' := by
  intro n
  induction n with
  | zero => intro s q hl; cases hl
  | succ n ih =>
    intro s q hl ke kr
    rcases lp_some hl with ⟨s2, hb, hl2⟩ | hb
    · exact zb_F_findFreeRow_4 hb (fun s3 e3 => by cases e3; refine z_ls [0, 1, 2, 3] rfl ?_; exact ih s2 q hl2 ke kr) (fun x e3 => by cases e3) (fun rv rh e3 => by cases e3)
    · exact zb_F_findFreeRow_4 hb (fun s3 e3 => by cases e3) (fun x e3 => ke x (Sum.inr.inj e3)) (fun rv rh e3 => kr rv rh (Sum.inr.inj e3))
theorem zl_F_findFreeRow_4 {l : Launch} {C : Ct} {mi : Nat} {y0 : Nat} {y1 : Int32} {h' : Hp} {v : Int32} {s : Int32 × Int32 × Hp} {q : ((Hp) ⊕ (Int32 × Hp))} (hl : l_F_findFreeRow_4 y0 y1 s = some q) (ke : ∀ x, q = .inl x → Z l C mi m_F_findFreeRow 0 44 [] [] x (some (vi v)) h') (kr : ∀ rv rh, q = .inr (rv, rh) → v = rv ∧ h' = rh) : Z l C mi m_F_findFreeRow 0 4 [(0, vr (some y0)), (1, vi y1), (2, vi s.1), (3, vi s.2.1)] [] s.2.2 (some (vi v)) h' := zzl_F_findFreeRow_4 FU s q hl ke kr
theorem kl_F_findFreeRow_4 {C : Ct} {mi : Nat} {y0 : Nat} {y1 : Int32} {s : Int32 × Int32 × Hp} {q : ((Hp) ⊕ (Int32 × Hp))} (hl : l_F_findFreeRow_4 y0 y1 s = some q) : Keep W_F_findFreeRow s.2.2 ((Sum.elim (fun x : Hp => x) (fun r : (Int32 × Hp) => r.2)) q) := lpk (sh := (fun s : Int32 × Int32 × Hp => s.2.2)) (rh := (Sum.elim (fun x : Hp => x) (fun r : (Int32 × Hp) => r.2))) (fun s q hb => kb_F_findFreeRow_4 (C := C) (mi := mi) hb) FU s q hl
def f_F_findFreeRow (a0 : Nat) (p1 : Int32) (h : Hp) : Option (Int32 × Hp) :=
  lk (l_F_findFreeRow_4 a0 p1 ((0 : Int32), (0 : Int32), h)) (fun x9 => some ((-2 : Int32), x9)) some
set_option maxRecDepth 100000 in
set_option maxHeartbeats 4000000 in
theorem zf_F_findFreeRow {l : Launch} {C : Ct} {mi : Nat} {a0 : Nat} {p1 : Int32} {h h' : Hp} {v : Int32} (hf : f_F_findFreeRow a0 p1 h = some (v, h')) : Z l C mi m_F_findFreeRow 0 0 [(0, vr (some a0)), (1, vi p1)] [] h (some (vi v)) h' := by
  unfold f_F_findFreeRow at hf
  refine z_iconst (v := (0 : Int32)) d_F_findFreeRow_0 (by decide) ?_
  refine z_istore_n (ls2 := [(2, vi (0 : Int32)), (0, vr (some a0)), (1, vi p1)]) d_F_findFreeRow_1 rfl (by decide) rfl ?_
  refine z_iconst (v := (0 : Int32)) d_F_findFreeRow_2 (by decide) ?_
  refine z_istore_n (ls2 := [(3, vi (0 : Int32)), (2, vi (0 : Int32)), (0, vr (some a0)), (1, vi p1)]) d_F_findFreeRow_3 rfl (by decide) rfl ?_
  rcases lk_some hf with ⟨x9, el10, hf⟩ | ⟨x9r, el10, hf⟩
  · skip
    refine z_ls [2, 3, 1, 0] rfl ?_
    refine zl_F_findFreeRow_4 el10 (fun x2 e2 => ?_) (fun rv rh e2 => by cases e2)
    cases e2
    refine z_bipush (v := (-2 : Int32)) d_F_findFreeRow_44 (by decide) ?_
    obtain ⟨rfl, rfl⟩ := Prod.mk.inj (Option.some.inj hf)
    exact z_ret d_F_findFreeRow_46 rfl
  · skip
    refine z_ls [2, 3, 1, 0] rfl ?_
    refine zl_F_findFreeRow_4 el10 (fun x2 e2 => by cases e2) (fun rv rh e2 => ?_)
    cases e2
    have e4 := Prod.mk.inj (Option.some.inj hf)
    exact ⟨e4.1.symm, e4.2.symm⟩
set_option maxRecDepth 100000 in
set_option maxHeartbeats 4000000 in
theorem fr_F_findFreeRow {C : Ct} {mi : Nat} {a0 : Nat} {p1 : Int32} {h h' : Hp} {v : Int32} (hf : f_F_findFreeRow a0 p1 h = some (v, h')) : Keep W_F_findFreeRow h h' := by
  unfold f_F_findFreeRow at hf
  rcases lk_some hf with ⟨x9, el10, hf⟩ | ⟨x9r, el10, hf⟩
  · skip
    have K11 := (Keep.refl W_F_findFreeRow _).trans (kl_F_findFreeRow_4 (C := C) (mi := mi) el10)
    obtain ⟨rfl, rfl⟩ := Prod.mk.inj (Option.some.inj hf)
    exact K11
  · skip
    have K12 := (Keep.refl W_F_findFreeRow _).trans (kl_F_findFreeRow_4 (C := C) (mi := mi) el10)
    cases (Option.some.inj hf)
    exact K12
theorem c_F_findFreeRow {l : Launch} {C : Ct} {mi : Nat} {a0 : Nat} {p1 : Int32} {h h' : Hp} {v : Int32} (hf : f_F_findFreeRow a0 p1 h = some (v, h')) : Mt l C mi m_F_findFreeRow 0 [vr (some a0), vi p1] h (some (vi v)) h' := mt_I (ty := .int) rfl rfl rfl (by decide) (Nat.le_of_ble_eq_true rfl) (zf_F_findFreeRow hf)
-- VersionMaps$BlockFile.write(LVersionMaps$Chunk;)V
def m_F_write : Mi := (⟨"VersionMaps$BlockFile", "write", "(LVersionMaps$Chunk;)V"⟩, prog_2_method_4_code, 4, (Option.none : Option Jvm.ClassFile.FieldType), .return_)
theorem cw_F_write : cw_ok m_F_write 1 := ⟨by decide +kernel, by decide +kernel, by decide +kernel, by decide +kernel⟩
theorem im_F_write : Cond.instanceMethod m_F_write.1 ∈ lw_w := by decide +kernel
theorem se_F_write : Cond.selects "VersionMaps$BlockFile" m_F_write.1 m_F_write.1 ∈ lw_w := by decide +kernel
theorem d_F_write_0 : decode prog_2_method_4_code 0 = .ok (.iconst 0, 1) := by decide +kernel
theorem d_F_write_1 : decode prog_2_method_4_code 1 = .ok (.istore_n 2, 1) := by decide +kernel
theorem d_F_write_2 : decode prog_2_method_4_code 2 = .ok (.iload_n 2, 1) := by decide +kernel
theorem d_F_write_3 : decode prog_2_method_4_code 3 = .ok (.aload_n 1, 1) := by decide +kernel
theorem d_F_write_4 : decode prog_2_method_4_code 4 = .ok (.invokevirtual 35, 3) := by decide +kernel
theorem d_F_write_7 : decode prog_2_method_4_code 7 = .ok (.if_icmp .ge 57, 3) := by decide +kernel
theorem d_F_write_10 : decode prog_2_method_4_code 10 = .ok (.aload_n 1, 1) := by decide +kernel
theorem d_F_write_11 : decode prog_2_method_4_code 11 = .ok (.getfield 39, 3) := by decide +kernel
theorem d_F_write_14 : decode prog_2_method_4_code 14 = .ok (.iload_n 2, 1) := by decide +kernel
theorem d_F_write_15 : decode prog_2_method_4_code 15 = .ok (.iadd, 1) := by decide +kernel
theorem d_F_write_16 : decode prog_2_method_4_code 16 = .ok (.istore_n 3, 1) := by decide +kernel
theorem d_F_write_17 : decode prog_2_method_4_code 17 = .ok (.aload_n 0, 1) := by decide +kernel
theorem d_F_write_18 : decode prog_2_method_4_code 18 = .ok (.getfield 11, 3) := by decide +kernel
theorem d_F_write_21 : decode prog_2_method_4_code 21 = .ok (.iload_n 3, 1) := by decide +kernel
theorem d_F_write_22 : decode prog_2_method_4_code 22 = .ok (.aload_n 1, 1) := by decide +kernel
theorem d_F_write_23 : decode prog_2_method_4_code 23 = .ok (.aastore, 1) := by decide +kernel
theorem d_F_write_24 : decode prog_2_method_4_code 24 = .ok (.aload_n 0, 1) := by decide +kernel
theorem d_F_write_25 : decode prog_2_method_4_code 25 = .ok (.getfield 20, 3) := by decide +kernel
theorem d_F_write_28 : decode prog_2_method_4_code 28 = .ok (.iload_n 3, 1) := by decide +kernel
theorem d_F_write_29 : decode prog_2_method_4_code 29 = .ok (.iconst 0, 1) := by decide +kernel
theorem d_F_write_30 : decode prog_2_method_4_code 30 = .ok (.bastore, 1) := by decide +kernel
theorem d_F_write_31 : decode prog_2_method_4_code 31 = .ok (.aload_n 0, 1) := by decide +kernel
theorem d_F_write_32 : decode prog_2_method_4_code 32 = .ok (.getfield 24, 3) := by decide +kernel
theorem d_F_write_35 : decode prog_2_method_4_code 35 = .ok (.iload_n 3, 1) := by decide +kernel
theorem d_F_write_36 : decode prog_2_method_4_code 36 = .ok (.iconst 1, 1) := by decide +kernel
theorem d_F_write_37 : decode prog_2_method_4_code 37 = .ok (.bastore, 1) := by decide +kernel
theorem d_F_write_38 : decode prog_2_method_4_code 38 = .ok (.aload_n 0, 1) := by decide +kernel
theorem d_F_write_39 : decode prog_2_method_4_code 39 = .ok (.getfield 27, 3) := by decide +kernel
theorem d_F_write_42 : decode prog_2_method_4_code 42 = .ok (.aload_n 0, 1) := by decide +kernel
theorem d_F_write_43 : decode prog_2_method_4_code 43 = .ok (.getfield 31, 3) := by decide +kernel
theorem d_F_write_46 : decode prog_2_method_4_code 46 = .ok (.iload_n 3, 1) := by decide +kernel
theorem d_F_write_47 : decode prog_2_method_4_code 47 = .ok (.iastore, 1) := by decide +kernel
theorem d_F_write_48 : decode prog_2_method_4_code 48 = .ok (.aload_n 0, 1) := by decide +kernel
theorem d_F_write_49 : decode prog_2_method_4_code 49 = .ok (.dup, 1) := by decide +kernel
theorem d_F_write_50 : decode prog_2_method_4_code 50 = .ok (.getfield 31, 3) := by decide +kernel
theorem d_F_write_53 : decode prog_2_method_4_code 53 = .ok (.iconst 1, 1) := by decide +kernel
theorem d_F_write_54 : decode prog_2_method_4_code 54 = .ok (.iadd, 1) := by decide +kernel
theorem d_F_write_55 : decode prog_2_method_4_code 55 = .ok (.putfield 31, 3) := by decide +kernel
theorem d_F_write_58 : decode prog_2_method_4_code 58 = .ok (.iinc 2 1, 3) := by decide +kernel
theorem d_F_write_61 : decode prog_2_method_4_code 61 = .ok (.goto (-59), 3) := by decide +kernel
theorem d_F_write_64 : decode prog_2_method_4_code 64 = .ok (.return_, 1) := by decide +kernel
def W_F_write : Wl := ([(1, 5)], [68, 70, 71, 72])
def b_F_write_2 (y0 : Nat) (y1 : Option Nat) (y2 : Int32) (h : Hp) : Option ((Int32 × Hp) ⊕ (Hp)) :=
  dr y1 fun a1 => gd (isK h a1 2) (cl (f_K_blockCount a1 h) fun v6 h4 => if v6 ≤ y2 then (some (.inr h4)) else (gd (isK h4 a1 2) (gd (isK h4 y0 1) (dr (hpR h4 y0 0) fun a11 => gd (isK h4 a11 68) (gd (inb ((hpI h4 a1 1) + y2) (hpL h4 a11)) (gd (asV h4 y1 a11) (nm (wR h4 a11 ((hpI h4 a1 1) + y2).toNatClampNeg y1) fun h16 => dr (hpR h16 y0 2) fun a19 => gd (isK h16 a19 70) (gd (inb ((hpI h4 a1 1) + y2) (hpL h16 a19)) (nm (wI h16 a19 ((hpI h4 a1 1) + y2).toNatClampNeg (vp_nar .boolean (0 : Int32))) fun h23 => dr (hpR h23 y0 3) fun a26 => gd (isK h23 a26 71) (gd (inb ((hpI h4 a1 1) + y2) (hpL h23 a26)) (nm (wI h23 a26 ((hpI h4 a1 1) + y2).toNatClampNeg (vp_nar .boolean (1 : Int32))) fun h30 => dr (hpR h30 y0 4) fun a33 => gd (isK h30 a33 72) (gd (inb (hpI h30 y0 5) (hpL h30 a33)) (nm (wI h30 a33 (hpI h30 y0 5).toNatClampNeg ((hpI h4 a1 1) + y2)) fun h37 => nm (wI h37 y0 5 ((hpI h37 y0 5) + (1 : Int32))) fun h40 => some (.inl ((y2 + (1 : Int32)), h40)))))))))))))))
set_option maxRecDepth 100000 in
set_option maxHeartbeats 4000000 in
theorem zb_F_write_2 {l : Launch} {C : Ct} {mi : Nat} {y0 : Nat} {y1 : Option Nat} {y2 : Int32} {h h' : Hp} {q : ((Int32 × Hp) ⊕ (Hp))} (hf : b_F_write_2 y0 y1 y2 h = some q) (kc : ∀ s, q = .inl s → Z l C mi m_F_write 2 2 [(0, vr (some y0)), (1, vr y1), (2, vi s.1)] [] s.2 none h') (ke : ∀ x, q = .inr x → Z l C mi m_F_write 2 64 [] [] x none h') : Z l C mi m_F_write 2 2 [(0, vr (some y0)), (1, vr y1), (2, vi y2)] [] h none h' := by
  unfold b_F_write_2 at hf
  refine z_iload_n 2 d_F_write_2 rfl rfl ?_
  refine z_aload_n 1 d_F_write_3 rfl rfl ?_
  obtain ⟨a1, e2, hf⟩ := dr_some hf
  obtain ⟨g3, hf⟩ := gd_some hf
  obtain ⟨v6, h4, ec5, hf⟩ := cl_some hf
  refine z_callVx e2 (c_K_blockCount ec5) d_F_write_4 cw_K_blockCount lk_F_35 im_K_blockCount se_K_blockCount (kc_K (isK_eq g3) kc_2) ⟨by decide, by decide⟩ (Nat.le_of_ble_eq_true rfl) rfl ?_
  refine z_icmp_ge (tgt := 64) d_F_write_7 (by decide) (fun c8 => ?_) (fun c8 => ?_)
  · rw [if_pos c8] at hf
    refine z_ls [] rfl ?_
    exact ke h4 (Option.some.inj hf).symm
  · rw [if_neg c8] at hf
    refine z_aload_n 1 d_F_write_10 rfl rfl ?_
    obtain ⟨g9, hf⟩ := gd_some hf
    refine z_getI d_F_write_11 (fl_K (isK_eq g9) fl_F_39_2) (fi_K (isK_eq g9) rfl) e2 ?_
    refine z_iload_n 2 d_F_write_14 rfl rfl ?_
    refine z_iadd d_F_write_15 ?_
    refine z_istore_n (ls2 := [(3, vi ((hpI h4 a1 1) + y2)), (0, vr (some y0)), (1, vr y1), (2, vi y2)]) d_F_write_16 rfl (by decide) rfl ?_
    refine z_aload_n 1 d_F_write_17 rfl rfl ?_
    obtain ⟨g10, hf⟩ := gd_some hf
    refine z_getR d_F_write_18 (fl_K (isK_eq g10) fl_F_11_1) (fi_K (isK_eq g10) rfl) rfl ?_
    refine z_iload_n 0 d_F_write_21 rfl rfl ?_
    refine z_aload_n 2 d_F_write_22 rfl rfl ?_
    obtain ⟨a11, e12, hf⟩ := dr_some hf
    obtain ⟨g13, hf⟩ := gd_some hf
    obtain ⟨g14, hf⟩ := gd_some hf
    obtain ⟨g15, hf⟩ := gd_some hf
    obtain ⟨h16, eh17, hf⟩ := nm_some hf
    refine z_aast d_F_write_23 e12 (by rw [isK_eq g13]; decide) (by rw [isK_eq g13]; decide) (asV_ok g15) (inb_vp g14) ?_
    refine z_hp eh17 ?_
    refine z_aload_n 1 d_F_write_24 rfl rfl ?_
    refine z_getR d_F_write_25 (fl_K (isK_eq (isK_wR eh17 g10)) fl_F_20_1) (fi_K (isK_eq (isK_wR eh17 g10)) rfl) rfl ?_
    refine z_iload_n 0 d_F_write_28 rfl rfl ?_
    refine z_iconst (v := (0 : Int32)) d_F_write_29 (by decide) ?_
    obtain ⟨a19, e20, hf⟩ := dr_some hf
    obtain ⟨g21, hf⟩ := gd_some hf
    obtain ⟨g22, hf⟩ := gd_some hf
    obtain ⟨h23, eh24, hf⟩ := nm_some hf
    refine z_zast d_F_write_30 e20 (by rw [isK_eq g21]; decide) (by rw [isK_eq g21]; rfl) (inb_vp g22) ?_
    refine z_hp eh24 ?_
    refine z_aload_n 1 d_F_write_31 rfl rfl ?_
    refine z_getR d_F_write_32 (fl_K (isK_eq (isK_wI eh24 (isK_wR eh17 g10))) fl_F_24_1) (fi_K (isK_eq (isK_wI eh24 (isK_wR eh17 g10))) rfl) rfl ?_
    refine z_iload_n 0 d_F_write_35 rfl rfl ?_
    refine z_iconst (v := (1 : Int32)) d_F_write_36 (by decide) ?_
    obtain ⟨a26, e27, hf⟩ := dr_some hf
    obtain ⟨g28, hf⟩ := gd_some hf
    obtain ⟨g29, hf⟩ := gd_some hf
    obtain ⟨h30, eh31, hf⟩ := nm_some hf
    refine z_zast d_F_write_37 e27 (by rw [isK_eq g28]; decide) (by rw [isK_eq g28]; rfl) (inb_vp g29) ?_
    refine z_hp eh31 ?_
    refine z_aload_n 1 d_F_write_38 rfl rfl ?_
    refine z_getR d_F_write_39 (fl_K (isK_eq (isK_wI eh31 (isK_wI eh24 (isK_wR eh17 g10)))) fl_F_27_1) (fi_K (isK_eq (isK_wI eh31 (isK_wI eh24 (isK_wR eh17 g10)))) rfl) rfl ?_
    refine z_aload_n 1 d_F_write_42 rfl rfl ?_
    refine z_getI d_F_write_43 (fl_K (isK_eq (isK_wI eh31 (isK_wI eh24 (isK_wR eh17 g10)))) fl_F_31_1) (fi_K (isK_eq (isK_wI eh31 (isK_wI eh24 (isK_wR eh17 g10)))) rfl) rfl ?_
    refine z_iload_n 0 d_F_write_46 rfl rfl ?_
    obtain ⟨a33, e34, hf⟩ := dr_some hf
    obtain ⟨g35, hf⟩ := gd_some hf
    obtain ⟨g36, hf⟩ := gd_some hf
    obtain ⟨h37, eh38, hf⟩ := nm_some hf
    refine z_iast d_F_write_47 e34 (by rw [isK_eq g35]; decide) (by rw [isK_eq g35]; rfl) (inb_vp g36) ?_
    refine z_hp eh38 ?_
    refine z_aload_n 1 d_F_write_48 rfl rfl ?_
    refine z_dup d_F_write_49 rfl ?_
    refine z_getI d_F_write_50 (fl_K (isK_eq (isK_wI eh38 (isK_wI eh31 (isK_wI eh24 (isK_wR eh17 g10))))) fl_F_31_1) (fi_K (isK_eq (isK_wI eh38 (isK_wI eh31 (isK_wI eh24 (isK_wR eh17 g10))))) rfl) rfl ?_
    refine z_iconst (v := (1 : Int32)) d_F_write_53 (by decide) ?_
    refine z_iadd d_F_write_54 ?_
    obtain ⟨h40, eh41, hf⟩ := nm_some hf
    refine z_putI d_F_write_55 (fl_K (isK_eq (isK_wI eh38 (isK_wI eh31 (isK_wI eh24 (isK_wR eh17 g10))))) fl_F_31_1) (pu_K (isK_eq (isK_wI eh38 (isK_wI eh31 (isK_wI eh24 (isK_wR eh17 g10))))) (fun q hq => by cases (Option.some.inj hq); exact Or.inl rfl)) (fi_K (isK_eq (isK_wI eh38 (isK_wI eh31 (isK_wI eh24 (isK_wR eh17 g10))))) rfl) rfl ?_
    refine z_hp eh41 ?_
    refine z_iinc (ls2 := [(2, vi (y2 + (1 : Int32))), (3, vi ((hpI h4 a1 1) + y2)), (0, vr (some y0)), (1, vr y1)]) 3 d_F_write_58 rfl rfl (by decide) rfl ?_
    refine z_goto (tgt := 2) d_F_write_61 (by decide) ?_
    refine z_ls [2, 3, 0] rfl ?_
    exact kc ((y2 + (1 : Int32)), h40) (Option.some.inj hf).symm
set_option maxRecDepth 100000 in
set_option maxHeartbeats 4000000 in
theorem kb_F_write_2 {C : Ct} {mi : Nat} {y0 : Nat} {y1 : Option Nat} {y2 : Int32} {h : Hp} {q : ((Int32 × Hp) ⊕ (Hp))} (hf : b_F_write_2 y0 y1 y2 h = some q) : Keep W_F_write h (Sum.elim (fun s : Int32 × Hp => s.2) (fun x : Hp => x) q) := by
  unfold b_F_write_2 at hf
  obtain ⟨a1, e2, hf⟩ := dr_some hf
  obtain ⟨g3, hf⟩ := gd_some hf
  obtain ⟨v6, h4, ec5, hf⟩ := cl_some hf
  have K7 := (Keep.refl W_F_write _).trans ((fr_K_blockCount (C := C) (mi := mi) ec5).mono (by decide) (by decide))
  rcases Classical.em (v6 ≤ y2) with c8 | c8
  · rw [if_pos c8] at hf
    cases (Option.some.inj hf)
    exact K7
  · rw [if_neg c8] at hf
    obtain ⟨g9, hf⟩ := gd_some hf
    obtain ⟨g10, hf⟩ := gd_some hf
    obtain ⟨a11, e12, hf⟩ := dr_some hf
    obtain ⟨g13, hf⟩ := gd_some hf
    obtain ⟨g14, hf⟩ := gd_some hf
    obtain ⟨g15, hf⟩ := gd_some hf
    obtain ⟨h16, eh17, hf⟩ := nm_some hf
    have K18 := K7.trans (kw_R eh17 (isK_eq g13) (Or.inr (by decide)))
    obtain ⟨a19, e20, hf⟩ := dr_some hf
    obtain ⟨g21, hf⟩ := gd_some hf
    obtain ⟨g22, hf⟩ := gd_some hf
    obtain ⟨h23, eh24, hf⟩ := nm_some hf
    have K25 := K18.trans (kw_I eh24 (isK_eq g21) (Or.inr (by decide)))
    obtain ⟨a26, e27, hf⟩ := dr_some hf
    obtain ⟨g28, hf⟩ := gd_some hf
    obtain ⟨g29, hf⟩ := gd_some hf
    obtain ⟨h30, eh31, hf⟩ := nm_some hf
    have K32 := K25.trans (kw_I eh31 (isK_eq g28) (Or.inr (by decide)))
    obtain ⟨a33, e34, hf⟩ := dr_some hf
    obtain ⟨g35, hf⟩ := gd_some hf
    obtain ⟨g36, hf⟩ := gd_some hf
    obtain ⟨h37, eh38, hf⟩ := nm_some hf
    have K39 := K32.trans (kw_I eh38 (isK_eq g35) (Or.inr (by decide)))
    obtain ⟨h40, eh41, hf⟩ := nm_some hf
    have K42 := K39.trans (kw_I eh41 (isK_eq (isK_wI eh38 (isK_wI eh31 (isK_wI eh24 (isK_wR eh17 g10))))) (Or.inl (by decide)))
    cases (Option.some.inj hf)
    exact K42
def l_F_write_2 (y0 : Nat) (y1 : Option Nat) (s : Int32 × Hp) : Option (Hp) := lp (fun s => b_F_write_2 y0 y1 s.1 s.2) FU s
theorem zzl_F_write_2 {l : Launch} {C : Ct} {mi : Nat} {y0 : Nat} {y1 : Option Nat} {h' : Hp} : ∀ (n : Nat) (s : Int32 × Hp) (x : (Hp)), lp (fun s : Int32 × Hp => b_F_write_2 y0 y1 s.1 s.2) n s = some x → Z l C mi m_F_write 2 64 [] [] x none h' → Z l C mi m_F_write 2 2 [(0, vr (some y0)), (1, vr y1), (2, vi s.1)] [] s.2 none h' := by
  intro n
  induction n with
  | zero => intro s x hl; cases hl
  | succ n ih =>
    intro s x hl ke
    rcases lp_some hl with ⟨s2, hb, hl2⟩ | hb
    · exact zb_F_write_2 hb (fun s3 e3 => by cases e3; refine z_ls [0, 1, 2] rfl ?_; exact ih s2 x hl2 ke) (fun x e3 => by cases e3)
    · exact zb_F_write_2 hb (fun s3 e3 => by cases e3) (fun x e3 => by cases e3; exact ke)
theorem zl_F_write_2 {l : Launch} {C : Ct} {mi : Nat} {y0 : Nat} {y1 : Option Nat} {h' : Hp} {s : Int32 × Hp} {x : (Hp)} (hl : l_F_write_2 y0 y1 s = some x) (ke : Z l C mi m_F_write 2 64 [] [] x none h') : Z l C mi m_F_write 2 2 [(0, vr (some y0)), (1, vr y1), (2, vi s.1)] [] s.2 none h' := zzl_F_write_2 FU s x hl ke
theorem kl_F_write_2 {C : Ct} {mi : Nat} {y0 : Nat} {y1 : Option Nat} {s : Int32 × Hp} {q : (Hp)} (hl : l_F_write_2 y0 y1 s = some q) : Keep W_F_write s.2 ((fun x : Hp => x) q) := lpk (sh := (fun s : Int32 × Hp => s.2)) (rh := (fun x : Hp => x)) (fun s q hb => kb_F_write_2 (C := C) (mi := mi) hb) FU s q hl
def f_F_write (a0 : Nat) (p1 : Option Nat) (h : Hp) : Option Hp :=
  bd (l_F_write_2 a0 p1 ((0 : Int32), h)) fun x43 => some x43
set_option maxRecDepth 100000 in
set_option maxHeartbeats 4000000 in
theorem zf_F_write {l : Launch} {C : Ct} {mi : Nat} {a0 : Nat} {p1 : Option Nat} {h h' : Hp} (hf : f_F_write a0 p1 h = some h') : Z l C mi m_F_write 2 0 [(0, vr (some a0)), (1, vr p1)] [] h none h' := by
  unfold f_F_write at hf
  refine z_iconst (v := (0 : Int32)) d_F_write_0 (by decide) ?_
  refine z_istore_n (ls2 := [(2, vi (0 : Int32)), (0, vr (some a0)), (1, vr p1)]) d_F_write_1 rfl (by decide) rfl ?_
  obtain ⟨x43, el44, hf⟩ := bd_some hf
  refine z_ls [1, 2, 0] rfl ?_
  refine zl_F_write_2 el44 ?_
  cases (Option.some.inj hf)
  exact z_ret d_F_write_64 rfl
set_option maxRecDepth 100000 in
set_option maxHeartbeats 4000000 in
theorem fr_F_write {C : Ct} {mi : Nat} {a0 : Nat} {p1 : Option Nat} {h h' : Hp} (hf : f_F_write a0 p1 h = some h') : Keep W_F_write h h' := by
  unfold f_F_write at hf
  obtain ⟨x43, el44, hf⟩ := bd_some hf
  have K45 := (Keep.refl W_F_write _).trans (kl_F_write_2 (C := C) (mi := mi) el44)
  cases (Option.some.inj hf)
  exact K45
theorem c_F_write {l : Launch} {C : Ct} {mi : Nat} {a0 : Nat} {p1 : Option Nat} {h h' : Hp} (hf : f_F_write a0 p1 h = some h') : Mt l C mi m_F_write 2 [vr (some a0), vr p1] h none h' := mt_V rfl rfl (by decide) (Nat.le_of_ble_eq_true rfl) (zf_F_write hf)
-- VersionMaps$BlockFile.settlePending()V
def m_F_settlePending : Mi := (⟨"VersionMaps$BlockFile", "settlePending", "()V"⟩, prog_2_method_6_code, 3, (Option.none : Option Jvm.ClassFile.FieldType), .return_)
theorem cw_F_settlePending : cw_ok m_F_settlePending 0 := ⟨by decide +kernel, by decide +kernel, by decide +kernel, by decide +kernel⟩
theorem im_F_settlePending : Cond.instanceMethod m_F_settlePending.1 ∈ lw_w := by decide +kernel
theorem se_F_settlePending : Cond.selects "VersionMaps$BlockFile" m_F_settlePending.1 m_F_settlePending.1 ∈ lw_w := by decide +kernel
theorem d_F_settlePending_0 : decode prog_2_method_6_code 0 = .ok (.iconst 0, 1) := by decide +kernel
theorem d_F_settlePending_1 : decode prog_2_method_6_code 1 = .ok (.istore_n 1, 1) := by decide +kernel
theorem d_F_settlePending_2 : decode prog_2_method_6_code 2 = .ok (.iload_n 1, 1) := by decide +kernel
theorem d_F_settlePending_3 : decode prog_2_method_6_code 3 = .ok (.aload_n 0, 1) := by decide +kernel
theorem d_F_settlePending_4 : decode prog_2_method_6_code 4 = .ok (.getfield 31, 3) := by decide +kernel
theorem d_F_settlePending_7 : decode prog_2_method_6_code 7 = .ok (.if_icmp .ge 35, 3) := by decide +kernel
theorem d_F_settlePending_10 : decode prog_2_method_6_code 10 = .ok (.aload_n 0, 1) := by decide +kernel
theorem d_F_settlePending_11 : decode prog_2_method_6_code 11 = .ok (.getfield 27, 3) := by decide +kernel
theorem d_F_settlePending_14 : decode prog_2_method_6_code 14 = .ok (.iload_n 1, 1) := by decide +kernel
theorem d_F_settlePending_15 : decode prog_2_method_6_code 15 = .ok (.iaload, 1) := by decide +kernel
theorem d_F_settlePending_16 : decode prog_2_method_6_code 16 = .ok (.istore_n 2, 1) := by decide +kernel
theorem d_F_settlePending_17 : decode prog_2_method_6_code 17 = .ok (.aload_n 0, 1) := by decide +kernel
theorem d_F_settlePending_18 : decode prog_2_method_6_code 18 = .ok (.getfield 24, 3) := by decide +kernel
theorem d_F_settlePending_21 : decode prog_2_method_6_code 21 = .ok (.iload_n 2, 1) := by decide +kernel
theorem d_F_settlePending_22 : decode prog_2_method_6_code 22 = .ok (.iconst 0, 1) := by decide +kernel
theorem d_F_settlePending_23 : decode prog_2_method_6_code 23 = .ok (.bastore, 1) := by decide +kernel
theorem d_F_settlePending_24 : decode prog_2_method_6_code 24 = .ok (.aload_n 0, 1) := by decide +kernel
theorem d_F_settlePending_25 : decode prog_2_method_6_code 25 = .ok (.getfield 17, 3) := by decide +kernel
theorem d_F_settlePending_28 : decode prog_2_method_6_code 28 = .ok (.iload_n 2, 1) := by decide +kernel
theorem d_F_settlePending_29 : decode prog_2_method_6_code 29 = .ok (.aload_n 0, 1) := by decide +kernel
theorem d_F_settlePending_30 : decode prog_2_method_6_code 30 = .ok (.getfield 11, 3) := by decide +kernel
theorem d_F_settlePending_33 : decode prog_2_method_6_code 33 = .ok (.iload_n 2, 1) := by decide +kernel
theorem d_F_settlePending_34 : decode prog_2_method_6_code 34 = .ok (.aaload, 1) := by decide +kernel
theorem d_F_settlePending_35 : decode prog_2_method_6_code 35 = .ok (.aastore, 1) := by decide +kernel
theorem d_F_settlePending_36 : decode prog_2_method_6_code 36 = .ok (.iinc 1 1, 3) := by decide +kernel
theorem d_F_settlePending_39 : decode prog_2_method_6_code 39 = .ok (.goto (-37), 3) := by decide +kernel
theorem d_F_settlePending_42 : decode prog_2_method_6_code 42 = .ok (.aload_n 0, 1) := by decide +kernel
theorem d_F_settlePending_43 : decode prog_2_method_6_code 43 = .ok (.iconst 0, 1) := by decide +kernel
theorem d_F_settlePending_44 : decode prog_2_method_6_code 44 = .ok (.putfield 31, 3) := by decide +kernel
theorem d_F_settlePending_47 : decode prog_2_method_6_code 47 = .ok (.return_, 1) := by decide +kernel
def W_F_settlePending : Wl := ([(1, 5)], [69, 71])
def b_F_settlePending_2 (y0 : Nat) (y1 : Int32) (h : Hp) : Option ((Int32 × Hp) ⊕ (Hp)) :=
  gd (isK h y0 1) (if (hpI h y0 5) ≤ y1 then (some (.inr h)) else (dr (hpR h y0 4) fun a3 => gd (isK h a3 72) (gd (inb y1 (hpL h a3)) (dr (hpR h y0 3) fun a7 => gd (isK h a7 71) (gd (inb (hpI h a3 y1.toNatClampNeg) (hpL h a7)) (nm (wI h a7 (hpI h a3 y1.toNatClampNeg).toNatClampNeg (vp_nar .boolean (0 : Int32))) fun h11 => dr (hpR h11 y0 0) fun a14 => gd (isK h11 a14 68) (gd (inb (hpI h a3 y1.toNatClampNeg) (hpL h11 a14)) (dr (hpR h11 y0 1) fun a18 => gd (isK h11 a18 69) (gd (inb (hpI h a3 y1.toNatClampNeg) (hpL h11 a18)) (gd (asV h11 (hpR h11 a14 (hpI h a3 y1.toNatClampNeg).toNatClampNeg) a18) (nm (wR h11 a18 (hpI h a3 y1.toNatClampNeg).toNatClampNeg (hpR h11 a14 (hpI h a3 y1.toNatClampNeg).toNatClampNeg)) fun h23 => some (.inl ((y1 + (1 : Int32)), h23)))))))))))))
set_option maxRecDepth 100000 in
set_option maxHeartbeats 4000000 in
theorem zb_F_settlePending_2 {l : Launch} {C : Ct} {mi : Nat} {y0 : Nat} {y1 : Int32} {h h' : Hp} {q : ((Int32 × Hp) ⊕ (Hp))} (hf : b_F_settlePending_2 y0 y1 h = some q) (kc : ∀ s, q = .inl s → Z l C mi m_F_settlePending 0 2 [(0, vr (some y0)), (1, vi s.1)] [] s.2 none h') (ke : ∀ x, q = .inr x → Z l C mi m_F_settlePending 0 42 [(0, vr (some y0))] [] x none h') : Z l C mi m_F_settlePending 0 2 [(0, vr (some y0)), (1, vi y1)] [] h none h' := by
  unfold b_F_settlePending_2 at hf
  refine z_iload_n 1 d_F_settlePending_2 rfl rfl ?_
  refine z_aload_n 0 d_F_settlePending_3 rfl rfl ?_
  obtain ⟨g1, hf⟩ := gd_some hf
  refine z_getI d_F_settlePending_4 (fl_K (isK_eq g1) fl_F_31_1) (fi_K (isK_eq g1) rfl) rfl ?_
  refine z_icmp_ge (tgt := 42) d_F_settlePending_7 (by decide) (fun c2 => ?_) (fun c2 => ?_)
  · rw [if_pos c2] at hf
    refine z_ls [0] rfl ?_
    exact ke h (Option.some.inj hf).symm
  · rw [if_neg c2] at hf
    refine z_aload_n 0 d_F_settlePending_10 rfl rfl ?_
    refine z_getR d_F_settlePending_11 (fl_K (isK_eq g1) fl_F_27_1) (fi_K (isK_eq g1) rfl) rfl ?_
    refine z_iload_n 1 d_F_settlePending_14 rfl rfl ?_
    obtain ⟨a3, e4, hf⟩ := dr_some hf
    obtain ⟨g5, hf⟩ := gd_some hf
    obtain ⟨g6, hf⟩ := gd_some hf
    refine z_iald d_F_settlePending_15 e4 (by rw [isK_eq g5]; decide) (by rw [isK_eq g5]; rfl) (inb_vp g6) ?_
    refine z_istore_n (ls2 := [(2, vi (hpI h a3 y1.toNatClampNeg)), (0, vr (some y0)), (1, vi y1)]) d_F_settlePending_16 rfl (by decide) rfl ?_
    refine z_aload_n 1 d_F_settlePending_17 rfl rfl ?_
    refine z_getR d_F_settlePending_18 (fl_K (isK_eq g1) fl_F_24_1) (fi_K (isK_eq g1) rfl) rfl ?_
    refine z_iload_n 0 d_F_settlePending_21 rfl rfl ?_
    refine z_iconst (v := (0 : Int32)) d_F_settlePending_22 (by decide) ?_
    obtain ⟨a7, e8, hf⟩ := dr_some hf
    obtain ⟨g9, hf⟩ := gd_some hf
    obtain ⟨g10, hf⟩ := gd_some hf
    obtain ⟨h11, eh12, hf⟩ := nm_some hf
    refine z_zast d_F_settlePending_23 e8 (by rw [isK_eq g9]; decide) (by rw [isK_eq g9]; rfl) (inb_vp g10) ?_
    refine z_hp eh12 ?_
    refine z_aload_n 1 d_F_settlePending_24 rfl rfl ?_
    refine z_getR d_F_settlePending_25 (fl_K (isK_eq (isK_wI eh12 g1)) fl_F_17_1) (fi_K (isK_eq (isK_wI eh12 g1)) rfl) rfl ?_
    refine z_iload_n 0 d_F_settlePending_28 rfl rfl ?_
    refine z_aload_n 1 d_F_settlePending_29 rfl rfl ?_
    refine z_getR d_F_settlePending_30 (fl_K (isK_eq (isK_wI eh12 g1)) fl_F_11_1) (fi_K (isK_eq (isK_wI eh12 g1)) rfl) rfl ?_
    refine z_iload_n 0 d_F_settlePending_33 rfl rfl ?_
    obtain ⟨a14, e15, hf⟩ := dr_some hf
    obtain ⟨g16, hf⟩ := gd_some hf
    obtain ⟨g17, hf⟩ := gd_some hf
    refine z_aald d_F_settlePending_34 e15 (by rw [isK_eq g16]; decide) (by rw [isK_eq g16]; decide) (inb_vp g17) ?_
    obtain ⟨a18, e19, hf⟩ := dr_some hf
    obtain ⟨g20, hf⟩ := gd_some hf
    obtain ⟨g21, hf⟩ := gd_some hf
    obtain ⟨g22, hf⟩ := gd_some hf
    obtain ⟨h23, eh24, hf⟩ := nm_some hf
    refine z_aast d_F_settlePending_35 e19 (by rw [isK_eq g20]; decide) (by rw [isK_eq g20]; decide) (asV_ok g22) (inb_vp g21) ?_
    refine z_hp eh24 ?_
    refine z_iinc (ls2 := [(1, vi (y1 + (1 : Int32))), (2, vi (hpI h a3 y1.toNatClampNeg)), (0, vr (some y0))]) 2 d_F_settlePending_36 rfl rfl (by decide) rfl ?_
    refine z_goto (tgt := 2) d_F_settlePending_39 (by decide) ?_
    refine z_ls [2, 0] rfl ?_
    exact kc ((y1 + (1 : Int32)), h23) (Option.some.inj hf).symm
set_option maxRecDepth 100000 in
set_option maxHeartbeats 4000000 in
theorem kb_F_settlePending_2 {C : Ct} {mi : Nat} {y0 : Nat} {y1 : Int32} {h : Hp} {q : ((Int32 × Hp) ⊕ (Hp))} (hf : b_F_settlePending_2 y0 y1 h = some q) : Keep W_F_settlePending h (Sum.elim (fun s : Int32 × Hp => s.2) (fun x : Hp => x) q) := by
  unfold b_F_settlePending_2 at hf
  obtain ⟨g1, hf⟩ := gd_some hf
  rcases Classical.em ((hpI h y0 5) ≤ y1) with c2 | c2
  · rw [if_pos c2] at hf
    cases (Option.some.inj hf)
    exact (Keep.refl W_F_settlePending _)
  · rw [if_neg c2] at hf
    obtain ⟨a3, e4, hf⟩ := dr_some hf
    obtain ⟨g5, hf⟩ := gd_some hf
    obtain ⟨g6, hf⟩ := gd_some hf
    obtain ⟨a7, e8, hf⟩ := dr_some hf
    obtain ⟨g9, hf⟩ := gd_some hf
    obtain ⟨g10, hf⟩ := gd_some hf
    obtain ⟨h11, eh12, hf⟩ := nm_some hf
    have K13 := (Keep.refl W_F_settlePending _).trans (kw_I eh12 (isK_eq g9) (Or.inr (by decide)))
    obtain ⟨a14, e15, hf⟩ := dr_some hf
    obtain ⟨g16, hf⟩ := gd_some hf
    obtain ⟨g17, hf⟩ := gd_some hf
    obtain ⟨a18, e19, hf⟩ := dr_some hf
    obtain ⟨g20, hf⟩ := gd_some hf
    obtain ⟨g21, hf⟩ := gd_some hf
    obtain ⟨g22, hf⟩ := gd_some hf
    obtain ⟨h23, eh24, hf⟩ := nm_some hf
    have K25 := K13.trans (kw_R eh24 (isK_eq g20) (Or.inr (by decide)))
    cases (Option.some.inj hf)
    exact K25
def l_F_settlePending_2 (y0 : Nat) (s : Int32 × Hp) : Option (Hp) := lp (fun s => b_F_settlePending_2 y0 s.1 s.2) FU s
theorem zzl_F_settlePending_2 {l : Launch} {C : Ct} {mi : Nat} {y0 : Nat} {h' : Hp} : ∀ (n : Nat) (s : Int32 × Hp) (x : (Hp)), lp (fun s : Int32 × Hp => b_F_settlePending_2 y0 s.1 s.2) n s = some x → Z l C mi m_F_settlePending 0 42 [(0, vr (some y0))] [] x none h' → Z l C mi m_F_settlePending 0 2 [(0, vr (some y0)), (1, vi s.1)] [] s.2 none h' := by
  intro n
  induction n with
  | zero => intro s x hl; cases hl
  | succ n ih =>
    intro s x hl ke
    rcases lp_some hl with ⟨s2, hb, hl2⟩ | hb
    · exact zb_F_settlePending_2 hb (fun s3 e3 => by cases e3; refine z_ls [0, 1] rfl ?_; exact ih s2 x hl2 ke) (fun x e3 => by cases e3)
    · exact zb_F_settlePending_2 hb (fun s3 e3 => by cases e3) (fun x e3 => by cases e3; exact ke)
theorem zl_F_settlePending_2 {l : Launch} {C : Ct} {mi : Nat} {y0 : Nat} {h' : Hp} {s : Int32 × Hp} {x : (Hp)} (hl : l_F_settlePending_2 y0 s = some x) (ke : Z l C mi m_F_settlePending 0 42 [(0, vr (some y0))] [] x none h') : Z l C mi m_F_settlePending 0 2 [(0, vr (some y0)), (1, vi s.1)] [] s.2 none h' := zzl_F_settlePending_2 FU s x hl ke
theorem kl_F_settlePending_2 {C : Ct} {mi : Nat} {y0 : Nat} {s : Int32 × Hp} {q : (Hp)} (hl : l_F_settlePending_2 y0 s = some q) : Keep W_F_settlePending s.2 ((fun x : Hp => x) q) := lpk (sh := (fun s : Int32 × Hp => s.2)) (rh := (fun x : Hp => x)) (fun s q hb => kb_F_settlePending_2 (C := C) (mi := mi) hb) FU s q hl
def f_F_settlePending (a0 : Nat) (h : Hp) : Option Hp :=
  bd (l_F_settlePending_2 a0 ((0 : Int32), h)) fun x26 => gd (isK x26 a0 1) (nm (wI x26 a0 5 (0 : Int32)) fun h30 => some h30)
set_option maxRecDepth 100000 in
set_option maxHeartbeats 4000000 in
theorem zf_F_settlePending {l : Launch} {C : Ct} {mi : Nat} {a0 : Nat} {h h' : Hp} (hf : f_F_settlePending a0 h = some h') : Z l C mi m_F_settlePending 0 0 [(0, vr (some a0))] [] h none h' := by
  unfold f_F_settlePending at hf
  refine z_iconst (v := (0 : Int32)) d_F_settlePending_0 (by decide) ?_
  refine z_istore_n (ls2 := [(1, vi (0 : Int32)), (0, vr (some a0))]) d_F_settlePending_1 rfl (by decide) rfl ?_
  obtain ⟨x26, el27, hf⟩ := bd_some hf
  refine z_ls [1, 0] rfl ?_
  refine zl_F_settlePending_2 el27 ?_
  refine z_aload_n 0 d_F_settlePending_42 rfl rfl ?_
  refine z_iconst (v := (0 : Int32)) d_F_settlePending_43 (by decide) ?_
  obtain ⟨g29, hf⟩ := gd_some hf
  obtain ⟨h30, eh31, hf⟩ := nm_some hf
  refine z_putI d_F_settlePending_44 (fl_K (isK_eq g29) fl_F_31_1) (pu_K (isK_eq g29) (fun q hq => by cases (Option.some.inj hq); exact Or.inl rfl)) (fi_K (isK_eq g29) rfl) rfl ?_
  refine z_hp eh31 ?_
  cases (Option.some.inj hf)
  exact z_ret d_F_settlePending_47 rfl
set_option maxRecDepth 100000 in
set_option maxHeartbeats 4000000 in
theorem fr_F_settlePending {C : Ct} {mi : Nat} {a0 : Nat} {h h' : Hp} (hf : f_F_settlePending a0 h = some h') : Keep W_F_settlePending h h' := by
  unfold f_F_settlePending at hf
  obtain ⟨x26, el27, hf⟩ := bd_some hf
  have K28 := (Keep.refl W_F_settlePending _).trans (kl_F_settlePending_2 (C := C) (mi := mi) el27)
  obtain ⟨g29, hf⟩ := gd_some hf
  obtain ⟨h30, eh31, hf⟩ := nm_some hf
  have K32 := K28.trans (kw_I eh31 (isK_eq g29) (Or.inl (by decide)))
  cases (Option.some.inj hf)
  exact K32
theorem c_F_settlePending {l : Launch} {C : Ct} {mi : Nat} {a0 : Nat} {h h' : Hp} (hf : f_F_settlePending a0 h = some h') : Mt l C mi m_F_settlePending 0 [vr (some a0)] h none h' := mt_V rfl rfl (by decide) (Nat.le_of_ble_eq_true rfl) (zf_F_settlePending hf)
-- VersionMaps$BlockFile.release(LVersionMaps$Chunk;)V
def m_F_release : Mi := (⟨"VersionMaps$BlockFile", "release", "(LVersionMaps$Chunk;)V"⟩, prog_2_method_5_code, 3, (Option.none : Option Jvm.ClassFile.FieldType), .return_)
theorem cw_F_release : cw_ok m_F_release 1 := ⟨by decide +kernel, by decide +kernel, by decide +kernel, by decide +kernel⟩
theorem im_F_release : Cond.instanceMethod m_F_release.1 ∈ lw_w := by decide +kernel
theorem se_F_release : Cond.selects "VersionMaps$BlockFile" m_F_release.1 m_F_release.1 ∈ lw_w := by decide +kernel
theorem d_F_release_0 : decode prog_2_method_5_code 0 = .ok (.iconst 0, 1) := by decide +kernel
theorem d_F_release_1 : decode prog_2_method_5_code 1 = .ok (.istore_n 2, 1) := by decide +kernel
theorem d_F_release_2 : decode prog_2_method_5_code 2 = .ok (.iload_n 2, 1) := by decide +kernel
theorem d_F_release_3 : decode prog_2_method_5_code 3 = .ok (.aload_n 1, 1) := by decide +kernel
theorem d_F_release_4 : decode prog_2_method_5_code 4 = .ok (.invokevirtual 35, 3) := by decide +kernel
theorem d_F_release_7 : decode prog_2_method_5_code 7 = .ok (.if_icmp .ge 21, 3) := by decide +kernel
theorem d_F_release_10 : decode prog_2_method_5_code 10 = .ok (.aload_n 0, 1) := by decide +kernel
theorem d_F_release_11 : decode prog_2_method_5_code 11 = .ok (.getfield 20, 3) := by decide +kernel
theorem d_F_release_14 : decode prog_2_method_5_code 14 = .ok (.aload_n 1, 1) := by decide +kernel
theorem d_F_release_15 : decode prog_2_method_5_code 15 = .ok (.getfield 39, 3) := by decide +kernel
theorem d_F_release_18 : decode prog_2_method_5_code 18 = .ok (.iload_n 2, 1) := by decide +kernel
theorem d_F_release_19 : decode prog_2_method_5_code 19 = .ok (.iadd, 1) := by decide +kernel
theorem d_F_release_20 : decode prog_2_method_5_code 20 = .ok (.iconst 1, 1) := by decide +kernel
theorem d_F_release_21 : decode prog_2_method_5_code 21 = .ok (.bastore, 1) := by decide +kernel
theorem d_F_release_22 : decode prog_2_method_5_code 22 = .ok (.iinc 2 1, 3) := by decide +kernel
theorem d_F_release_25 : decode prog_2_method_5_code 25 = .ok (.goto (-23), 3) := by decide +kernel
theorem d_F_release_28 : decode prog_2_method_5_code 28 = .ok (.return_, 1) := by decide +kernel
def W_F_release : Wl := ([], [70])
def b_F_release_2 (y0 : Nat) (y1 : Option Nat) (y2 : Int32) (h : Hp) : Option ((Int32 × Hp) ⊕ (Hp)) :=
  dr y1 fun a1 => gd (isK h a1 2) (cl (f_K_blockCount a1 h) fun v6 h4 => if v6 ≤ y2 then (some (.inr h4)) else (gd (isK h4 y0 1) (gd (isK h4 a1 2) (dr (hpR h4 y0 2) fun a11 => gd (isK h4 a11 70) (gd (inb ((hpI h4 a1 1) + y2) (hpL h4 a11)) (nm (wI h4 a11 ((hpI h4 a1 1) + y2).toNatClampNeg (vp_nar .boolean (1 : Int32))) fun h15 => some (.inl ((y2 + (1 : Int32)), h15))))))))
set_option maxRecDepth 100000 in
set_option maxHeartbeats 4000000 in
theorem zb_F_release_2 {l : Launch} {C : Ct} {mi : Nat} {y0 : Nat} {y1 : Option Nat} {y2 : Int32} {h h' : Hp} {q : ((Int32 × Hp) ⊕ (Hp))} (hf : b_F_release_2 y0 y1 y2 h = some q) (kc : ∀ s, q = .inl s → Z l C mi m_F_release 2 2 [(0, vr (some y0)), (1, vr y1), (2, vi s.1)] [] s.2 none h') (ke : ∀ x, q = .inr x → Z l C mi m_F_release 2 28 [] [] x none h') : Z l C mi m_F_release 2 2 [(0, vr (some y0)), (1, vr y1), (2, vi y2)] [] h none h' := by
  unfold b_F_release_2 at hf
  refine z_iload_n 2 d_F_release_2 rfl rfl ?_
  refine z_aload_n 1 d_F_release_3 rfl rfl ?_
  obtain ⟨a1, e2, hf⟩ := dr_some hf
  obtain ⟨g3, hf⟩ := gd_some hf
  obtain ⟨v6, h4, ec5, hf⟩ := cl_some hf
  refine z_callVx e2 (c_K_blockCount ec5) d_F_release_4 cw_K_blockCount lk_F_35 im_K_blockCount se_K_blockCount (kc_K (isK_eq g3) kc_2) ⟨by decide, by decide⟩ (Nat.le_of_ble_eq_true rfl) rfl ?_
  refine z_icmp_ge (tgt := 28) d_F_release_7 (by decide) (fun c8 => ?_) (fun c8 => ?_)
  · rw [if_pos c8] at hf
    refine z_ls [] rfl ?_
    exact ke h4 (Option.some.inj hf).symm
  · rw [if_neg c8] at hf
    refine z_aload_n 0 d_F_release_10 rfl rfl ?_
    obtain ⟨g9, hf⟩ := gd_some hf
    refine z_getR d_F_release_11 (fl_K (isK_eq g9) fl_F_20_1) (fi_K (isK_eq g9) rfl) rfl ?_
    refine z_aload_n 1 d_F_release_14 rfl rfl ?_
    obtain ⟨g10, hf⟩ := gd_some hf
    refine z_getI d_F_release_15 (fl_K (isK_eq g10) fl_F_39_2) (fi_K (isK_eq g10) rfl) e2 ?_
    refine z_iload_n 2 d_F_release_18 rfl rfl ?_
    refine z_iadd d_F_release_19 ?_
    refine z_iconst (v := (1 : Int32)) d_F_release_20 (by decide) ?_
    obtain ⟨a11, e12, hf⟩ := dr_some hf
    obtain ⟨g13, hf⟩ := gd_some hf
    obtain ⟨g14, hf⟩ := gd_some hf
    obtain ⟨h15, eh16, hf⟩ := nm_some hf
    refine z_zast d_F_release_21 e12 (by rw [isK_eq g13]; decide) (by rw [isK_eq g13]; rfl) (inb_vp g14) ?_
    refine z_hp eh16 ?_
    refine z_iinc (ls2 := [(2, vi (y2 + (1 : Int32))), (0, vr (some y0)), (1, vr y1)]) 2 d_F_release_22 rfl rfl (by decide) rfl ?_
    refine z_goto (tgt := 2) d_F_release_25 (by decide) ?_
    refine z_ls [1, 2, 0] rfl ?_
    exact kc ((y2 + (1 : Int32)), h15) (Option.some.inj hf).symm
set_option maxRecDepth 100000 in
set_option maxHeartbeats 4000000 in
theorem kb_F_release_2 {C : Ct} {mi : Nat} {y0 : Nat} {y1 : Option Nat} {y2 : Int32} {h : Hp} {q : ((Int32 × Hp) ⊕ (Hp))} (hf : b_F_release_2 y0 y1 y2 h = some q) : Keep W_F_release h (Sum.elim (fun s : Int32 × Hp => s.2) (fun x : Hp => x) q) := by
  unfold b_F_release_2 at hf
  obtain ⟨a1, e2, hf⟩ := dr_some hf
  obtain ⟨g3, hf⟩ := gd_some hf
  obtain ⟨v6, h4, ec5, hf⟩ := cl_some hf
  have K7 := (Keep.refl W_F_release _).trans ((fr_K_blockCount (C := C) (mi := mi) ec5).mono (by decide) (by decide))
  rcases Classical.em (v6 ≤ y2) with c8 | c8
  · rw [if_pos c8] at hf
    cases (Option.some.inj hf)
    exact K7
  · rw [if_neg c8] at hf
    obtain ⟨g9, hf⟩ := gd_some hf
    obtain ⟨g10, hf⟩ := gd_some hf
    obtain ⟨a11, e12, hf⟩ := dr_some hf
    obtain ⟨g13, hf⟩ := gd_some hf
    obtain ⟨g14, hf⟩ := gd_some hf
    obtain ⟨h15, eh16, hf⟩ := nm_some hf
    have K17 := K7.trans (kw_I eh16 (isK_eq g13) (Or.inr (by decide)))
    cases (Option.some.inj hf)
    exact K17
def l_F_release_2 (y0 : Nat) (y1 : Option Nat) (s : Int32 × Hp) : Option (Hp) := lp (fun s => b_F_release_2 y0 y1 s.1 s.2) FU s
theorem zzl_F_release_2 {l : Launch} {C : Ct} {mi : Nat} {y0 : Nat} {y1 : Option Nat} {h' : Hp} : ∀ (n : Nat) (s : Int32 × Hp) (x : (Hp)), lp (fun s : Int32 × Hp => b_F_release_2 y0 y1 s.1 s.2) n s = some x → Z l C mi m_F_release 2 28 [] [] x none h' → Z l C mi m_F_release 2 2 [(0, vr (some y0)), (1, vr y1), (2, vi s.1)] [] s.2 none h' := by
  intro n
  induction n with
  | zero => intro s x hl; cases hl
  | succ n ih =>
    intro s x hl ke
    rcases lp_some hl with ⟨s2, hb, hl2⟩ | hb
    · exact zb_F_release_2 hb (fun s3 e3 => by cases e3; refine z_ls [0, 1, 2] rfl ?_; exact ih s2 x hl2 ke) (fun x e3 => by cases e3)
    · exact zb_F_release_2 hb (fun s3 e3 => by cases e3) (fun x e3 => by cases e3; exact ke)
theorem zl_F_release_2 {l : Launch} {C : Ct} {mi : Nat} {y0 : Nat} {y1 : Option Nat} {h' : Hp} {s : Int32 × Hp} {x : (Hp)} (hl : l_F_release_2 y0 y1 s = some x) (ke : Z l C mi m_F_release 2 28 [] [] x none h') : Z l C mi m_F_release 2 2 [(0, vr (some y0)), (1, vr y1), (2, vi s.1)] [] s.2 none h' := zzl_F_release_2 FU s x hl ke
theorem kl_F_release_2 {C : Ct} {mi : Nat} {y0 : Nat} {y1 : Option Nat} {s : Int32 × Hp} {q : (Hp)} (hl : l_F_release_2 y0 y1 s = some q) : Keep W_F_release s.2 ((fun x : Hp => x) q) := lpk (sh := (fun s : Int32 × Hp => s.2)) (rh := (fun x : Hp => x)) (fun s q hb => kb_F_release_2 (C := C) (mi := mi) hb) FU s q hl
def f_F_release (a0 : Nat) (p1 : Option Nat) (h : Hp) : Option Hp :=
  bd (l_F_release_2 a0 p1 ((0 : Int32), h)) fun x18 => some x18
set_option maxRecDepth 100000 in
set_option maxHeartbeats 4000000 in
theorem zf_F_release {l : Launch} {C : Ct} {mi : Nat} {a0 : Nat} {p1 : Option Nat} {h h' : Hp} (hf : f_F_release a0 p1 h = some h') : Z l C mi m_F_release 2 0 [(0, vr (some a0)), (1, vr p1)] [] h none h' := by
  unfold f_F_release at hf
  refine z_iconst (v := (0 : Int32)) d_F_release_0 (by decide) ?_
  refine z_istore_n (ls2 := [(2, vi (0 : Int32)), (0, vr (some a0)), (1, vr p1)]) d_F_release_1 rfl (by decide) rfl ?_
  obtain ⟨x18, el19, hf⟩ := bd_some hf
  refine z_ls [1, 2, 0] rfl ?_
  refine zl_F_release_2 el19 ?_
  cases (Option.some.inj hf)
  exact z_ret d_F_release_28 rfl
set_option maxRecDepth 100000 in
set_option maxHeartbeats 4000000 in
theorem fr_F_release {C : Ct} {mi : Nat} {a0 : Nat} {p1 : Option Nat} {h h' : Hp} (hf : f_F_release a0 p1 h = some h') : Keep W_F_release h h' := by
  unfold f_F_release at hf
  obtain ⟨x18, el19, hf⟩ := bd_some hf
  have K20 := (Keep.refl W_F_release _).trans (kl_F_release_2 (C := C) (mi := mi) el19)
  cases (Option.some.inj hf)
  exact K20
theorem c_F_release {l : Launch} {C : Ct} {mi : Nat} {a0 : Nat} {p1 : Option Nat} {h h' : Hp} (hf : f_F_release a0 p1 h = some h') : Mt l C mi m_F_release 2 [vr (some a0), vr p1] h none h' := mt_V rfl rfl (by decide) (Nat.le_of_ble_eq_true rfl) (zf_F_release hf)
-- VersionMaps$BlockFile.losePending(II)V
def m_F_losePending : Mi := (⟨"VersionMaps$BlockFile", "losePending", "(II)V"⟩, prog_2_method_7_code, 6, (Option.none : Option Jvm.ClassFile.FieldType), .return_)
theorem cw_F_losePending : cw_ok m_F_losePending 2 := ⟨by decide +kernel, by decide +kernel, by decide +kernel, by decide +kernel⟩
theorem im_F_losePending : Cond.instanceMethod m_F_losePending.1 ∈ lw_w := by decide +kernel
theorem se_F_losePending : Cond.selects "VersionMaps$BlockFile" m_F_losePending.1 m_F_losePending.1 ∈ lw_w := by decide +kernel
theorem d_F_losePending_0 : decode prog_2_method_7_code 0 = .ok (.iload_n 1, 1) := by decide +kernel
theorem d_F_losePending_1 : decode prog_2_method_7_code 1 = .ok (.istore_n 3, 1) := by decide +kernel
theorem d_F_losePending_2 : decode prog_2_method_7_code 2 = .ok (.iload_n 3, 1) := by decide +kernel
theorem d_F_losePending_3 : decode prog_2_method_7_code 3 = .ok (.aload_n 0, 1) := by decide +kernel
theorem d_F_losePending_4 : decode prog_2_method_7_code 4 = .ok (.getfield 31, 3) := by decide +kernel
theorem d_F_losePending_7 : decode prog_2_method_7_code 7 = .ok (.if_icmp .ge 52, 3) := by decide +kernel
theorem d_F_losePending_10 : decode prog_2_method_7_code 10 = .ok (.iload_n 3, 1) := by decide +kernel
theorem d_F_losePending_11 : decode prog_2_method_7_code 11 = .ok (.iload_n 1, 1) := by decide +kernel
theorem d_F_losePending_12 : decode prog_2_method_7_code 12 = .ok (.isub, 1) := by decide +kernel
theorem d_F_losePending_13 : decode prog_2_method_7_code 13 = .ok (.istore 4, 2) := by decide +kernel
theorem d_F_losePending_15 : decode prog_2_method_7_code 15 = .ok (.iload 4, 2) := by decide +kernel
theorem d_F_losePending_17 : decode prog_2_method_7_code 17 = .ok (.bipush 16, 2) := by decide +kernel
theorem d_F_losePending_19 : decode prog_2_method_7_code 19 = .ok (.if_icmp .ge 12, 3) := by decide +kernel
theorem d_F_losePending_22 : decode prog_2_method_7_code 22 = .ok (.iload_n 2, 1) := by decide +kernel
theorem d_F_losePending_23 : decode prog_2_method_7_code 23 = .ok (.iload 4, 2) := by decide +kernel
theorem d_F_losePending_25 : decode prog_2_method_7_code 25 = .ok (.ishr, 1) := by decide +kernel
theorem d_F_losePending_26 : decode prog_2_method_7_code 26 = .ok (.iconst 1, 1) := by decide +kernel
theorem d_F_losePending_27 : decode prog_2_method_7_code 27 = .ok (.iand, 1) := by decide +kernel
theorem d_F_losePending_28 : decode prog_2_method_7_code 28 = .ok (.ifCond .ne 25, 3) := by decide +kernel
theorem d_F_losePending_31 : decode prog_2_method_7_code 31 = .ok (.aload_n 0, 1) := by decide +kernel
theorem d_F_losePending_32 : decode prog_2_method_7_code 32 = .ok (.getfield 27, 3) := by decide +kernel
theorem d_F_losePending_35 : decode prog_2_method_7_code 35 = .ok (.iload_n 3, 1) := by decide +kernel
theorem d_F_losePending_36 : decode prog_2_method_7_code 36 = .ok (.iaload, 1) := by decide +kernel
theorem d_F_losePending_37 : decode prog_2_method_7_code 37 = .ok (.istore 5, 2) := by decide +kernel
theorem d_F_losePending_39 : decode prog_2_method_7_code 39 = .ok (.aload_n 0, 1) := by decide +kernel
theorem d_F_losePending_40 : decode prog_2_method_7_code 40 = .ok (.getfield 11, 3) := by decide +kernel
theorem d_F_losePending_43 : decode prog_2_method_7_code 43 = .ok (.iload 5, 2) := by decide +kernel
theorem d_F_losePending_45 : decode prog_2_method_7_code 45 = .ok (.aload_n 0, 1) := by decide +kernel
theorem d_F_losePending_46 : decode prog_2_method_7_code 46 = .ok (.getfield 17, 3) := by decide +kernel
theorem d_F_losePending_49 : decode prog_2_method_7_code 49 = .ok (.iload 5, 2) := by decide +kernel
theorem d_F_losePending_51 : decode prog_2_method_7_code 51 = .ok (.aaload, 1) := by decide +kernel
theorem d_F_losePending_52 : decode prog_2_method_7_code 52 = .ok (.aastore, 1) := by decide +kernel
theorem d_F_losePending_53 : decode prog_2_method_7_code 53 = .ok (.iinc 3 1, 3) := by decide +kernel
theorem d_F_losePending_56 : decode prog_2_method_7_code 56 = .ok (.goto (-54), 3) := by decide +kernel
theorem d_F_losePending_59 : decode prog_2_method_7_code 59 = .ok (.aload_n 0, 1) := by decide +kernel
theorem d_F_losePending_60 : decode prog_2_method_7_code 60 = .ok (.invokevirtual 42, 3) := by decide +kernel
theorem d_F_losePending_63 : decode prog_2_method_7_code 63 = .ok (.return_, 1) := by decide +kernel
def W_F_losePending : Wl := ([(1, 5)], [68, 69, 71])
def j_F_losePending_31_L2 (y0 : Nat) (y1 : Int32) (y2 : Int32) (y3 : Int32) (h : Hp) : Option ((Int32 × Hp) ⊕ (Hp)) :=
  gd (isK h y0 1) (dr (hpR h y0 4) fun a5 => gd (isK h a5 72) (gd (inb y3 (hpL h a5)) (dr (hpR h y0 1) fun a9 => gd (isK h a9 69) (gd (inb (hpI h a5 y3.toNatClampNeg) (hpL h a9)) (dr (hpR h y0 0) fun a13 => gd (isK h a13 68) (gd (inb (hpI h a5 y3.toNatClampNeg) (hpL h a13)) (gd (asV h (hpR h a9 (hpI h a5 y3.toNatClampNeg).toNatClampNeg) a13) (nm (wR h a13 (hpI h a5 y3.toNatClampNeg).toNatClampNeg (hpR h a9 (hpI h a5 y3.toNatClampNeg).toNatClampNeg)) fun h18 => some (.inl ((y3 + (1 : Int32)), h18))))))))))
set_option maxRecDepth 100000 in
set_option maxHeartbeats 4000000 in
theorem zj_F_losePending_31_L2 {l : Launch} {C : Ct} {mi : Nat} {y0 : Nat} {y1 : Int32} {y2 : Int32} {y3 : Int32} {h h' : Hp} {q : ((Int32 × Hp) ⊕ (Hp))} (hf : j_F_losePending_31_L2 y0 y1 y2 y3 h = some q) (kc : ∀ s, q = .inl s → Z l C mi m_F_losePending 1 2 [(0, vr (some y0)), (1, vi y1), (2, vi y2), (3, vi s.1)] [] s.2 none h') (ke : ∀ x, q = .inr x → Z l C mi m_F_losePending 1 59 [(0, vr (some y0))] [] x none h') : Z l C mi m_F_losePending 1 31 [(0, vr (some y0)), (1, vi y1), (2, vi y2), (3, vi y3)] [] h none h' := by
  unfold j_F_losePending_31_L2 at hf
  refine z_aload_n 0 d_F_losePending_31 rfl rfl ?_
  obtain ⟨g4, hf⟩ := gd_some hf
  refine z_getR d_F_losePending_32 (fl_K (isK_eq g4) fl_F_27_1) (fi_K (isK_eq g4) rfl) rfl ?_
  refine z_iload_n 3 d_F_losePending_35 rfl rfl ?_
  obtain ⟨a5, e6, hf⟩ := dr_some hf
  obtain ⟨g7, hf⟩ := gd_some hf
  obtain ⟨g8, hf⟩ := gd_some hf
  refine z_iald d_F_losePending_36 e6 (by rw [isK_eq g7]; decide) (by rw [isK_eq g7]; rfl) (inb_vp g8) ?_
  refine z_istore (ls2 := [(5, vi (hpI h a5 y3.toNatClampNeg)), (0, vr (some y0)), (1, vi y1), (2, vi y2), (3, vi y3)]) d_F_losePending_37 (by decide) rfl ?_
  refine z_aload_n 1 d_F_losePending_39 rfl rfl ?_
  refine z_getR d_F_losePending_40 (fl_K (isK_eq g4) fl_F_11_1) (fi_K (isK_eq g4) rfl) rfl ?_
  refine z_iload 0 d_F_losePending_43 rfl ?_
  refine z_aload_n 1 d_F_losePending_45 rfl rfl ?_
  refine z_getR d_F_losePending_46 (fl_K (isK_eq g4) fl_F_17_1) (fi_K (isK_eq g4) rfl) rfl ?_
  refine z_iload 0 d_F_losePending_49 rfl ?_
  obtain ⟨a9, e10, hf⟩ := dr_some hf
  obtain ⟨g11, hf⟩ := gd_some hf
  obtain ⟨g12, hf⟩ := gd_some hf
  refine z_aald d_F_losePending_51 e10 (by rw [isK_eq g11]; decide) (by rw [isK_eq g11]; decide) (inb_vp g12) ?_
  obtain ⟨a13, e14, hf⟩ := dr_some hf
  obtain ⟨g15, hf⟩ := gd_some hf
  obtain ⟨g16, hf⟩ := gd_some hf
  obtain ⟨g17, hf⟩ := gd_some hf
  obtain ⟨h18, eh19, hf⟩ := nm_some hf
  refine z_aast d_F_losePending_52 e14 (by rw [isK_eq g15]; decide) (by rw [isK_eq g15]; decide) (asV_ok g17) (inb_vp g16) ?_
  refine z_hp eh19 ?_
  refine z_iinc (ls2 := [(3, vi (y3 + (1 : Int32))), (5, vi (hpI h a5 y3.toNatClampNeg)), (0, vr (some y0)), (1, vi y1), (2, vi y2)]) 4 d_F_losePending_53 rfl rfl (by decide) rfl ?_
  refine z_goto (tgt := 2) d_F_losePending_56 (by decide) ?_
  refine z_ls [2, 3, 4, 0] rfl ?_
  exact kc ((y3 + (1 : Int32)), h18) (Option.some.inj hf).symm
set_option maxRecDepth 100000 in
set_option maxHeartbeats 4000000 in
theorem kj_F_losePending_31_L2 {C : Ct} {mi : Nat} {y0 : Nat} {y1 : Int32} {y2 : Int32} {y3 : Int32} {h : Hp} {q : ((Int32 × Hp) ⊕ (Hp))} (hf : j_F_losePending_31_L2 y0 y1 y2 y3 h = some q) : Keep W_F_losePending h (Sum.elim (fun s : Int32 × Hp => s.2) (fun x : Hp => x) q) := by
  unfold j_F_losePending_31_L2 at hf
  obtain ⟨g4, hf⟩ := gd_some hf
  obtain ⟨a5, e6, hf⟩ := dr_some hf
  obtain ⟨g7, hf⟩ := gd_some hf
  obtain ⟨g8, hf⟩ := gd_some hf
  obtain ⟨a9, e10, hf⟩ := dr_some hf
  obtain ⟨g11, hf⟩ := gd_some hf
  obtain ⟨g12, hf⟩ := gd_some hf
  obtain ⟨a13, e14, hf⟩ := dr_some hf
  obtain ⟨g15, hf⟩ := gd_some hf
  obtain ⟨g16, hf⟩ := gd_some hf
  obtain ⟨g17, hf⟩ := gd_some hf
  obtain ⟨h18, eh19, hf⟩ := nm_some hf
  have K20 := (Keep.refl W_F_losePending _).trans (kw_R eh19 (isK_eq g15) (Or.inr (by decide)))
  cases (Option.some.inj hf)
  exact K20
def b_F_losePending_2 (y0 : Nat) (y1 : Int32) (y2 : Int32) (y3 : Int32) (h : Hp) : Option ((Int32 × Hp) ⊕ (Hp)) :=
  gd (isK h y0 1) (if (hpI h y0 5) ≤ y3 then (some (.inr h)) else (if (nI 16) ≤ (y3 - y1) then (j_F_losePending_31_L2 y0 y1 y2 y3 h) else (if ((y2 >>> ((y3 - y1) &&& 31)) &&& (1 : Int32)) = 0 then (j_F_losePending_31_L2 y0 y1 y2 y3 h) else (some (.inl ((y3 + (1 : Int32)), h))))))
set_option maxRecDepth 100000 in
set_option maxHeartbeats 4000000 in
theorem zb_F_losePending_2 {l : Launch} {C : Ct} {mi : Nat} {y0 : Nat} {y1 : Int32} {y2 : Int32} {y3 : Int32} {h h' : Hp} {q : ((Int32 × Hp) ⊕ (Hp))} (hf : b_F_losePending_2 y0 y1 y2 y3 h = some q) (kc : ∀ s, q = .inl s → Z l C mi m_F_losePending 1 2 [(0, vr (some y0)), (1, vi y1), (2, vi y2), (3, vi s.1)] [] s.2 none h') (ke : ∀ x, q = .inr x → Z l C mi m_F_losePending 1 59 [(0, vr (some y0))] [] x none h') : Z l C mi m_F_losePending 1 2 [(0, vr (some y0)), (1, vi y1), (2, vi y2), (3, vi y3)] [] h none h' := by
  unfold b_F_losePending_2 at hf
  refine z_iload_n 3 d_F_losePending_2 rfl rfl ?_
  refine z_aload_n 0 d_F_losePending_3 rfl rfl ?_
  obtain ⟨g1, hf⟩ := gd_some hf
  refine z_getI d_F_losePending_4 (fl_K (isK_eq g1) fl_F_31_1) (fi_K (isK_eq g1) rfl) rfl ?_
  refine z_icmp_ge (tgt := 59) d_F_losePending_7 (by decide) (fun c2 => ?_) (fun c2 => ?_)
  · rw [if_pos c2] at hf
    refine z_ls [0] rfl ?_
    exact ke h (Option.some.inj hf).symm
  · rw [if_neg c2] at hf
    refine z_iload_n 3 d_F_losePending_10 rfl rfl ?_
    refine z_iload_n 1 d_F_losePending_11 rfl rfl ?_
    refine z_isub d_F_losePending_12 ?_
    refine z_istore (ls2 := [(4, vi (y3 - y1)), (0, vr (some y0)), (1, vi y1), (2, vi y2), (3, vi y3)]) d_F_losePending_13 (by decide) rfl ?_
    refine z_iload 0 d_F_losePending_15 rfl ?_
    refine z_bipush (v := (nI 16)) d_F_losePending_17 (by decide) ?_
    refine z_icmp_ge (tgt := 31) d_F_losePending_19 (by decide) (fun c3 => ?_) (fun c3 => ?_)
    · rw [if_pos c3] at hf
      refine z_ls [1, 2, 3, 4] rfl ?_
      exact zj_F_losePending_31_L2 hf kc ke
    · rw [if_neg c3] at hf
      refine z_iload_n 3 d_F_losePending_22 rfl rfl ?_
      refine z_iload 0 d_F_losePending_23 rfl ?_
      refine z_ishr d_F_losePending_25 ?_
      refine z_iconst (v := (1 : Int32)) d_F_losePending_26 (by decide) ?_
      refine z_iand d_F_losePending_27 ?_
      refine z_if_ne (tgt := 53) d_F_losePending_28 (by decide) (fun c21 => ?_) (fun c21 => ?_)
      · rw [if_neg c21] at hf
        refine z_iinc (ls2 := [(3, vi (y3 + (1 : Int32))), (4, vi (y3 - y1)), (0, vr (some y0)), (1, vi y1), (2, vi y2)]) 4 d_F_losePending_53 rfl rfl (by decide) rfl ?_
        refine z_goto (tgt := 2) d_F_losePending_56 (by decide) ?_
        refine z_ls [2, 3, 4, 0] rfl ?_
        exact kc ((y3 + (1 : Int32)), h) (Option.some.inj hf).symm
      · rw [if_pos c21] at hf
        refine z_ls [1, 2, 3, 4] rfl ?_
        exact zj_F_losePending_31_L2 hf kc ke
set_option maxRecDepth 100000 in
set_option maxHeartbeats 4000000 in
theorem kb_F_losePending_2 {C : Ct} {mi : Nat} {y0 : Nat} {y1 : Int32} {y2 : Int32} {y3 : Int32} {h : Hp} {q : ((Int32 × Hp) ⊕ (Hp))} (hf : b_F_losePending_2 y0 y1 y2 y3 h = some q) : Keep W_F_losePending h (Sum.elim (fun s : Int32 × Hp => s.2) (fun x : Hp => x) q) := by
  unfold b_F_losePending_2 at hf
  obtain ⟨g1, hf⟩ := gd_some hf
  rcases Classical.em ((hpI h y0 5) ≤ y3) with c2 | c2
  · rw [if_pos c2] at hf
    cases (Option.some.inj hf)
    exact (Keep.refl W_F_losePending _)
  · rw [if_neg c2] at hf
    rcases Classical.em ((nI 16) ≤ (y3 - y1)) with c3 | c3
    · rw [if_pos c3] at hf
      exact (Keep.refl W_F_losePending _).trans (kj_F_losePending_31_L2 (C := C) (mi := mi) hf)
    · rw [if_neg c3] at hf
      rcases (Classical.em (((y2 >>> ((y3 - y1) &&& 31)) &&& (1 : Int32)) = 0)).symm with c21 | c21
      · rw [if_neg c21] at hf
        cases (Option.some.inj hf)
        exact (Keep.refl W_F_losePending _)
      · rw [if_pos c21] at hf
        exact (Keep.refl W_F_losePending _).trans (kj_F_losePending_31_L2 (C := C) (mi := mi) hf)
def l_F_losePending_2 (y0 : Nat) (y1 : Int32) (y2 : Int32) (s : Int32 × Hp) : Option (Hp) := lp (fun s => b_F_losePending_2 y0 y1 y2 s.1 s.2) FU s
theorem zzl_F_losePending_2 {l : Launch} {C : Ct} {mi : Nat} {y0 : Nat} {y1 : Int32} {y2 : Int32} {h' : Hp} : ∀ (n : Nat) (s : Int32 × Hp) (x : (Hp)), lp (fun s : Int32 × Hp => b_F_losePending_2 y0 y1 y2 s.1 s.2) n s = some x → Z l C mi m_F_losePending 1 59 [(0, vr (some y0))] [] x none h' → Z l C mi m_F_losePending 1 2 [(0, vr (some y0)), (1, vi y1), (2, vi y2), (3, vi s.1)] [] s.2 none h' := by
  intro n
  induction n with
  | zero => intro s x hl; cases hl
  | succ n ih =>
    intro s x hl ke
    rcases lp_some hl with ⟨s2, hb, hl2⟩ | hb
    · exact zb_F_losePending_2 hb (fun s3 e3 => by cases e3; refine z_ls [0, 1, 2, 3] rfl ?_; exact ih s2 x hl2 ke) (fun x e3 => by cases e3)
    · exact zb_F_losePending_2 hb (fun s3 e3 => by cases e3) (fun x e3 => by cases e3; exact ke)
theorem zl_F_losePending_2 {l : Launch} {C : Ct} {mi : Nat} {y0 : Nat} {y1 : Int32} {y2 : Int32} {h' : Hp} {s : Int32 × Hp} {x : (Hp)} (hl : l_F_losePending_2 y0 y1 y2 s = some x) (ke : Z l C mi m_F_losePending 1 59 [(0, vr (some y0))] [] x none h') : Z l C mi m_F_losePending 1 2 [(0, vr (some y0)), (1, vi y1), (2, vi y2), (3, vi s.1)] [] s.2 none h' := zzl_F_losePending_2 FU s x hl ke
theorem kl_F_losePending_2 {C : Ct} {mi : Nat} {y0 : Nat} {y1 : Int32} {y2 : Int32} {s : Int32 × Hp} {q : (Hp)} (hl : l_F_losePending_2 y0 y1 y2 s = some q) : Keep W_F_losePending s.2 ((fun x : Hp => x) q) := lpk (sh := (fun s : Int32 × Hp => s.2)) (rh := (fun x : Hp => x)) (fun s q hb => kb_F_losePending_2 (C := C) (mi := mi) hb) FU s q hl
def f_F_losePending (a0 : Nat) (p1 : Int32) (p2 : Int32) (h : Hp) : Option Hp :=
  bd (l_F_losePending_2 a0 p1 p2 (p1, h)) fun x22 => gd (isK x22 a0 1) (cv (f_F_settlePending a0 x22) fun h26 => some h26)
set_option maxRecDepth 100000 in
set_option maxHeartbeats 4000000 in
theorem zf_F_losePending {l : Launch} {C : Ct} {mi : Nat} {a0 : Nat} {p1 : Int32} {p2 : Int32} {h h' : Hp} (hf : f_F_losePending a0 p1 p2 h = some h') : Z l C mi m_F_losePending 1 0 [(0, vr (some a0)), (1, vi p1), (2, vi p2)] [] h none h' := by
  unfold f_F_losePending at hf
  refine z_iload_n 1 d_F_losePending_0 rfl rfl ?_
  refine z_istore_n (ls2 := [(3, vi p1), (0, vr (some a0)), (1, vi p1), (2, vi p2)]) d_F_losePending_1 rfl (by decide) rfl ?_
  obtain ⟨x22, el23, hf⟩ := bd_some hf
  refine z_ls [1, 2, 3, 0] rfl ?_
  refine zl_F_losePending_2 el23 ?_
  refine z_aload_n 0 d_F_losePending_59 rfl rfl ?_
  obtain ⟨g25, hf⟩ := gd_some hf
  obtain ⟨h26, ec27, hf⟩ := cv_some hf
  refine z_callVx rfl (c_F_settlePending ec27) d_F_losePending_60 cw_F_settlePending lk_F_42 im_F_settlePending se_F_settlePending (kc_K (isK_eq g25) kc_1) ⟨by decide, by decide⟩ (Nat.le_of_ble_eq_true rfl) rfl ?_
  cases (Option.some.inj hf)
  exact z_ret d_F_losePending_63 rfl
set_option maxRecDepth 100000 in
set_option maxHeartbeats 4000000 in
theorem fr_F_losePending {C : Ct} {mi : Nat} {a0 : Nat} {p1 : Int32} {p2 : Int32} {h h' : Hp} (hf : f_F_losePending a0 p1 p2 h = some h') : Keep W_F_losePending h h' := by
  unfold f_F_losePending at hf
  obtain ⟨x22, el23, hf⟩ := bd_some hf
  have K24 := (Keep.refl W_F_losePending _).trans (kl_F_losePending_2 (C := C) (mi := mi) el23)
  obtain ⟨g25, hf⟩ := gd_some hf
  obtain ⟨h26, ec27, hf⟩ := cv_some hf
  have K28 := K24.trans ((fr_F_settlePending (C := C) (mi := mi) ec27).mono (by decide) (by decide))
  cases (Option.some.inj hf)
  exact K28
theorem c_F_losePending {l : Launch} {C : Ct} {mi : Nat} {a0 : Nat} {p1 : Int32} {p2 : Int32} {h h' : Hp} (hf : f_F_losePending a0 p1 p2 h = some h') : Mt l C mi m_F_losePending 1 [vr (some a0), vi p1, vi p2] h none h' := mt_V rfl rfl (by decide) (Nat.le_of_ble_eq_true rfl) (zf_F_losePending hf)
-- VersionMaps$BlockFile.isWhole(LVersionMaps$Chunk;)Z
def m_F_isWhole : Mi := (⟨"VersionMaps$BlockFile", "isWhole", "(LVersionMaps$Chunk;)Z"⟩, prog_2_method_10_code, 3, (Option.some Jvm.ClassFile.FieldType.boolean), .ireturn)
theorem cw_F_isWhole : cw_ok m_F_isWhole 1 := ⟨by decide +kernel, by decide +kernel, by decide +kernel, by decide +kernel⟩
theorem im_F_isWhole : Cond.instanceMethod m_F_isWhole.1 ∈ lw_w := by decide +kernel
theorem se_F_isWhole : Cond.selects "VersionMaps$BlockFile" m_F_isWhole.1 m_F_isWhole.1 ∈ lw_w := by decide +kernel
theorem d_F_isWhole_0 : decode prog_2_method_10_code 0 = .ok (.iconst 0, 1) := by decide +kernel
theorem d_F_isWhole_1 : decode prog_2_method_10_code 1 = .ok (.istore_n 2, 1) := by decide +kernel
theorem d_F_isWhole_2 : decode prog_2_method_10_code 2 = .ok (.iload_n 2, 1) := by decide +kernel
theorem d_F_isWhole_3 : decode prog_2_method_10_code 3 = .ok (.aload_n 1, 1) := by decide +kernel
theorem d_F_isWhole_4 : decode prog_2_method_10_code 4 = .ok (.invokevirtual 35, 3) := by decide +kernel
theorem d_F_isWhole_7 : decode prog_2_method_10_code 7 = .ok (.if_icmp .ge 26, 3) := by decide +kernel
theorem d_F_isWhole_10 : decode prog_2_method_10_code 10 = .ok (.aload_n 0, 1) := by decide +kernel
theorem d_F_isWhole_11 : decode prog_2_method_10_code 11 = .ok (.getfield 11, 3) := by decide +kernel
theorem d_F_isWhole_14 : decode prog_2_method_10_code 14 = .ok (.aload_n 1, 1) := by decide +kernel
theorem d_F_isWhole_15 : decode prog_2_method_10_code 15 = .ok (.getfield 39, 3) := by decide +kernel
theorem d_F_isWhole_18 : decode prog_2_method_10_code 18 = .ok (.iload_n 2, 1) := by decide +kernel
theorem d_F_isWhole_19 : decode prog_2_method_10_code 19 = .ok (.iadd, 1) := by decide +kernel
theorem d_F_isWhole_20 : decode prog_2_method_10_code 20 = .ok (.aaload, 1) := by decide +kernel
theorem d_F_isWhole_21 : decode prog_2_method_10_code 21 = .ok (.aload_n 1, 1) := by decide +kernel
theorem d_F_isWhole_22 : decode prog_2_method_10_code 22 = .ok (.if_acmp .eq 5, 3) := by decide +kernel
theorem d_F_isWhole_25 : decode prog_2_method_10_code 25 = .ok (.iconst 0, 1) := by decide +kernel
theorem d_F_isWhole_26 : decode prog_2_method_10_code 26 = .ok (.ireturn, 1) := by decide +kernel
theorem d_F_isWhole_27 : decode prog_2_method_10_code 27 = .ok (.iinc 2 1, 3) := by decide +kernel
theorem d_F_isWhole_30 : decode prog_2_method_10_code 30 = .ok (.goto (-28), 3) := by decide +kernel
theorem d_F_isWhole_33 : decode prog_2_method_10_code 33 = .ok (.iconst 1, 1) := by decide +kernel
theorem d_F_isWhole_34 : decode prog_2_method_10_code 34 = .ok (.ireturn, 1) := by decide +kernel
def W_F_isWhole : Wl := ([], [])
def b_F_isWhole_2 (y0 : Nat) (y1 : Option Nat) (y2 : Int32) (h : Hp) : Option ((Int32 × Hp) ⊕ ((Hp) ⊕ (Int32 × Hp))) :=
  dr y1 fun a1 => gd (isK h a1 2) (cl (f_K_blockCount a1 h) fun v6 h4 => if v6 ≤ y2 then (some (.inr (.inl h4))) else (gd (isK h4 y0 1) (gd (isK h4 a1 2) (dr (hpR h4 y0 0) fun a11 => gd (isK h4 a11 68) (gd (inb ((hpI h4 a1 1) + y2) (hpL h4 a11)) (if (hpR h4 a11 ((hpI h4 a1 1) + y2).toNatClampNeg) = y1 then (some (.inl ((y2 + (1 : Int32)), h4))) else (some (.inr (.inr ((0 : Int32), h4))))))))))
set_option maxRecDepth 100000 in
set_option maxHeartbeats 4000000 in
theorem zb_F_isWhole_2 {l : Launch} {C : Ct} {mi : Nat} {y0 : Nat} {y1 : Option Nat} {y2 : Int32} {h h' : Hp} {v : Int32} {q : ((Int32 × Hp) ⊕ ((Hp) ⊕ (Int32 × Hp)))} (hf : b_F_isWhole_2 y0 y1 y2 h = some q) (kc : ∀ s, q = .inl s → Z l C mi m_F_isWhole 2 2 [(0, vr (some y0)), (1, vr y1), (2, vi s.1)] [] s.2 (some (vi v)) h') (ke : ∀ x, q = .inr (.inl x) → Z l C mi m_F_isWhole 2 33 [] [] x (some (vi v)) h') (kr : ∀ rv rh, q = .inr (.inr (rv, rh)) → v = rv ∧ h' = rh) : Z l C mi m_F_isWhole 2 2 [(0, vr (some y0)), (1, vr y1), (2, vi y2)] [] h (some (vi v)) h' := by
  unfold b_F_isWhole_2 at hf
  refine z_iload_n 2 d_F_isWhole_2 rfl rfl ?_
  refine z_aload_n 1 d_F_isWhole_3 rfl rfl ?_
  obtain ⟨a1, e2, hf⟩ := dr_some hf
  obtain ⟨g3, hf⟩ := gd_some hf
  obtain ⟨v6, h4, ec5, hf⟩ := cl_some hf
  refine z_callVx e2 (c_K_blockCount ec5) d_F_isWhole_4 cw_K_blockCount lk_F_35 im_K_blockCount se_K_blockCount (kc_K (isK_eq g3) kc_2) ⟨by decide, by decide⟩ (Nat.le_of_ble_eq_true rfl) rfl ?_
  refine z_icmp_ge (tgt := 33) d_F_isWhole_7 (by decide) (fun c8 => ?_) (fun c8 => ?_)
  · rw [if_pos c8] at hf
    refine z_ls [] rfl ?_
    exact ke h4 (Option.some.inj hf).symm
  · rw [if_neg c8] at hf
    refine z_aload_n 0 d_F_isWhole_10 rfl rfl ?_
    obtain ⟨g9, hf⟩ := gd_some hf
    refine z_getR d_F_isWhole_11 (fl_K (isK_eq g9) fl_F_11_1) (fi_K (isK_eq g9) rfl) rfl ?_
    refine z_aload_n 1 d_F_isWhole_14 rfl rfl ?_
    obtain ⟨g10, hf⟩ := gd_some hf
    refine z_getI d_F_isWhole_15 (fl_K (isK_eq g10) fl_F_39_2) (fi_K (isK_eq g10) rfl) e2 ?_
    refine z_iload_n 2 d_F_isWhole_18 rfl rfl ?_
    refine z_iadd d_F_isWhole_19 ?_
    obtain ⟨a11, e12, hf⟩ := dr_some hf
    obtain ⟨g13, hf⟩ := gd_some hf
    obtain ⟨g14, hf⟩ := gd_some hf
    refine z_aald d_F_isWhole_20 e12 (by rw [isK_eq g13]; decide) (by rw [isK_eq g13]; decide) (inb_vp g14) ?_
    refine z_aload_n 1 d_F_isWhole_21 rfl rfl ?_
    refine z_acmp_eq (tgt := 27) d_F_isWhole_22 (by decide) (fun c15 => ?_) (fun c15 => ?_)
    · rw [if_pos c15] at hf
      refine z_iinc (ls2 := [(2, vi (y2 + (1 : Int32))), (0, vr (some y0)), (1, vr y1)]) 2 d_F_isWhole_27 rfl rfl (by decide) rfl ?_
      refine z_goto (tgt := 2) d_F_isWhole_30 (by decide) ?_
      refine z_ls [1, 2, 0] rfl ?_
      exact kc ((y2 + (1 : Int32)), h4) (Option.some.inj hf).symm
    · rw [if_neg c15] at hf
      refine z_iconst (v := (0 : Int32)) d_F_isWhole_25 (by decide) ?_
      obtain ⟨rfl, rfl⟩ := kr _ _ (Option.some.inj hf).symm
      exact z_ret d_F_isWhole_26 rfl
set_option maxRecDepth 100000 in
set_option maxHeartbeats 4000000 in
theorem kb_F_isWhole_2 {C : Ct} {mi : Nat} {y0 : Nat} {y1 : Option Nat} {y2 : Int32} {h : Hp} {q : ((Int32 × Hp) ⊕ ((Hp) ⊕ (Int32 × Hp)))} (hf : b_F_isWhole_2 y0 y1 y2 h = some q) : Keep W_F_isWhole h (Sum.elim (fun s : Int32 × Hp => s.2) (Sum.elim (fun x : Hp => x) (fun r : (Int32 × Hp) => r.2)) q) := by
  unfold b_F_isWhole_2 at hf
  obtain ⟨a1, e2, hf⟩ := dr_some hf
  obtain ⟨g3, hf⟩ := gd_some hf
  obtain ⟨v6, h4, ec5, hf⟩ := cl_some hf
  have K7 := (Keep.refl W_F_isWhole _).trans ((fr_K_blockCount (C := C) (mi := mi) ec5).mono (by decide) (by decide))
  rcases Classical.em (v6 ≤ y2) with c8 | c8
  · rw [if_pos c8] at hf
    cases (Option.some.inj hf)
    exact K7
  · rw [if_neg c8] at hf
    obtain ⟨g9, hf⟩ := gd_some hf
    obtain ⟨g10, hf⟩ := gd_some hf
    obtain ⟨a11, e12, hf⟩ := dr_some hf
    obtain ⟨g13, hf⟩ := gd_some hf
    obtain ⟨g14, hf⟩ := gd_some hf
    rcases Classical.em ((hpR h4 a11 ((hpI h4 a1 1) + y2).toNatClampNeg) = y1) with c15 | c15
    · rw [if_pos c15] at hf
      cases (Option.some.inj hf)
      exact K7
    · rw [if_neg c15] at hf
      cases (Option.some.inj hf)
      exact K7
def l_F_isWhole_2 (y0 : Nat) (y1 : Option Nat) (s : Int32 × Hp) : Option ((Hp) ⊕ (Int32 × Hp)) := lp (fun s => b_F_isWhole_2 y0 y1 s.1 s.2) FU s
theorem zzl_F_isWhole_2 {l : Launch} {C : Ct} {mi : Nat} {y0 : Nat} {y1 : Option Nat} {h' : Hp} {v : Int32} : ∀ (n : Nat) (s : Int32 × Hp) (q : ((Hp) ⊕ (Int32 × Hp))), lp (fun s : Int32 × Hp => b_F_isWhole_2 y0 y1 s.1 s.2) n s = some q → (∀ x, q = .inl x → Z l C mi m_F_isWhole 2 33 [] [] x (some (vi v)) h') → (∀ rv rh, q = .inr (rv, rh) → v = rv ∧ h' = rh) → Z l C mi m_F_isWhole 2 2 [(0, vr (some y0)), (1, vr y1), (2, vi s.1)] [] s.2 (some (vi v)) h' := by
  intro n
  induction n with
  | zero => intro s q hl; cases hl
  | succ n ih =>
    intro s q hl ke kr
    rcases lp_some hl with ⟨s2, hb, hl2⟩ | hb
    · exact zb_F_isWhole_2 hb (fun s3 e3 => by cases e3; refine z_ls [0, 1, 2] rfl ?_; exact ih s2 q hl2 ke kr) (fun x e3 => by cases e3) (fun rv rh e3 => by cases e3)
    · exact zb_F_isWhole_2 hb (fun s3 e3 => by cases e3) (fun x e3 => ke x (Sum.inr.inj e3)) (fun rv rh e3 => kr rv rh (Sum.inr.inj e3))
theorem zl_F_isWhole_2 {l : Launch} {C : Ct} {mi : Nat} {y0 : Nat} {y1 : Option Nat} {h' : Hp} {v : Int32} {s : Int32 × Hp} {q : ((Hp) ⊕ (Int32 × Hp))} (hl : l_F_isWhole_2 y0 y1 s = some q) (ke : ∀ x, q = .inl x → Z l C mi m_F_isWhole 2 33 [] [] x (some (vi v)) h') (kr : ∀ rv rh, q = .inr (rv, rh) → v = rv ∧ h' = rh) : Z l C mi m_F_isWhole 2 2 [(0, vr (some y0)), (1, vr y1), (2, vi s.1)] [] s.2 (some (vi v)) h' := zzl_F_isWhole_2 FU s q hl ke kr
theorem kl_F_isWhole_2 {C : Ct} {mi : Nat} {y0 : Nat} {y1 : Option Nat} {s : Int32 × Hp} {q : ((Hp) ⊕ (Int32 × Hp))} (hl : l_F_isWhole_2 y0 y1 s = some q) : Keep W_F_isWhole s.2 ((Sum.elim (fun x : Hp => x) (fun r : (Int32 × Hp) => r.2)) q) := lpk (sh := (fun s : Int32 × Hp => s.2)) (rh := (Sum.elim (fun x : Hp => x) (fun r : (Int32 × Hp) => r.2))) (fun s q hb => kb_F_isWhole_2 (C := C) (mi := mi) hb) FU s q hl
def f0_F_isWhole (a0 : Nat) (p1 : Option Nat) (h : Hp) : Option (Int32 × Hp) :=
  lk (l_F_isWhole_2 a0 p1 ((0 : Int32), h)) (fun x16 => some ((1 : Int32), x16)) some
def f_F_isWhole (a0 : Nat) (p1 : Option Nat) (h : Hp) : Option (Int32 × Hp) := zbw (f0_F_isWhole a0 p1 h)
set_option maxRecDepth 100000 in
set_option maxHeartbeats 4000000 in
theorem zf_F_isWhole {l : Launch} {C : Ct} {mi : Nat} {a0 : Nat} {p1 : Option Nat} {h h' : Hp} {v : Int32} (hf : f0_F_isWhole a0 p1 h = some (v, h')) : Z l C mi m_F_isWhole 2 0 [(0, vr (some a0)), (1, vr p1)] [] h (some (vi v)) h' := by
  unfold f0_F_isWhole at hf
  refine z_iconst (v := (0 : Int32)) d_F_isWhole_0 (by decide) ?_
  refine z_istore_n (ls2 := [(2, vi (0 : Int32)), (0, vr (some a0)), (1, vr p1)]) d_F_isWhole_1 rfl (by decide) rfl ?_
  rcases lk_some hf with ⟨x16, el17, hf⟩ | ⟨x16r, el17, hf⟩
  · skip
    refine z_ls [1, 2, 0] rfl ?_
    refine zl_F_isWhole_2 el17 (fun x2 e2 => ?_) (fun rv rh e2 => by cases e2)
    cases e2
    refine z_iconst (v := (1 : Int32)) d_F_isWhole_33 (by decide) ?_
    obtain ⟨rfl, rfl⟩ := Prod.mk.inj (Option.some.inj hf)
    exact z_ret d_F_isWhole_34 rfl
  · skip
    refine z_ls [1, 2, 0] rfl ?_
    refine zl_F_isWhole_2 el17 (fun x2 e2 => by cases e2) (fun rv rh e2 => ?_)
    cases e2
    have e4 := Prod.mk.inj (Option.some.inj hf)
    exact ⟨e4.1.symm, e4.2.symm⟩
set_option maxRecDepth 100000 in
set_option maxHeartbeats 4000000 in
theorem fr0_F_isWhole {C : Ct} {mi : Nat} {a0 : Nat} {p1 : Option Nat} {h h' : Hp} {v : Int32} (hf : f0_F_isWhole a0 p1 h = some (v, h')) : Keep W_F_isWhole h h' := by
  unfold f0_F_isWhole at hf
  rcases lk_some hf with ⟨x16, el17, hf⟩ | ⟨x16r, el17, hf⟩
  · skip
    have K18 := (Keep.refl W_F_isWhole _).trans (kl_F_isWhole_2 (C := C) (mi := mi) el17)
    obtain ⟨rfl, rfl⟩ := Prod.mk.inj (Option.some.inj hf)
    exact K18
  · skip
    have K19 := (Keep.refl W_F_isWhole _).trans (kl_F_isWhole_2 (C := C) (mi := mi) el17)
    cases (Option.some.inj hf)
    exact K19
theorem fr_F_isWhole {C : Ct} {mi : Nat} {a0 : Nat} {p1 : Option Nat} {h h' : Hp} {v : Int32} (hf : f_F_isWhole a0 p1 h = some (v, h')) : Keep W_F_isWhole h h' := fr0_F_isWhole (C := C) (mi := mi) (zbw_some hf).2
theorem c_F_isWhole {l : Launch} {C : Ct} {mi : Nat} {a0 : Nat} {p1 : Option Nat} {h h' : Hp} {v : Int32} (hf : f_F_isWhole a0 p1 h = some (v, h')) : Mt l C mi m_F_isWhole 2 [vr (some a0), vr p1] h (some (vi v)) h' := mt_I (ty := .boolean) rfl rfl (zb_eq (zbw_some hf).1) (by decide) (Nat.le_of_ble_eq_true rfl) (zf_F_isWhole (zbw_some hf).2)
-- VersionMaps$BlockFile.holdsPage(LVersionMaps$Page;)Z
def m_F_holdsPage : Mi := (⟨"VersionMaps$BlockFile", "holdsPage", "(LVersionMaps$Page;)Z"⟩, prog_2_method_12_code, 2, (Option.some Jvm.ClassFile.FieldType.boolean), .ireturn)
theorem cw_F_holdsPage : cw_ok m_F_holdsPage 1 := ⟨by decide +kernel, by decide +kernel, by decide +kernel, by decide +kernel⟩
theorem im_F_holdsPage : Cond.instanceMethod m_F_holdsPage.1 ∈ lw_w := by decide +kernel
theorem se_F_holdsPage : Cond.selects "VersionMaps$BlockFile" m_F_holdsPage.1 m_F_holdsPage.1 ∈ lw_w := by decide +kernel
theorem d_F_holdsPage_0 : decode prog_2_method_12_code 0 = .ok (.aload_n 0, 1) := by decide +kernel
theorem d_F_holdsPage_1 : decode prog_2_method_12_code 1 = .ok (.getfield 11, 3) := by decide +kernel
theorem d_F_holdsPage_4 : decode prog_2_method_12_code 4 = .ok (.aload_n 1, 1) := by decide +kernel
theorem d_F_holdsPage_5 : decode prog_2_method_12_code 5 = .ok (.getfield 80, 3) := by decide +kernel
theorem d_F_holdsPage_8 : decode prog_2_method_12_code 8 = .ok (.getfield 39, 3) := by decide +kernel
theorem d_F_holdsPage_11 : decode prog_2_method_12_code 11 = .ok (.aload_n 1, 1) := by decide +kernel
theorem d_F_holdsPage_12 : decode prog_2_method_12_code 12 = .ok (.getfield 86, 3) := by decide +kernel
theorem d_F_holdsPage_15 : decode prog_2_method_12_code 15 = .ok (.iconst 2, 1) := by decide +kernel
theorem d_F_holdsPage_16 : decode prog_2_method_12_code 16 = .ok (.idiv, 1) := by decide +kernel
theorem d_F_holdsPage_17 : decode prog_2_method_12_code 17 = .ok (.iadd, 1) := by decide +kernel
theorem d_F_holdsPage_18 : decode prog_2_method_12_code 18 = .ok (.aaload, 1) := by decide +kernel
theorem d_F_holdsPage_19 : decode prog_2_method_12_code 19 = .ok (.aload_n 1, 1) := by decide +kernel
theorem d_F_holdsPage_20 : decode prog_2_method_12_code 20 = .ok (.getfield 80, 3) := by decide +kernel
theorem d_F_holdsPage_23 : decode prog_2_method_12_code 23 = .ok (.if_acmp .ne 7, 3) := by decide +kernel
theorem d_F_holdsPage_26 : decode prog_2_method_12_code 26 = .ok (.iconst 1, 1) := by decide +kernel
theorem d_F_holdsPage_27 : decode prog_2_method_12_code 27 = .ok (.goto 4, 3) := by decide +kernel
theorem d_F_holdsPage_30 : decode prog_2_method_12_code 30 = .ok (.iconst 0, 1) := by decide +kernel
theorem d_F_holdsPage_31 : decode prog_2_method_12_code 31 = .ok (.ireturn, 1) := by decide +kernel
def W_F_holdsPage : Wl := ([], [])
def f0_F_holdsPage (a0 : Nat) (p1 : Option Nat) (h : Hp) : Option (Int32 × Hp) :=
  gd (isK h a0 1) (dr p1 fun a2 => gd (isPg h a2) (dr (hpR h a2 0) fun a5 => gd (isK h a5 2) (dr (hpR h a0 0) fun a8 => gd (isK h a8 68) (gd (inb ((hpI h a5 1) + ((hpI h a2 1) / (nI 2))) (hpL h a8)) (if (hpR h a8 ((hpI h a5 1) + ((hpI h a2 1) / (nI 2))).toNatClampNeg) = (hpR h a2 0) then (some ((1 : Int32), h)) else (some ((0 : Int32), h)))))))
def f_F_holdsPage (a0 : Nat) (p1 : Option Nat) (h : Hp) : Option (Int32 × Hp) := zbw (f0_F_holdsPage a0 p1 h)
set_option maxRecDepth 100000 in
set_option maxHeartbeats 4000000 in
theorem zf_F_holdsPage {l : Launch} {C : Ct} {mi : Nat} {a0 : Nat} {p1 : Option Nat} {h h' : Hp} {v : Int32} (hf : f0_F_holdsPage a0 p1 h = some (v, h')) : Z l C mi m_F_holdsPage 0 0 [(0, vr (some a0)), (1, vr p1)] [] h (some (vi v)) h' := by
  unfold f0_F_holdsPage at hf
  refine z_aload_n 0 d_F_holdsPage_0 rfl rfl ?_
  obtain ⟨g1, hf⟩ := gd_some hf
  refine z_getR d_F_holdsPage_1 (fl_K (isK_eq g1) fl_F_11_1) (fi_K (isK_eq g1) rfl) rfl ?_
  refine z_aload_n 1 d_F_holdsPage_4 rfl rfl ?_
  obtain ⟨a2, e3, hf⟩ := dr_some hf
  obtain ⟨g4, hf⟩ := gd_some hf
  refine z_getR d_F_holdsPage_5 (fl_P g4 fl_F_80_3 fl_F_80_4 fl_F_80_6) (fi_P g4 rfl rfl rfl) e3 ?_
  obtain ⟨a5, e6, hf⟩ := dr_some hf
  obtain ⟨g7, hf⟩ := gd_some hf
  refine z_getI d_F_holdsPage_8 (fl_K (isK_eq g7) fl_F_39_2) (fi_K (isK_eq g7) rfl) e6 ?_
  refine z_aload_n 1 d_F_holdsPage_11 rfl rfl ?_
  refine z_getI d_F_holdsPage_12 (fl_P g4 fl_F_86_3 fl_F_86_4 fl_F_86_6) (fi_P g4 rfl rfl rfl) e3 ?_
  refine z_iconst (v := (nI 2)) d_F_holdsPage_15 (by decide) ?_
  refine z_idiv d_F_holdsPage_16 (by decide) ?_
  refine z_iadd d_F_holdsPage_17 ?_
  obtain ⟨a8, e9, hf⟩ := dr_some hf
  obtain ⟨g10, hf⟩ := gd_some hf
  obtain ⟨g11, hf⟩ := gd_some hf
  refine z_aald d_F_holdsPage_18 e9 (by rw [isK_eq g10]; decide) (by rw [isK_eq g10]; decide) (inb_vp g11) ?_
  refine z_aload_n 1 d_F_holdsPage_19 rfl rfl ?_
  refine z_getR d_F_holdsPage_20 (fl_P g4 fl_F_80_3 fl_F_80_4 fl_F_80_6) (fi_P g4 rfl rfl rfl) e3 ?_
  refine z_acmp_ne (tgt := 30) d_F_holdsPage_23 (by decide) (fun c12 => ?_) (fun c12 => ?_)
  · rw [if_neg c12] at hf
    refine z_iconst (v := (0 : Int32)) d_F_holdsPage_30 (by decide) ?_
    obtain ⟨rfl, rfl⟩ := Prod.mk.inj (Option.some.inj hf)
    exact z_ret d_F_holdsPage_31 rfl
  · rw [if_pos c12] at hf
    refine z_iconst (v := (1 : Int32)) d_F_holdsPage_26 (by decide) ?_
    refine z_goto (tgt := 31) d_F_holdsPage_27 (by decide) ?_
    obtain ⟨rfl, rfl⟩ := Prod.mk.inj (Option.some.inj hf)
    exact z_ret d_F_holdsPage_31 rfl
set_option maxRecDepth 100000 in
set_option maxHeartbeats 4000000 in
theorem fr0_F_holdsPage {C : Ct} {mi : Nat} {a0 : Nat} {p1 : Option Nat} {h h' : Hp} {v : Int32} (hf : f0_F_holdsPage a0 p1 h = some (v, h')) : Keep W_F_holdsPage h h' := by
  unfold f0_F_holdsPage at hf
  obtain ⟨g1, hf⟩ := gd_some hf
  obtain ⟨a2, e3, hf⟩ := dr_some hf
  obtain ⟨g4, hf⟩ := gd_some hf
  obtain ⟨a5, e6, hf⟩ := dr_some hf
  obtain ⟨g7, hf⟩ := gd_some hf
  obtain ⟨a8, e9, hf⟩ := dr_some hf
  obtain ⟨g10, hf⟩ := gd_some hf
  obtain ⟨g11, hf⟩ := gd_some hf
  rcases (Classical.em ((hpR h a8 ((hpI h a5 1) + ((hpI h a2 1) / (nI 2))).toNatClampNeg) = (hpR h a2 0))).symm with c12 | c12
  · rw [if_neg c12] at hf
    obtain ⟨rfl, rfl⟩ := Prod.mk.inj (Option.some.inj hf)
    exact (Keep.refl W_F_holdsPage _)
  · rw [if_pos c12] at hf
    obtain ⟨rfl, rfl⟩ := Prod.mk.inj (Option.some.inj hf)
    exact (Keep.refl W_F_holdsPage _)
theorem fr_F_holdsPage {C : Ct} {mi : Nat} {a0 : Nat} {p1 : Option Nat} {h h' : Hp} {v : Int32} (hf : f_F_holdsPage a0 p1 h = some (v, h')) : Keep W_F_holdsPage h h' := fr0_F_holdsPage (C := C) (mi := mi) (zbw_some hf).2
theorem c_F_holdsPage {l : Launch} {C : Ct} {mi : Nat} {a0 : Nat} {p1 : Option Nat} {h h' : Hp} {v : Int32} (hf : f_F_holdsPage a0 p1 h = some (v, h')) : Mt l C mi m_F_holdsPage 0 [vr (some a0), vr p1] h (some (vi v)) h' := mt_I (ty := .boolean) rfl rfl (zb_eq (zbw_some hf).1) (by decide) (Nat.le_of_ble_eq_true rfl) (zf_F_holdsPage (zbw_some hf).2)
-- VersionMaps$BlockFile.holdsAllOf(LVersionMaps$Meta;)Z
def m_F_holdsAllOf : Mi := (⟨"VersionMaps$BlockFile", "holdsAllOf", "(LVersionMaps$Meta;)Z"⟩, prog_2_method_11_code, 5, (Option.some Jvm.ClassFile.FieldType.boolean), .ireturn)
theorem cw_F_holdsAllOf : cw_ok m_F_holdsAllOf 1 := ⟨by decide +kernel, by decide +kernel, by decide +kernel, by decide +kernel⟩
theorem im_F_holdsAllOf : Cond.instanceMethod m_F_holdsAllOf.1 ∈ lw_w := by decide +kernel
theorem se_F_holdsAllOf : Cond.selects "VersionMaps$BlockFile" m_F_holdsAllOf.1 m_F_holdsAllOf.1 ∈ lw_w := by decide +kernel
theorem d_F_holdsAllOf_0 : decode prog_2_method_11_code 0 = .ok (.iconst 0, 1) := by decide +kernel
theorem d_F_holdsAllOf_1 : decode prog_2_method_11_code 1 = .ok (.istore_n 2, 1) := by decide +kernel
theorem d_F_holdsAllOf_2 : decode prog_2_method_11_code 2 = .ok (.iload_n 2, 1) := by decide +kernel
theorem d_F_holdsAllOf_3 : decode prog_2_method_11_code 3 = .ok (.iconst 4, 1) := by decide +kernel
theorem d_F_holdsAllOf_4 : decode prog_2_method_11_code 4 = .ok (.if_icmp .ge 70, 3) := by decide +kernel
theorem d_F_holdsAllOf_7 : decode prog_2_method_11_code 7 = .ok (.aload_n 1, 1) := by decide +kernel
theorem d_F_holdsAllOf_8 : decode prog_2_method_11_code 8 = .ok (.getfield 66, 3) := by decide +kernel
theorem d_F_holdsAllOf_11 : decode prog_2_method_11_code 11 = .ok (.iload_n 2, 1) := by decide +kernel
theorem d_F_holdsAllOf_12 : decode prog_2_method_11_code 12 = .ok (.aaload, 1) := by decide +kernel
theorem d_F_holdsAllOf_13 : decode prog_2_method_11_code 13 = .ok (.ifnull 18, 3) := by decide +kernel
theorem d_F_holdsAllOf_16 : decode prog_2_method_11_code 16 = .ok (.aload_n 0, 1) := by decide +kernel
theorem d_F_holdsAllOf_17 : decode prog_2_method_11_code 17 = .ok (.aload_n 1, 1) := by decide +kernel
theorem d_F_holdsAllOf_18 : decode prog_2_method_11_code 18 = .ok (.getfield 66, 3) := by decide +kernel
theorem d_F_holdsAllOf_21 : decode prog_2_method_11_code 21 = .ok (.iload_n 2, 1) := by decide +kernel
theorem d_F_holdsAllOf_22 : decode prog_2_method_11_code 22 = .ok (.aaload, 1) := by decide +kernel
theorem d_F_holdsAllOf_23 : decode prog_2_method_11_code 23 = .ok (.invokevirtual 72, 3) := by decide +kernel
theorem d_F_holdsAllOf_26 : decode prog_2_method_11_code 26 = .ok (.ifCond .ne 5, 3) := by decide +kernel
theorem d_F_holdsAllOf_29 : decode prog_2_method_11_code 29 = .ok (.iconst 0, 1) := by decide +kernel
theorem d_F_holdsAllOf_30 : decode prog_2_method_11_code 30 = .ok (.ireturn, 1) := by decide +kernel
theorem d_F_holdsAllOf_31 : decode prog_2_method_11_code 31 = .ok (.iconst 0, 1) := by decide +kernel
theorem d_F_holdsAllOf_32 : decode prog_2_method_11_code 32 = .ok (.istore_n 3, 1) := by decide +kernel
theorem d_F_holdsAllOf_33 : decode prog_2_method_11_code 33 = .ok (.iload_n 3, 1) := by decide +kernel
theorem d_F_holdsAllOf_34 : decode prog_2_method_11_code 34 = .ok (.iconst 4, 1) := by decide +kernel
theorem d_F_holdsAllOf_35 : decode prog_2_method_11_code 35 = .ok (.if_icmp .ge 33, 3) := by decide +kernel
theorem d_F_holdsAllOf_38 : decode prog_2_method_11_code 38 = .ok (.aload_n 1, 1) := by decide +kernel
theorem d_F_holdsAllOf_39 : decode prog_2_method_11_code 39 = .ok (.iload_n 2, 1) := by decide +kernel
theorem d_F_holdsAllOf_40 : decode prog_2_method_11_code 40 = .ok (.iload_n 3, 1) := by decide +kernel
theorem d_F_holdsAllOf_41 : decode prog_2_method_11_code 41 = .ok (.invokevirtual 76, 3) := by decide +kernel
theorem d_F_holdsAllOf_44 : decode prog_2_method_11_code 44 = .ok (.astore 4, 2) := by decide +kernel
theorem d_F_holdsAllOf_46 : decode prog_2_method_11_code 46 = .ok (.aload 4, 2) := by decide +kernel
theorem d_F_holdsAllOf_48 : decode prog_2_method_11_code 48 = .ok (.ifnull 14, 3) := by decide +kernel
theorem d_F_holdsAllOf_51 : decode prog_2_method_11_code 51 = .ok (.aload_n 0, 1) := by decide +kernel
theorem d_F_holdsAllOf_52 : decode prog_2_method_11_code 52 = .ok (.aload 4, 2) := by decide +kernel
theorem d_F_holdsAllOf_54 : decode prog_2_method_11_code 54 = .ok (.invokevirtual 72, 3) := by decide +kernel
theorem d_F_holdsAllOf_57 : decode prog_2_method_11_code 57 = .ok (.ifCond .ne 5, 3) := by decide +kernel
theorem d_F_holdsAllOf_60 : decode prog_2_method_11_code 60 = .ok (.iconst 0, 1) := by decide +kernel
theorem d_F_holdsAllOf_61 : decode prog_2_method_11_code 61 = .ok (.ireturn, 1) := by decide +kernel
theorem d_F_holdsAllOf_62 : decode prog_2_method_11_code 62 = .ok (.iinc 3 1, 3) := by decide +kernel
theorem d_F_holdsAllOf_65 : decode prog_2_method_11_code 65 = .ok (.goto (-32), 3) := by decide +kernel
theorem d_F_holdsAllOf_68 : decode prog_2_method_11_code 68 = .ok (.iinc 2 1, 3) := by decide +kernel
theorem d_F_holdsAllOf_71 : decode prog_2_method_11_code 71 = .ok (.goto (-69), 3) := by decide +kernel
theorem d_F_holdsAllOf_74 : decode prog_2_method_11_code 74 = .ok (.iconst 1, 1) := by decide +kernel
theorem d_F_holdsAllOf_75 : decode prog_2_method_11_code 75 = .ok (.ireturn, 1) := by decide +kernel
def W_F_holdsAllOf : Wl := ([], [])
def b_F_holdsAllOf_33 (y0 : Nat) (y1 : Option Nat) (y2 : Int32) (y3 : Int32) (h : Hp) : Option ((Int32 × Hp) ⊕ ((Hp) ⊕ (Int32 × Hp))) :=
  if (nI 4) ≤ y3 then (some (.inr (.inl h))) else (dr y1 fun a11 => gd (isK h a11 4) (cl (f_E_leafOf a11 y2 y3 h) fun v16 h14 => if v16 = none then (some (.inl ((y3 + (1 : Int32)), h14))) else (gd (isK h14 y0 1) (cl (f_F_holdsPage y0 v16 h14) fun v22 h20 => if v22 = 0 then (some (.inr (.inr ((0 : Int32), h20)))) else (some (.inl ((y3 + (1 : Int32)), h20)))))))
set_option maxRecDepth 100000 in
set_option maxHeartbeats 4000000 in
theorem zb_F_holdsAllOf_33 {l : Launch} {C : Ct} {mi : Nat} {y0 : Nat} {y1 : Option Nat} {y2 : Int32} {y3 : Int32} {h h' : Hp} {v : Int32} {q : ((Int32 × Hp) ⊕ ((Hp) ⊕ (Int32 × Hp)))} (hf : b_F_holdsAllOf_33 y0 y1 y2 y3 h = some q) (kc : ∀ s, q = .inl s → Z l C mi m_F_holdsAllOf 1 33 [(0, vr (some y0)), (1, vr y1), (2, vi y2), (3, vi s.1)] [] s.2 (some (vi v)) h') (ke : ∀ x, q = .inr (.inl x) → Z l C mi m_F_holdsAllOf 1 68 [(0, vr (some y0)), (1, vr y1), (2, vi y2)] [] x (some (vi v)) h') (kr : ∀ rv rh, q = .inr (.inr (rv, rh)) → v = rv ∧ h' = rh) : Z l C mi m_F_holdsAllOf 1 33 [(0, vr (some y0)), (1, vr y1), (2, vi y2), (3, vi y3)] [] h (some (vi v)) h' := by
  unfold b_F_holdsAllOf_33 at hf
  refine z_iload_n 3 d_F_holdsAllOf_33 rfl rfl ?_
  refine z_iconst (v := (nI 4)) d_F_holdsAllOf_34 (by decide) ?_
  refine z_icmp_ge (tgt := 68) d_F_holdsAllOf_35 (by decide) (fun c10 => ?_) (fun c10 => ?_)
  · rw [if_pos c10] at hf
    refine z_ls [0, 1, 2] rfl ?_
    exact ke h (Option.some.inj hf).symm
  · rw [if_neg c10] at hf
    refine z_aload_n 1 d_F_holdsAllOf_38 rfl rfl ?_
    refine z_iload_n 2 d_F_holdsAllOf_39 rfl rfl ?_
    refine z_iload_n 3 d_F_holdsAllOf_40 rfl rfl ?_
    obtain ⟨a11, e12, hf⟩ := dr_some hf
    obtain ⟨g13, hf⟩ := gd_some hf
    obtain ⟨v16, h14, ec15, hf⟩ := cl_some hf
    refine z_callVx e12 (c_E_leafOf ec15) d_F_holdsAllOf_41 cw_E_leafOf lk_F_76 im_E_leafOf se_E_leafOf (kc_K (isK_eq g13) kc_4) ⟨by decide, by decide⟩ (Nat.le_of_ble_eq_true rfl) rfl ?_
    refine z_astore (ls2 := [(4, vr v16), (0, vr (some y0)), (1, vr y1), (2, vi y2), (3, vi y3)]) d_F_holdsAllOf_44 (by decide) rfl ?_
    refine z_aload 0 d_F_holdsAllOf_46 rfl ?_
    refine z_ifnull (tgt := 62) d_F_holdsAllOf_48 (by decide) (fun c18 => ?_) (fun c18 => ?_)
    · rw [if_pos c18] at hf
      refine z_iinc (ls2 := [(3, vi (y3 + (1 : Int32))), (4, vr v16), (0, vr (some y0)), (1, vr y1), (2, vi y2)]) 4 d_F_holdsAllOf_62 rfl rfl (by decide) rfl ?_
      refine z_goto (tgt := 33) d_F_holdsAllOf_65 (by decide) ?_
      refine z_ls [2, 3, 4, 0] rfl ?_
      exact kc ((y3 + (1 : Int32)), h14) (Option.some.inj hf).symm
    · rw [if_neg c18] at hf
      refine z_aload_n 1 d_F_holdsAllOf_51 rfl rfl ?_
      refine z_aload 0 d_F_holdsAllOf_52 rfl ?_
      obtain ⟨g19, hf⟩ := gd_some hf
      obtain ⟨v22, h20, ec21, hf⟩ := cl_some hf
      refine z_callVx rfl (c_F_holdsPage ec21) d_F_holdsAllOf_54 cw_F_holdsPage lk_F_72 im_F_holdsPage se_F_holdsPage (kc_K (isK_eq g19) kc_1) ⟨by decide, by decide⟩ (Nat.le_of_ble_eq_true rfl) rfl ?_
      refine z_if_ne (tgt := 62) d_F_holdsAllOf_57 (by decide) (fun c24 => ?_) (fun c24 => ?_)
      · rw [if_neg c24] at hf
        refine z_iinc (ls2 := [(3, vi (y3 + (1 : Int32))), (4, vr v16), (0, vr (some y0)), (1, vr y1), (2, vi y2)]) 4 d_F_holdsAllOf_62 rfl rfl (by decide) rfl ?_
        refine z_goto (tgt := 33) d_F_holdsAllOf_65 (by decide) ?_
        refine z_ls [2, 3, 4, 0] rfl ?_
        exact kc ((y3 + (1 : Int32)), h20) (Option.some.inj hf).symm
      · rw [if_pos c24] at hf
        refine z_iconst (v := (0 : Int32)) d_F_holdsAllOf_60 (by decide) ?_
        obtain ⟨rfl, rfl⟩ := kr _ _ (Option.some.inj hf).symm
        exact z_ret d_F_holdsAllOf_61 rfl
set_option maxRecDepth 100000 in
set_option maxHeartbeats 4000000 in
theorem kb_F_holdsAllOf_33 {C : Ct} {mi : Nat} {y0 : Nat} {y1 : Option Nat} {y2 : Int32} {y3 : Int32} {h : Hp} {q : ((Int32 × Hp) ⊕ ((Hp) ⊕ (Int32 × Hp)))} (hf : b_F_holdsAllOf_33 y0 y1 y2 y3 h = some q) : Keep W_F_holdsAllOf h (Sum.elim (fun s : Int32 × Hp => s.2) (Sum.elim (fun x : Hp => x) (fun r : (Int32 × Hp) => r.2)) q) := by
  unfold b_F_holdsAllOf_33 at hf
  rcases Classical.em ((nI 4) ≤ y3) with c10 | c10
  · rw [if_pos c10] at hf
    cases (Option.some.inj hf)
    exact (Keep.refl W_F_holdsAllOf _)
  · rw [if_neg c10] at hf
    obtain ⟨a11, e12, hf⟩ := dr_some hf
    obtain ⟨g13, hf⟩ := gd_some hf
    obtain ⟨v16, h14, ec15, hf⟩ := cl_some hf
    have K17 := (Keep.refl W_F_holdsAllOf _).trans ((fr_E_leafOf (C := C) (mi := mi) ec15).mono (by decide) (by decide))
    rcases Classical.em (v16 = none) with c18 | c18
    · rw [if_pos c18] at hf
      cases (Option.some.inj hf)
      exact K17
    · rw [if_neg c18] at hf
      obtain ⟨g19, hf⟩ := gd_some hf
      obtain ⟨v22, h20, ec21, hf⟩ := cl_some hf
      have K23 := K17.trans ((fr_F_holdsPage (C := C) (mi := mi) ec21).mono (by decide) (by decide))
      rcases (Classical.em (v22 = 0)).symm with c24 | c24
      · rw [if_neg c24] at hf
        cases (Option.some.inj hf)
        exact K23
      · rw [if_pos c24] at hf
        cases (Option.some.inj hf)
        exact K23
def l_F_holdsAllOf_33 (y0 : Nat) (y1 : Option Nat) (y2 : Int32) (s : Int32 × Hp) : Option ((Hp) ⊕ (Int32 × Hp)) := lp (fun s => b_F_holdsAllOf_33 y0 y1 y2 s.1 s.2) FU s
theorem zzl_F_holdsAllOf_33 {l : Launch} {C : Ct} {mi : Nat} {y0 : Nat} {y1 : Option Nat} {y2 : Int32} {h' : Hp} {v : Int32} : ∀ (n : Nat) (s : Int32 × Hp) (q : ((Hp) ⊕ (Int32 × Hp))), lp (fun s : Int32 × Hp => b_F_holdsAllOf_33 y0 y1 y2 s.1 s.2) n s = some q → (∀ x, q = .inl x → Z l C mi m_F_holdsAllOf 1 68 [(0, vr (some y0)), (1, vr y1), (2, vi y2)] [] x (some (vi v)) h') → (∀ rv rh, q = .inr (rv, rh) → v = rv ∧ h' = rh) → Z l C mi m_F_holdsAllOf 1 33 [(0, vr (some y0)), (1, vr y1), (2, vi y2), (3, vi s.1)] [] s.2 (some (vi v)) h' := by
  intro n
  induction n with
  | zero => intro s q hl; cases hl
  | succ n ih =>
    intro s q hl ke kr
    rcases lp_some hl with ⟨s2, hb, hl2⟩ | hb
    · exact zb_F_holdsAllOf_33 hb (fun s3 e3 => by cases e3; refine z_ls [0, 1, 2, 3] rfl ?_; exact ih s2 q hl2 ke kr) (fun x e3 => by cases e3) (fun rv rh e3 => by cases e3)
    · exact zb_F_holdsAllOf_33 hb (fun s3 e3 => by cases e3) (fun x e3 => ke x (Sum.inr.inj e3)) (fun rv rh e3 => kr rv rh (Sum.inr.inj e3))
theorem zl_F_holdsAllOf_33 {l : Launch} {C : Ct} {mi : Nat} {y0 : Nat} {y1 : Option Nat} {y2 : Int32} {h' : Hp} {v : Int32} {s : Int32 × Hp} {q : ((Hp) ⊕ (Int32 × Hp))} (hl : l_F_holdsAllOf_33 y0 y1 y2 s = some q) (ke : ∀ x, q = .inl x → Z l C mi m_F_holdsAllOf 1 68 [(0, vr (some y0)), (1, vr y1), (2, vi y2)] [] x (some (vi v)) h') (kr : ∀ rv rh, q = .inr (rv, rh) → v = rv ∧ h' = rh) : Z l C mi m_F_holdsAllOf 1 33 [(0, vr (some y0)), (1, vr y1), (2, vi y2), (3, vi s.1)] [] s.2 (some (vi v)) h' := zzl_F_holdsAllOf_33 FU s q hl ke kr
theorem kl_F_holdsAllOf_33 {C : Ct} {mi : Nat} {y0 : Nat} {y1 : Option Nat} {y2 : Int32} {s : Int32 × Hp} {q : ((Hp) ⊕ (Int32 × Hp))} (hl : l_F_holdsAllOf_33 y0 y1 y2 s = some q) : Keep W_F_holdsAllOf s.2 ((Sum.elim (fun x : Hp => x) (fun r : (Int32 × Hp) => r.2)) q) := lpk (sh := (fun s : Int32 × Hp => s.2)) (rh := (Sum.elim (fun x : Hp => x) (fun r : (Int32 × Hp) => r.2))) (fun s q hb => kb_F_holdsAllOf_33 (C := C) (mi := mi) hb) FU s q hl
def j_F_holdsAllOf_31_L2 (y0 : Nat) (y1 : Option Nat) (y2 : Int32) (h : Hp) : Option ((Int32 × Hp) ⊕ ((Hp) ⊕ (Int32 × Hp))) :=
  lk (l_F_holdsAllOf_33 y0 y1 y2 ((0 : Int32), h)) (fun x25 => some (.inl ((y2 + (1 : Int32)), x25))) (fun rt => some (.inr (.inr rt)))
set_option maxRecDepth 100000 in
set_option maxHeartbeats 4000000 in
theorem zj_F_holdsAllOf_31_L2 {l : Launch} {C : Ct} {mi : Nat} {y0 : Nat} {y1 : Option Nat} {y2 : Int32} {h h' : Hp} {v : Int32} {q : ((Int32 × Hp) ⊕ ((Hp) ⊕ (Int32 × Hp)))} (hf : j_F_holdsAllOf_31_L2 y0 y1 y2 h = some q) (kc : ∀ s, q = .inl s → Z l C mi m_F_holdsAllOf 1 2 [(0, vr (some y0)), (1, vr y1), (2, vi s.1)] [] s.2 (some (vi v)) h') (ke : ∀ x, q = .inr (.inl x) → Z l C mi m_F_holdsAllOf 1 74 [] [] x (some (vi v)) h') (kr : ∀ rv rh, q = .inr (.inr (rv, rh)) → v = rv ∧ h' = rh) : Z l C mi m_F_holdsAllOf 1 31 [(0, vr (some y0)), (1, vr y1), (2, vi y2)] [] h (some (vi v)) h' := by
  unfold j_F_holdsAllOf_31_L2 at hf
  refine z_iconst (v := (0 : Int32)) d_F_holdsAllOf_31 (by decide) ?_
  refine z_istore_n (ls2 := [(3, vi (0 : Int32)), (0, vr (some y0)), (1, vr y1), (2, vi y2)]) d_F_holdsAllOf_32 rfl (by decide) rfl ?_
  rcases lk_some hf with ⟨x25, el26, hf⟩ | ⟨x25r, el26, hf⟩
  · skip
    refine z_ls [1, 2, 3, 0] rfl ?_
    refine zl_F_holdsAllOf_33 el26 (fun x2 e2 => ?_) (fun rv rh e2 => by cases e2)
    cases e2
    refine z_iinc (ls2 := [(2, vi (y2 + (1 : Int32))), (0, vr (some y0)), (1, vr y1)]) 2 d_F_holdsAllOf_68 rfl rfl (by decide) rfl ?_
    refine z_goto (tgt := 2) d_F_holdsAllOf_71 (by decide) ?_
    refine z_ls [1, 2, 0] rfl ?_
    exact kc ((y2 + (1 : Int32)), x25) (Option.some.inj hf).symm
  · skip
    refine z_ls [1, 2, 3, 0] rfl ?_
    refine zl_F_holdsAllOf_33 el26 (fun x2 e2 => by cases e2) (fun rv rh e2 => ?_)
    cases e2
    exact kr _ _ (Option.some.inj hf).symm
set_option maxRecDepth 100000 in
set_option maxHeartbeats 4000000 in
theorem kj_F_holdsAllOf_31_L2 {C : Ct} {mi : Nat} {y0 : Nat} {y1 : Option Nat} {y2 : Int32} {h : Hp} {q : ((Int32 × Hp) ⊕ ((Hp) ⊕ (Int32 × Hp)))} (hf : j_F_holdsAllOf_31_L2 y0 y1 y2 h = some q) : Keep W_F_holdsAllOf h (Sum.elim (fun s : Int32 × Hp => s.2) (Sum.elim (fun x : Hp => x) (fun r : (Int32 × Hp) => r.2)) q) := by
  unfold j_F_holdsAllOf_31_L2 at hf
  rcases lk_some hf with ⟨x25, el26, hf⟩ | ⟨x25r, el26, hf⟩
  · skip
    have K27 := (Keep.refl W_F_holdsAllOf _).trans (kl_F_holdsAllOf_33 (C := C) (mi := mi) el26)
    cases (Option.some.inj hf)
    exact K27
  · skip
    have K28 := (Keep.refl W_F_holdsAllOf _).trans (kl_F_holdsAllOf_33 (C := C) (mi := mi) el26)
    cases (Option.some.inj hf)
    exact K28
def b_F_holdsAllOf_2 (y0 : Nat) (y1 : Option Nat) (y2 : Int32) (h : Hp) : Option ((Int32 × Hp) ⊕ ((Hp) ⊕ (Int32 × Hp))) :=
  if (nI 4) ≤ y2 then (some (.inr (.inl h))) else (dr y1 fun a2 => gd (isK h a2 4) (dr (hpR h a2 4) fun a5 => gd (isK h a5 104) (gd (inb y2 (hpL h a5)) (if (hpR h a5 y2.toNatClampNeg) = none then (j_F_holdsAllOf_31_L2 y0 y1 y2 h) else (gd (isK h y0 1) (cl (f_F_holdsPage y0 (hpR h a5 y2.toNatClampNeg) h) fun v32 h30 => if v32 = 0 then (some (.inr (.inr ((0 : Int32), h30)))) else (j_F_holdsAllOf_31_L2 y0 y1 y2 h30)))))))
set_option maxRecDepth 100000 in
set_option maxHeartbeats 4000000 in
theorem zb_F_holdsAllOf_2 {l : Launch} {C : Ct} {mi : Nat} {y0 : Nat} {y1 : Option Nat} {y2 : Int32} {h h' : Hp} {v : Int32} {q : ((Int32 × Hp) ⊕ ((Hp) ⊕ (Int32 × Hp)))} (hf : b_F_holdsAllOf_2 y0 y1 y2 h = some q) (kc : ∀ s, q = .inl s → Z l C mi m_F_holdsAllOf 1 2 [(0, vr (some y0)), (1, vr y1), (2, vi s.1)] [] s.2 (some (vi v)) h') (ke : ∀ x, q = .inr (.inl x) → Z l C mi m_F_holdsAllOf 1 74 [] [] x (some (vi v)) h') (kr : ∀ rv rh, q = .inr (.inr (rv, rh)) → v = rv ∧ h' = rh) : Z l C mi m_F_holdsAllOf 1 2 [(0, vr (some y0)), (1, vr y1), (2, vi y2)] [] h (some (vi v)) h' := by
  unfold b_F_holdsAllOf_2 at hf
  refine z_iload_n 2 d_F_holdsAllOf_2 rfl rfl ?_
  refine z_iconst (v := (nI 4)) d_F_holdsAllOf_3 (by decide) ?_
  refine z_icmp_ge (tgt := 74) d_F_holdsAllOf_4 (by decide) (fun c1 => ?_) (fun c1 => ?_)
  · rw [if_pos c1] at hf
    refine z_ls [] rfl ?_
    exact ke h (Option.some.inj hf).symm
  · rw [if_neg c1] at hf
    refine z_aload_n 1 d_F_holdsAllOf_7 rfl rfl ?_
    obtain ⟨a2, e3, hf⟩ := dr_some hf
    obtain ⟨g4, hf⟩ := gd_some hf
    refine z_getR d_F_holdsAllOf_8 (fl_K (isK_eq g4) fl_F_66_4) (fi_K (isK_eq g4) rfl) e3 ?_
    refine z_iload_n 2 d_F_holdsAllOf_11 rfl rfl ?_
    obtain ⟨a5, e6, hf⟩ := dr_some hf
    obtain ⟨g7, hf⟩ := gd_some hf
    obtain ⟨g8, hf⟩ := gd_some hf
    refine z_aald d_F_holdsAllOf_12 e6 (by rw [isK_eq g7]; decide) (by rw [isK_eq g7]; decide) (inb_vp g8) ?_
    refine z_ifnull (tgt := 31) d_F_holdsAllOf_13 (by decide) (fun c9 => ?_) (fun c9 => ?_)
    · rw [if_pos c9] at hf
      refine z_ls [0, 1, 2] rfl ?_
      exact zj_F_holdsAllOf_31_L2 hf kc ke kr
    · rw [if_neg c9] at hf
      refine z_aload_n 0 d_F_holdsAllOf_16 rfl rfl ?_
      refine z_aload_n 1 d_F_holdsAllOf_17 rfl rfl ?_
      refine z_getR d_F_holdsAllOf_18 (fl_K (isK_eq g4) fl_F_66_4) (fi_K (isK_eq g4) rfl) e3 ?_
      refine z_iload_n 2 d_F_holdsAllOf_21 rfl rfl ?_
      refine z_aald d_F_holdsAllOf_22 e6 (by rw [isK_eq g7]; decide) (by rw [isK_eq g7]; decide) (inb_vp g8) ?_
      obtain ⟨g29, hf⟩ := gd_some hf
      obtain ⟨v32, h30, ec31, hf⟩ := cl_some hf
      refine z_callVx rfl (c_F_holdsPage ec31) d_F_holdsAllOf_23 cw_F_holdsPage lk_F_72 im_F_holdsPage se_F_holdsPage (kc_K (isK_eq g29) kc_1) ⟨by decide, by decide⟩ (Nat.le_of_ble_eq_true rfl) rfl ?_
      refine z_if_ne (tgt := 31) d_F_holdsAllOf_26 (by decide) (fun c34 => ?_) (fun c34 => ?_)
      · rw [if_neg c34] at hf
        refine z_ls [0, 1, 2] rfl ?_
        exact zj_F_holdsAllOf_31_L2 hf kc ke kr
      · rw [if_pos c34] at hf
        refine z_iconst (v := (0 : Int32)) d_F_holdsAllOf_29 (by decide) ?_
        obtain ⟨rfl, rfl⟩ := kr _ _ (Option.some.inj hf).symm
        exact z_ret d_F_holdsAllOf_30 rfl
set_option maxRecDepth 100000 in
set_option maxHeartbeats 4000000 in
theorem kb_F_holdsAllOf_2 {C : Ct} {mi : Nat} {y0 : Nat} {y1 : Option Nat} {y2 : Int32} {h : Hp} {q : ((Int32 × Hp) ⊕ ((Hp) ⊕ (Int32 × Hp)))} (hf : b_F_holdsAllOf_2 y0 y1 y2 h = some q) : Keep W_F_holdsAllOf h (Sum.elim (fun s : Int32 × Hp => s.2) (Sum.elim (fun x : Hp => x) (fun r : (Int32 × Hp) => r.2)) q) := by
  unfold b_F_holdsAllOf_2 at hf
  rcases Classical.em ((nI 4) ≤ y2) with c1 | c1
  · rw [if_pos c1] at hf
    cases (Option.some.inj hf)
    exact (Keep.refl W_F_holdsAllOf _)
  · rw [if_neg c1] at hf
    obtain ⟨a2, e3, hf⟩ := dr_some hf
    obtain ⟨g4, hf⟩ := gd_some hf
    obtain ⟨a5, e6, hf⟩ := dr_some hf
    obtain ⟨g7, hf⟩ := gd_some hf
    obtain ⟨g8, hf⟩ := gd_some hf
    rcases Classical.em ((hpR h a5 y2.toNatClampNeg) = none) with c9 | c9
    · rw [if_pos c9] at hf
      exact (Keep.refl W_F_holdsAllOf _).trans (kj_F_holdsAllOf_31_L2 (C := C) (mi := mi) hf)
    · rw [if_neg c9] at hf
      obtain ⟨g29, hf⟩ := gd_some hf
      obtain ⟨v32, h30, ec31, hf⟩ := cl_some hf
      have K33 := (Keep.refl W_F_holdsAllOf _).trans ((fr_F_holdsPage (C := C) (mi := mi) ec31).mono (by decide) (by decide))
      rcases (Classical.em (v32 = 0)).symm with c34 | c34
      · rw [if_neg c34] at hf
        exact K33.trans (kj_F_holdsAllOf_31_L2 (C := C) (mi := mi) hf)
      · rw [if_pos c34] at hf
        cases (Option.some.inj hf)
        exact K33
def l_F_holdsAllOf_2 (y0 : Nat) (y1 : Option Nat) (s : Int32 × Hp) : Option ((Hp) ⊕ (Int32 × Hp)) := lp (fun s => b_F_holdsAllOf_2 y0 y1 s.1 s.2) FU s
theorem zzl_F_holdsAllOf_2 {l : Launch} {C : Ct} {mi : Nat} {y0 : Nat} {y1 : Option Nat} {h' : Hp} {v : Int32} : ∀ (n : Nat) (s : Int32 × Hp) (q : ((Hp) ⊕ (Int32 × Hp))), lp (fun s : Int32 × Hp => b_F_holdsAllOf_2 y0 y1 s.1 s.2) n s = some q → (∀ x, q = .inl x → Z l C mi m_F_holdsAllOf 1 74 [] [] x (some (vi v)) h') → (∀ rv rh, q = .inr (rv, rh) → v = rv ∧ h' = rh) → Z l C mi m_F_holdsAllOf 1 2 [(0, vr (some y0)), (1, vr y1), (2, vi s.1)] [] s.2 (some (vi v)) h' := by
  intro n
  induction n with
  | zero => intro s q hl; cases hl
  | succ n ih =>
    intro s q hl ke kr
    rcases lp_some hl with ⟨s2, hb, hl2⟩ | hb
    · exact zb_F_holdsAllOf_2 hb (fun s3 e3 => by cases e3; refine z_ls [0, 1, 2] rfl ?_; exact ih s2 q hl2 ke kr) (fun x e3 => by cases e3) (fun rv rh e3 => by cases e3)
    · exact zb_F_holdsAllOf_2 hb (fun s3 e3 => by cases e3) (fun x e3 => ke x (Sum.inr.inj e3)) (fun rv rh e3 => kr rv rh (Sum.inr.inj e3))
theorem zl_F_holdsAllOf_2 {l : Launch} {C : Ct} {mi : Nat} {y0 : Nat} {y1 : Option Nat} {h' : Hp} {v : Int32} {s : Int32 × Hp} {q : ((Hp) ⊕ (Int32 × Hp))} (hl : l_F_holdsAllOf_2 y0 y1 s = some q) (ke : ∀ x, q = .inl x → Z l C mi m_F_holdsAllOf 1 74 [] [] x (some (vi v)) h') (kr : ∀ rv rh, q = .inr (rv, rh) → v = rv ∧ h' = rh) : Z l C mi m_F_holdsAllOf 1 2 [(0, vr (some y0)), (1, vr y1), (2, vi s.1)] [] s.2 (some (vi v)) h' := zzl_F_holdsAllOf_2 FU s q hl ke kr
theorem kl_F_holdsAllOf_2 {C : Ct} {mi : Nat} {y0 : Nat} {y1 : Option Nat} {s : Int32 × Hp} {q : ((Hp) ⊕ (Int32 × Hp))} (hl : l_F_holdsAllOf_2 y0 y1 s = some q) : Keep W_F_holdsAllOf s.2 ((Sum.elim (fun x : Hp => x) (fun r : (Int32 × Hp) => r.2)) q) := lpk (sh := (fun s : Int32 × Hp => s.2)) (rh := (Sum.elim (fun x : Hp => x) (fun r : (Int32 × Hp) => r.2))) (fun s q hb => kb_F_holdsAllOf_2 (C := C) (mi := mi) hb) FU s q hl
def f0_F_holdsAllOf (a0 : Nat) (p1 : Option Nat) (h : Hp) : Option (Int32 × Hp) :=
  lk (l_F_holdsAllOf_2 a0 p1 ((0 : Int32), h)) (fun x35 => some ((1 : Int32), x35)) some
def f_F_holdsAllOf (a0 : Nat) (p1 : Option Nat) (h : Hp) : Option (Int32 × Hp) := zbw (f0_F_holdsAllOf a0 p1 h)
set_option maxRecDepth 100000 in
set_option maxHeartbeats 4000000 in
theorem zf_F_holdsAllOf {l : Launch} {C : Ct} {mi : Nat} {a0 : Nat} {p1 : Option Nat} {h h' : Hp} {v : Int32} (hf : f0_F_holdsAllOf a0 p1 h = some (v, h')) : Z l C mi m_F_holdsAllOf 1 0 [(0, vr (some a0)), (1, vr p1)] [] h (some (vi v)) h' := by
  unfold f0_F_holdsAllOf at hf
  refine z_iconst (v := (0 : Int32)) d_F_holdsAllOf_0 (by decide) ?_
  refine z_istore_n (ls2 := [(2, vi (0 : Int32)), (0, vr (some a0)), (1, vr p1)]) d_F_holdsAllOf_1 rfl (by decide) rfl ?_
  rcases lk_some hf with ⟨x35, el36, hf⟩ | ⟨x35r, el36, hf⟩
  · skip
    refine z_ls [1, 2, 0] rfl ?_
    refine zl_F_holdsAllOf_2 el36 (fun x2 e2 => ?_) (fun rv rh e2 => by cases e2)
    cases e2
    refine z_iconst (v := (1 : Int32)) d_F_holdsAllOf_74 (by decide) ?_
    obtain ⟨rfl, rfl⟩ := Prod.mk.inj (Option.some.inj hf)
    exact z_ret d_F_holdsAllOf_75 rfl
  · skip
    refine z_ls [1, 2, 0] rfl ?_
    refine zl_F_holdsAllOf_2 el36 (fun x2 e2 => by cases e2) (fun rv rh e2 => ?_)
    cases e2
    have e4 := Prod.mk.inj (Option.some.inj hf)
    exact ⟨e4.1.symm, e4.2.symm⟩
set_option maxRecDepth 100000 in
set_option maxHeartbeats 4000000 in
theorem fr0_F_holdsAllOf {C : Ct} {mi : Nat} {a0 : Nat} {p1 : Option Nat} {h h' : Hp} {v : Int32} (hf : f0_F_holdsAllOf a0 p1 h = some (v, h')) : Keep W_F_holdsAllOf h h' := by
  unfold f0_F_holdsAllOf at hf
  rcases lk_some hf with ⟨x35, el36, hf⟩ | ⟨x35r, el36, hf⟩
  · skip
    have K37 := (Keep.refl W_F_holdsAllOf _).trans (kl_F_holdsAllOf_2 (C := C) (mi := mi) el36)
    obtain ⟨rfl, rfl⟩ := Prod.mk.inj (Option.some.inj hf)
    exact K37
  · skip
    have K38 := (Keep.refl W_F_holdsAllOf _).trans (kl_F_holdsAllOf_2 (C := C) (mi := mi) el36)
    cases (Option.some.inj hf)
    exact K38
theorem fr_F_holdsAllOf {C : Ct} {mi : Nat} {a0 : Nat} {p1 : Option Nat} {h h' : Hp} {v : Int32} (hf : f_F_holdsAllOf a0 p1 h = some (v, h')) : Keep W_F_holdsAllOf h h' := fr0_F_holdsAllOf (C := C) (mi := mi) (zbw_some hf).2
theorem c_F_holdsAllOf {l : Launch} {C : Ct} {mi : Nat} {a0 : Nat} {p1 : Option Nat} {h h' : Hp} {v : Int32} (hf : f_F_holdsAllOf a0 p1 h = some (v, h')) : Mt l C mi m_F_holdsAllOf 1 [vr (some a0), vr p1] h (some (vi v)) h' := mt_I (ty := .boolean) rfl rfl (zb_eq (zbw_some hf).1) (by decide) (Nat.le_of_ble_eq_true rfl) (zf_F_holdsAllOf (zbw_some hf).2)
-- VersionMaps$BlockFile.newestReadable()LVersionMaps$Chunk;
def m_F_newestReadable : Mi := (⟨"VersionMaps$BlockFile", "newestReadable", "()LVersionMaps$Chunk;"⟩, prog_2_method_8_code, 4, (Option.some (Jvm.ClassFile.FieldType.object "VersionMaps$Chunk")), .areturn)
theorem cw_F_newestReadable : cw_ok m_F_newestReadable 0 := ⟨by decide +kernel, by decide +kernel, by decide +kernel, by decide +kernel⟩
theorem im_F_newestReadable : Cond.instanceMethod m_F_newestReadable.1 ∈ lw_w := by decide +kernel
theorem se_F_newestReadable : Cond.selects "VersionMaps$BlockFile" m_F_newestReadable.1 m_F_newestReadable.1 ∈ lw_w := by decide +kernel
theorem d_F_newestReadable_0 : decode prog_2_method_8_code 0 = .ok (.aconst_null, 1) := by decide +kernel
theorem d_F_newestReadable_1 : decode prog_2_method_8_code 1 = .ok (.astore_n 1, 1) := by decide +kernel
theorem d_F_newestReadable_2 : decode prog_2_method_8_code 2 = .ok (.iconst 0, 1) := by decide +kernel
theorem d_F_newestReadable_3 : decode prog_2_method_8_code 3 = .ok (.istore_n 2, 1) := by decide +kernel
theorem d_F_newestReadable_4 : decode prog_2_method_8_code 4 = .ok (.iload_n 2, 1) := by decide +kernel
theorem d_F_newestReadable_5 : decode prog_2_method_8_code 5 = .ok (.bipush 32, 2) := by decide +kernel
theorem d_F_newestReadable_7 : decode prog_2_method_8_code 7 = .ok (.if_icmp .ge 56, 3) := by decide +kernel
theorem d_F_newestReadable_10 : decode prog_2_method_8_code 10 = .ok (.aload_n 0, 1) := by decide +kernel
theorem d_F_newestReadable_11 : decode prog_2_method_8_code 11 = .ok (.getfield 11, 3) := by decide +kernel
theorem d_F_newestReadable_14 : decode prog_2_method_8_code 14 = .ok (.iload_n 2, 1) := by decide +kernel
theorem d_F_newestReadable_15 : decode prog_2_method_8_code 15 = .ok (.aaload, 1) := by decide +kernel
theorem d_F_newestReadable_16 : decode prog_2_method_8_code 16 = .ok (.astore_n 3, 1) := by decide +kernel
theorem d_F_newestReadable_17 : decode prog_2_method_8_code 17 = .ok (.aload_n 3, 1) := by decide +kernel
theorem d_F_newestReadable_18 : decode prog_2_method_8_code 18 = .ok (.ifnull 39, 3) := by decide +kernel
theorem d_F_newestReadable_21 : decode prog_2_method_8_code 21 = .ok (.aload_n 1, 1) := by decide +kernel
theorem d_F_newestReadable_22 : decode prog_2_method_8_code 22 = .ok (.ifnull 14, 3) := by decide +kernel
theorem d_F_newestReadable_25 : decode prog_2_method_8_code 25 = .ok (.aload_n 3, 1) := by decide +kernel
theorem d_F_newestReadable_26 : decode prog_2_method_8_code 26 = .ok (.getfield 45, 3) := by decide +kernel
theorem d_F_newestReadable_29 : decode prog_2_method_8_code 29 = .ok (.aload_n 1, 1) := by decide +kernel
theorem d_F_newestReadable_30 : decode prog_2_method_8_code 30 = .ok (.getfield 45, 3) := by decide +kernel
theorem d_F_newestReadable_33 : decode prog_2_method_8_code 33 = .ok (.if_icmp .le 24, 3) := by decide +kernel
theorem d_F_newestReadable_36 : decode prog_2_method_8_code 36 = .ok (.aload_n 0, 1) := by decide +kernel
theorem d_F_newestReadable_37 : decode prog_2_method_8_code 37 = .ok (.aload_n 3, 1) := by decide +kernel
theorem d_F_newestReadable_38 : decode prog_2_method_8_code 38 = .ok (.invokevirtual 48, 3) := by decide +kernel
theorem d_F_newestReadable_41 : decode prog_2_method_8_code 41 = .ok (.ifCond .eq 16, 3) := by decide +kernel
theorem d_F_newestReadable_44 : decode prog_2_method_8_code 44 = .ok (.aload_n 0, 1) := by decide +kernel
theorem d_F_newestReadable_45 : decode prog_2_method_8_code 45 = .ok (.aload_n 3, 1) := by decide +kernel
theorem d_F_newestReadable_46 : decode prog_2_method_8_code 46 = .ok (.getfield 52, 3) := by decide +kernel
theorem d_F_newestReadable_49 : decode prog_2_method_8_code 49 = .ok (.invokevirtual 56, 3) := by decide +kernel
theorem d_F_newestReadable_52 : decode prog_2_method_8_code 52 = .ok (.ifCond .eq 5, 3) := by decide +kernel
theorem d_F_newestReadable_55 : decode prog_2_method_8_code 55 = .ok (.aload_n 3, 1) := by decide +kernel
theorem d_F_newestReadable_56 : decode prog_2_method_8_code 56 = .ok (.astore_n 1, 1) := by decide +kernel
theorem d_F_newestReadable_57 : decode prog_2_method_8_code 57 = .ok (.iinc 2 1, 3) := by decide +kernel
theorem d_F_newestReadable_60 : decode prog_2_method_8_code 60 = .ok (.goto (-56), 3) := by decide +kernel
theorem d_F_newestReadable_63 : decode prog_2_method_8_code 63 = .ok (.aload_n 1, 1) := by decide +kernel
theorem d_F_newestReadable_64 : decode prog_2_method_8_code 64 = .ok (.areturn, 1) := by decide +kernel
def W_F_newestReadable : Wl := ([], [])
def j_F_newestReadable_36_L4 (y0 : Nat) (y1 : Option Nat) (y2 : Int32) (y3 : Option Nat) (h : Hp) : Option ((Option Nat × Int32 × Hp) ⊕ (Option Nat × Hp)) :=
  gd (isK h y0 1) (cl (f_F_isWhole y0 y3 h) fun v12 h10 => if v12 = 0 then (some (.inl (y1, (y2 + (1 : Int32)), h10))) else (dr y3 fun a15 => gd (isK h10 a15 2) (gd (isK h10 y0 1) (cl (f_F_holdsAllOf y0 (hpR h10 a15 4) h10) fun v21 h19 => if v21 = 0 then (some (.inl (y1, (y2 + (1 : Int32)), h19))) else (some (.inl (y3, (y2 + (1 : Int32)), h19)))))))
set_option maxRecDepth 100000 in
set_option maxHeartbeats 4000000 in
theorem zj_F_newestReadable_36_L4 {l : Launch} {C : Ct} {mi : Nat} {y0 : Nat} {y1 : Option Nat} {y2 : Int32} {y3 : Option Nat} {h h' : Hp} {v : Option Nat} {q : ((Option Nat × Int32 × Hp) ⊕ (Option Nat × Hp))} (hf : j_F_newestReadable_36_L4 y0 y1 y2 y3 h = some q) (kc : ∀ s, q = .inl s → Z l C mi m_F_newestReadable 3 4 [(0, vr (some y0)), (1, vr s.1), (2, vi s.2.1)] [] s.2.2 (some (vr v)) h') (ke : ∀ x, q = .inr x → Z l C mi m_F_newestReadable 3 63 [(1, vr x.1)] [] x.2 (some (vr v)) h') : Z l C mi m_F_newestReadable 3 36 [(0, vr (some y0)), (1, vr y1), (2, vi y2), (3, vr y3)] [] h (some (vr v)) h' := by
  unfold j_F_newestReadable_36_L4 at hf
  refine z_aload_n 0 d_F_newestReadable_36 rfl rfl ?_
  refine z_aload_n 3 d_F_newestReadable_37 rfl rfl ?_
  obtain ⟨g9, hf⟩ := gd_some hf
  obtain ⟨v12, h10, ec11, hf⟩ := cl_some hf
  refine z_callVx rfl (c_F_isWhole ec11) d_F_newestReadable_38 cw_F_isWhole lk_F_48 im_F_isWhole se_F_isWhole (kc_K (isK_eq g9) kc_1) ⟨by decide, by decide⟩ (Nat.le_of_ble_eq_true rfl) rfl ?_
  refine z_if_eq (tgt := 57) d_F_newestReadable_41 (by decide) (fun c14 => ?_) (fun c14 => ?_)
  · rw [if_pos c14] at hf
    refine z_iinc (ls2 := [(2, vi (y2 + (1 : Int32))), (0, vr (some y0)), (1, vr y1), (3, vr y3)]) 2 d_F_newestReadable_57 rfl rfl (by decide) rfl ?_
    refine z_goto (tgt := 4) d_F_newestReadable_60 (by decide) ?_
    refine z_ls [1, 2, 0] rfl ?_
    exact kc (y1, (y2 + (1 : Int32)), h10) (Option.some.inj hf).symm
  · rw [if_neg c14] at hf
    refine z_aload_n 0 d_F_newestReadable_44 rfl rfl ?_
    refine z_aload_n 3 d_F_newestReadable_45 rfl rfl ?_
    obtain ⟨a15, e16, hf⟩ := dr_some hf
    obtain ⟨g17, hf⟩ := gd_some hf
    refine z_getR d_F_newestReadable_46 (fl_K (isK_eq g17) fl_F_52_2) (fi_K (isK_eq g17) rfl) e16 ?_
    obtain ⟨g18, hf⟩ := gd_some hf
    obtain ⟨v21, h19, ec20, hf⟩ := cl_some hf
    refine z_callVx rfl (c_F_holdsAllOf ec20) d_F_newestReadable_49 cw_F_holdsAllOf lk_F_56 im_F_holdsAllOf se_F_holdsAllOf (kc_K (isK_eq g18) kc_1) ⟨by decide, by decide⟩ (Nat.le_of_ble_eq_true rfl) rfl ?_
    refine z_if_eq (tgt := 57) d_F_newestReadable_52 (by decide) (fun c23 => ?_) (fun c23 => ?_)
    · rw [if_pos c23] at hf
      refine z_iinc (ls2 := [(2, vi (y2 + (1 : Int32))), (0, vr (some y0)), (1, vr y1), (3, vr y3)]) 2 d_F_newestReadable_57 rfl rfl (by decide) rfl ?_
      refine z_goto (tgt := 4) d_F_newestReadable_60 (by decide) ?_
      refine z_ls [1, 2, 0] rfl ?_
      exact kc (y1, (y2 + (1 : Int32)), h19) (Option.some.inj hf).symm
    · rw [if_neg c23] at hf
      refine z_aload_n 3 d_F_newestReadable_55 rfl rfl ?_
      refine z_astore_n (ls2 := [(1, vr y3), (0, vr (some y0)), (2, vi y2), (3, vr y3)]) d_F_newestReadable_56 rfl (by decide) rfl ?_
      refine z_iinc (ls2 := [(2, vi (y2 + (1 : Int32))), (1, vr y3), (0, vr (some y0)), (3, vr y3)]) 2 d_F_newestReadable_57 rfl rfl (by decide) rfl ?_
      refine z_goto (tgt := 4) d_F_newestReadable_60 (by decide) ?_
      refine z_ls [2, 1, 0] rfl ?_
      exact kc (y3, (y2 + (1 : Int32)), h19) (Option.some.inj hf).symm
set_option maxRecDepth 100000 in
set_option maxHeartbeats 4000000 in
theorem kj_F_newestReadable_36_L4 {C : Ct} {mi : Nat} {y0 : Nat} {y1 : Option Nat} {y2 : Int32} {y3 : Option Nat} {h : Hp} {q : ((Option Nat × Int32 × Hp) ⊕ (Option Nat × Hp))} (hf : j_F_newestReadable_36_L4 y0 y1 y2 y3 h = some q) : Keep W_F_newestReadable h (Sum.elim (fun s : Option Nat × Int32 × Hp => s.2.2) (fun x : Option Nat × Hp => x.2) q) := by
  unfold j_F_newestReadable_36_L4 at hf
  obtain ⟨g9, hf⟩ := gd_some hf
  obtain ⟨v12, h10, ec11, hf⟩ := cl_some hf
  have K13 := (Keep.refl W_F_newestReadable _).trans ((fr_F_isWhole (C := C) (mi := mi) ec11).mono (by decide) (by decide))
  rcases Classical.em (v12 = 0) with c14 | c14
  · rw [if_pos c14] at hf
    cases (Option.some.inj hf)
    exact K13
  · rw [if_neg c14] at hf
    obtain ⟨a15, e16, hf⟩ := dr_some hf
    obtain ⟨g17, hf⟩ := gd_some hf
    obtain ⟨g18, hf⟩ := gd_some hf
    obtain ⟨v21, h19, ec20, hf⟩ := cl_some hf
    have K22 := K13.trans ((fr_F_holdsAllOf (C := C) (mi := mi) ec20).mono (by decide) (by decide))
    rcases Classical.em (v21 = 0) with c23 | c23
    · rw [if_pos c23] at hf
      cases (Option.some.inj hf)
      exact K22
    · rw [if_neg c23] at hf
      cases (Option.some.inj hf)
      exact K22
def b_F_newestReadable_4 (y0 : Nat) (y1 : Option Nat) (y2 : Int32) (h : Hp) : Option ((Option Nat × Int32 × Hp) ⊕ (Option Nat × Hp)) :=
  if (nI 32) ≤ y2 then (some (.inr (y1, h))) else (gd (isK h y0 1) (dr (hpR h y0 0) fun a3 => gd (isK h a3 68) (gd (inb y2 (hpL h a3)) (if (hpR h a3 y2.toNatClampNeg) = none then (some (.inl (y1, (y2 + (1 : Int32)), h))) else (if y1 = none then (j_F_newestReadable_36_L4 y0 y1 y2 (hpR h a3 y2.toNatClampNeg) h) else (dr (hpR h a3 y2.toNatClampNeg) fun a24 => gd (isK h a24 2) (dr y1 fun a27 => gd (isK h a27 2) (if (hpI h a24 0) ≤ (hpI h a27 0) then (some (.inl (y1, (y2 + (1 : Int32)), h))) else (j_F_newestReadable_36_L4 y0 y1 y2 (hpR h a3 y2.toNatClampNeg) h)))))))))
set_option maxRecDepth 100000 in
set_option maxHeartbeats 4000000 in
theorem zb_F_newestReadable_4 {l : Launch} {C : Ct} {mi : Nat} {y0 : Nat} {y1 : Option Nat} {y2 : Int32} {h h' : Hp} {v : Option Nat} {q : ((Option Nat × Int32 × Hp) ⊕ (Option Nat × Hp))} (hf : b_F_newestReadable_4 y0 y1 y2 h = some q) (kc : ∀ s, q = .inl s → Z l C mi m_F_newestReadable 3 4 [(0, vr (some y0)), (1, vr s.1), (2, vi s.2.1)] [] s.2.2 (some (vr v)) h') (ke : ∀ x, q = .inr x → Z l C mi m_F_newestReadable 3 63 [(1, vr x.1)] [] x.2 (some (vr v)) h') : Z l C mi m_F_newestReadable 3 4 [(0, vr (some y0)), (1, vr y1), (2, vi y2)] [] h (some (vr v)) h' := by
  unfold b_F_newestReadable_4 at hf
  refine z_iload_n 2 d_F_newestReadable_4 rfl rfl ?_
  refine z_bipush (v := (nI 32)) d_F_newestReadable_5 (by decide) ?_
  refine z_icmp_ge (tgt := 63) d_F_newestReadable_7 (by decide) (fun c1 => ?_) (fun c1 => ?_)
  · rw [if_pos c1] at hf
    refine z_ls [1] rfl ?_
    exact ke (y1, h) (Option.some.inj hf).symm
  · rw [if_neg c1] at hf
    refine z_aload_n 0 d_F_newestReadable_10 rfl rfl ?_
    obtain ⟨g2, hf⟩ := gd_some hf
    refine z_getR d_F_newestReadable_11 (fl_K (isK_eq g2) fl_F_11_1) (fi_K (isK_eq g2) rfl) rfl ?_
    refine z_iload_n 2 d_F_newestReadable_14 rfl rfl ?_
    obtain ⟨a3, e4, hf⟩ := dr_some hf
    obtain ⟨g5, hf⟩ := gd_some hf
    obtain ⟨g6, hf⟩ := gd_some hf
    refine z_aald d_F_newestReadable_15 e4 (by rw [isK_eq g5]; decide) (by rw [isK_eq g5]; decide) (inb_vp g6) ?_
    refine z_astore_n (ls2 := [(3, vr (hpR h a3 y2.toNatClampNeg)), (0, vr (some y0)), (1, vr y1), (2, vi y2)]) d_F_newestReadable_16 rfl (by decide) rfl ?_
    refine z_aload_n 0 d_F_newestReadable_17 rfl rfl ?_
    refine z_ifnull (tgt := 57) d_F_newestReadable_18 (by decide) (fun c7 => ?_) (fun c7 => ?_)
    · rw [if_pos c7] at hf
      refine z_iinc (ls2 := [(2, vi (y2 + (1 : Int32))), (3, vr (hpR h a3 y2.toNatClampNeg)), (0, vr (some y0)), (1, vr y1)]) 3 d_F_newestReadable_57 rfl rfl (by decide) rfl ?_
      refine z_goto (tgt := 4) d_F_newestReadable_60 (by decide) ?_
      refine z_ls [2, 3, 0] rfl ?_
      exact kc (y1, (y2 + (1 : Int32)), h) (Option.some.inj hf).symm
    · rw [if_neg c7] at hf
      refine z_aload_n 2 d_F_newestReadable_21 rfl rfl ?_
      refine z_ifnull (tgt := 36) d_F_newestReadable_22 (by decide) (fun c8 => ?_) (fun c8 => ?_)
      · rw [if_pos c8] at hf
        refine z_ls [1, 2, 3, 0] rfl ?_
        exact zj_F_newestReadable_36_L4 hf kc ke
      · rw [if_neg c8] at hf
        refine z_aload_n 0 d_F_newestReadable_25 rfl rfl ?_
        obtain ⟨a24, e25, hf⟩ := dr_some hf
        obtain ⟨g26, hf⟩ := gd_some hf
        refine z_getI d_F_newestReadable_26 (fl_K (isK_eq g26) fl_F_45_2) (fi_K (isK_eq g26) rfl) e25 ?_
        refine z_aload_n 2 d_F_newestReadable_29 rfl rfl ?_
        obtain ⟨a27, e28, hf⟩ := dr_some hf
        obtain ⟨g29, hf⟩ := gd_some hf
        refine z_getI d_F_newestReadable_30 (fl_K (isK_eq g29) fl_F_45_2) (fi_K (isK_eq g29) rfl) e28 ?_
        refine z_icmp_le (tgt := 57) d_F_newestReadable_33 (by decide) (fun c30 => ?_) (fun c30 => ?_)
        · rw [if_pos c30] at hf
          refine z_iinc (ls2 := [(2, vi (y2 + (1 : Int32))), (3, vr (hpR h a3 y2.toNatClampNeg)), (0, vr (some y0)), (1, vr y1)]) 3 d_F_newestReadable_57 rfl rfl (by decide) rfl ?_
          refine z_goto (tgt := 4) d_F_newestReadable_60 (by decide) ?_
          refine z_ls [2, 3, 0] rfl ?_
          exact kc (y1, (y2 + (1 : Int32)), h) (Option.some.inj hf).symm
        · rw [if_neg c30] at hf
          refine z_ls [1, 2, 3, 0] rfl ?_
          exact zj_F_newestReadable_36_L4 hf kc ke
set_option maxRecDepth 100000 in
set_option maxHeartbeats 4000000 in
theorem kb_F_newestReadable_4 {C : Ct} {mi : Nat} {y0 : Nat} {y1 : Option Nat} {y2 : Int32} {h : Hp} {q : ((Option Nat × Int32 × Hp) ⊕ (Option Nat × Hp))} (hf : b_F_newestReadable_4 y0 y1 y2 h = some q) : Keep W_F_newestReadable h (Sum.elim (fun s : Option Nat × Int32 × Hp => s.2.2) (fun x : Option Nat × Hp => x.2) q) := by
  unfold b_F_newestReadable_4 at hf
  rcases Classical.em ((nI 32) ≤ y2) with c1 | c1
  · rw [if_pos c1] at hf
    cases (Option.some.inj hf)
    exact (Keep.refl W_F_newestReadable _)
  · rw [if_neg c1] at hf
    obtain ⟨g2, hf⟩ := gd_some hf
    obtain ⟨a3, e4, hf⟩ := dr_some hf
    obtain ⟨g5, hf⟩ := gd_some hf
    obtain ⟨g6, hf⟩ := gd_some hf
    rcases Classical.em ((hpR h a3 y2.toNatClampNeg) = none) with c7 | c7
    · rw [if_pos c7] at hf
      cases (Option.some.inj hf)
      exact (Keep.refl W_F_newestReadable _)
    · rw [if_neg c7] at hf
      rcases Classical.em (y1 = none) with c8 | c8
      · rw [if_pos c8] at hf
        exact (Keep.refl W_F_newestReadable _).trans (kj_F_newestReadable_36_L4 (C := C) (mi := mi) hf)
      · rw [if_neg c8] at hf
        obtain ⟨a24, e25, hf⟩ := dr_some hf
        obtain ⟨g26, hf⟩ := gd_some hf
        obtain ⟨a27, e28, hf⟩ := dr_some hf
        obtain ⟨g29, hf⟩ := gd_some hf
        rcases Classical.em ((hpI h a24 0) ≤ (hpI h a27 0)) with c30 | c30
        · rw [if_pos c30] at hf
          cases (Option.some.inj hf)
          exact (Keep.refl W_F_newestReadable _)
        · rw [if_neg c30] at hf
          exact (Keep.refl W_F_newestReadable _).trans (kj_F_newestReadable_36_L4 (C := C) (mi := mi) hf)
def l_F_newestReadable_4 (y0 : Nat) (s : Option Nat × Int32 × Hp) : Option (Option Nat × Hp) := lp (fun s => b_F_newestReadable_4 y0 s.1 s.2.1 s.2.2) FU s
theorem zzl_F_newestReadable_4 {l : Launch} {C : Ct} {mi : Nat} {y0 : Nat} {h' : Hp} {v : Option Nat} : ∀ (n : Nat) (s : Option Nat × Int32 × Hp) (x : (Option Nat × Hp)), lp (fun s : Option Nat × Int32 × Hp => b_F_newestReadable_4 y0 s.1 s.2.1 s.2.2) n s = some x → Z l C mi m_F_newestReadable 3 63 [(1, vr x.1)] [] x.2 (some (vr v)) h' → Z l C mi m_F_newestReadable 3 4 [(0, vr (some y0)), (1, vr s.1), (2, vi s.2.1)] [] s.2.2 (some (vr v)) h' := by
  intro n
  induction n with
  | zero => intro s x hl; cases hl
  | succ n ih =>
    intro s x hl ke
    rcases lp_some hl with ⟨s2, hb, hl2⟩ | hb
    · exact zb_F_newestReadable_4 hb (fun s3 e3 => by cases e3; refine z_ls [0, 1, 2] rfl ?_; exact ih s2 x hl2 ke) (fun x e3 => by cases e3)
    · exact zb_F_newestReadable_4 hb (fun s3 e3 => by cases e3) (fun x e3 => by cases e3; exact ke)
theorem zl_F_newestReadable_4 {l : Launch} {C : Ct} {mi : Nat} {y0 : Nat} {h' : Hp} {v : Option Nat} {s : Option Nat × Int32 × Hp} {x : (Option Nat × Hp)} (hl : l_F_newestReadable_4 y0 s = some x) (ke : Z l C mi m_F_newestReadable 3 63 [(1, vr x.1)] [] x.2 (some (vr v)) h') : Z l C mi m_F_newestReadable 3 4 [(0, vr (some y0)), (1, vr s.1), (2, vi s.2.1)] [] s.2.2 (some (vr v)) h' := zzl_F_newestReadable_4 FU s x hl ke
theorem kl_F_newestReadable_4 {C : Ct} {mi : Nat} {y0 : Nat} {s : Option Nat × Int32 × Hp} {q : (Option Nat × Hp)} (hl : l_F_newestReadable_4 y0 s = some q) : Keep W_F_newestReadable s.2.2 ((fun x : Option Nat × Hp => x.2) q) := lpk (sh := (fun s : Option Nat × Int32 × Hp => s.2.2)) (rh := (fun x : Option Nat × Hp => x.2)) (fun s q hb => kb_F_newestReadable_4 (C := C) (mi := mi) hb) FU s q hl
def f_F_newestReadable (a0 : Nat) (h : Hp) : Option (Option Nat × Hp) :=
  bd (l_F_newestReadable_4 a0 (none, (0 : Int32), h)) fun x31 => some (x31.1, x31.2)
set_option maxRecDepth 100000 in
set_option maxHeartbeats 4000000 in
theorem zf_F_newestReadable {l : Launch} {C : Ct} {mi : Nat} {a0 : Nat} {h h' : Hp} {v : Option Nat} (hf : f_F_newestReadable a0 h = some (v, h')) : Z l C mi m_F_newestReadable 3 0 [(0, vr (some a0))] [] h (some (vr v)) h' := by
  unfold f_F_newestReadable at hf
  refine z_aconst_null d_F_newestReadable_0 ?_
  refine z_astore_n (ls2 := [(1, vr none), (0, vr (some a0))]) d_F_newestReadable_1 rfl (by decide) rfl ?_
  refine z_iconst (v := (0 : Int32)) d_F_newestReadable_2 (by decide) ?_
  refine z_istore_n (ls2 := [(2, vi (0 : Int32)), (1, vr none), (0, vr (some a0))]) d_F_newestReadable_3 rfl (by decide) rfl ?_
  obtain ⟨x31, el32, hf⟩ := bd_some hf
  refine z_ls [2, 1, 0] rfl ?_
  refine zl_F_newestReadable_4 el32 ?_
  refine z_aload_n 0 d_F_newestReadable_63 rfl rfl ?_
  obtain ⟨rfl, rfl⟩ := Prod.mk.inj (Option.some.inj hf)
  exact z_ret d_F_newestReadable_64 rfl
set_option maxRecDepth 100000 in
set_option maxHeartbeats 4000000 in
theorem fr_F_newestReadable {C : Ct} {mi : Nat} {a0 : Nat} {h h' : Hp} {v : Option Nat} (hf : f_F_newestReadable a0 h = some (v, h')) : Keep W_F_newestReadable h h' := by
  unfold f_F_newestReadable at hf
  obtain ⟨x31, el32, hf⟩ := bd_some hf
  have K33 := (Keep.refl W_F_newestReadable _).trans (kl_F_newestReadable_4 (C := C) (mi := mi) el32)
  obtain ⟨rfl, rfl⟩ := Prod.mk.inj (Option.some.inj hf)
  exact K33
theorem c_F_newestReadable {l : Launch} {C : Ct} {mi : Nat} {a0 : Nat} {h h' : Hp} {v : Option Nat} (hf : f_F_newestReadable a0 h = some (v, h')) : Mt l C mi m_F_newestReadable 3 [vr (some a0)] h (some (vr v)) h' := mt_R rfl (Or.inl ⟨_, rfl⟩) rfl (by decide) (Nat.le_of_ble_eq_true rfl) (zf_F_newestReadable hf)
-- VersionMaps$BlockFile.greatestId()I
def m_F_greatestId : Mi := (⟨"VersionMaps$BlockFile", "greatestId", "()I"⟩, prog_2_method_9_code, 3, (Option.some Jvm.ClassFile.FieldType.int), .ireturn)
theorem cw_F_greatestId : cw_ok m_F_greatestId 0 := ⟨by decide +kernel, by decide +kernel, by decide +kernel, by decide +kernel⟩
theorem im_F_greatestId : Cond.instanceMethod m_F_greatestId.1 ∈ lw_w := by decide +kernel
theorem se_F_greatestId : Cond.selects "VersionMaps$BlockFile" m_F_greatestId.1 m_F_greatestId.1 ∈ lw_w := by decide +kernel
theorem d_F_greatestId_0 : decode prog_2_method_9_code 0 = .ok (.iconst 0, 1) := by decide +kernel
theorem d_F_greatestId_1 : decode prog_2_method_9_code 1 = .ok (.istore_n 1, 1) := by decide +kernel
theorem d_F_greatestId_2 : decode prog_2_method_9_code 2 = .ok (.iconst 0, 1) := by decide +kernel
theorem d_F_greatestId_3 : decode prog_2_method_9_code 3 = .ok (.istore_n 2, 1) := by decide +kernel
theorem d_F_greatestId_4 : decode prog_2_method_9_code 4 = .ok (.iload_n 2, 1) := by decide +kernel
theorem d_F_greatestId_5 : decode prog_2_method_9_code 5 = .ok (.bipush 32, 2) := by decide +kernel
theorem d_F_greatestId_7 : decode prog_2_method_9_code 7 = .ok (.if_icmp .ge 32, 3) := by decide +kernel
theorem d_F_greatestId_10 : decode prog_2_method_9_code 10 = .ok (.aload_n 0, 1) := by decide +kernel
theorem d_F_greatestId_11 : decode prog_2_method_9_code 11 = .ok (.getfield 11, 3) := by decide +kernel
theorem d_F_greatestId_14 : decode prog_2_method_9_code 14 = .ok (.iload_n 2, 1) := by decide +kernel
theorem d_F_greatestId_15 : decode prog_2_method_9_code 15 = .ok (.aaload, 1) := by decide +kernel
theorem d_F_greatestId_16 : decode prog_2_method_9_code 16 = .ok (.ifnull 17, 3) := by decide +kernel
theorem d_F_greatestId_19 : decode prog_2_method_9_code 19 = .ok (.iload_n 1, 1) := by decide +kernel
theorem d_F_greatestId_20 : decode prog_2_method_9_code 20 = .ok (.aload_n 0, 1) := by decide +kernel
theorem d_F_greatestId_21 : decode prog_2_method_9_code 21 = .ok (.getfield 11, 3) := by decide +kernel
theorem d_F_greatestId_24 : decode prog_2_method_9_code 24 = .ok (.iload_n 2, 1) := by decide +kernel
theorem d_F_greatestId_25 : decode prog_2_method_9_code 25 = .ok (.aaload, 1) := by decide +kernel
theorem d_F_greatestId_26 : decode prog_2_method_9_code 26 = .ok (.getfield 45, 3) := by decide +kernel
theorem d_F_greatestId_29 : decode prog_2_method_9_code 29 = .ok (.invokestatic 60, 3) := by decide +kernel
theorem d_F_greatestId_32 : decode prog_2_method_9_code 32 = .ok (.istore_n 1, 1) := by decide +kernel
theorem d_F_greatestId_33 : decode prog_2_method_9_code 33 = .ok (.iinc 2 1, 3) := by decide +kernel
theorem d_F_greatestId_36 : decode prog_2_method_9_code 36 = .ok (.goto (-32), 3) := by decide +kernel
theorem d_F_greatestId_39 : decode prog_2_method_9_code 39 = .ok (.iload_n 1, 1) := by decide +kernel
theorem d_F_greatestId_40 : decode prog_2_method_9_code 40 = .ok (.ireturn, 1) := by decide +kernel
def W_F_greatestId : Wl := ([], [])
def b_F_greatestId_4 (y0 : Nat) (y1 : Int32) (y2 : Int32) (h : Hp) : Option ((Int32 × Int32 × Hp) ⊕ (Int32 × Hp)) :=
  if (nI 32) ≤ y2 then (some (.inr (y1, h))) else (gd (isK h y0 1) (dr (hpR h y0 0) fun a3 => gd (isK h a3 68) (gd (inb y2 (hpL h a3)) (if (hpR h a3 y2.toNatClampNeg) = none then (some (.inl (y1, (y2 + (1 : Int32)), h))) else (dr (hpR h a3 y2.toNatClampNeg) fun a8 => gd (isK h a8 2) (some (.inl ((if y1 < (hpI h a8 0) then (hpI h a8 0) else y1), (y2 + (1 : Int32)), h))))))))
set_option maxRecDepth 100000 in
set_option maxHeartbeats 4000000 in
theorem zb_F_greatestId_4 {l : Launch} {C : Ct} {mi : Nat} {y0 : Nat} {y1 : Int32} {y2 : Int32} {h h' : Hp} {v : Int32} {q : ((Int32 × Int32 × Hp) ⊕ (Int32 × Hp))} (hf : b_F_greatestId_4 y0 y1 y2 h = some q) (kc : ∀ s, q = .inl s → Z l C mi m_F_greatestId 1 4 [(0, vr (some y0)), (1, vi s.1), (2, vi s.2.1)] [] s.2.2 (some (vi v)) h') (ke : ∀ x, q = .inr x → Z l C mi m_F_greatestId 1 39 [(1, vi x.1)] [] x.2 (some (vi v)) h') : Z l C mi m_F_greatestId 1 4 [(0, vr (some y0)), (1, vi y1), (2, vi y2)] [] h (some (vi v)) h' := by
  unfold b_F_greatestId_4 at hf
  refine z_iload_n 2 d_F_greatestId_4 rfl rfl ?_
  refine z_bipush (v := (nI 32)) d_F_greatestId_5 (by decide) ?_
  refine z_icmp_ge (tgt := 39) d_F_greatestId_7 (by decide) (fun c1 => ?_) (fun c1 => ?_)
  · rw [if_pos c1] at hf
    refine z_ls [1] rfl ?_
    exact ke (y1, h) (Option.some.inj hf).symm
  · rw [if_neg c1] at hf
    refine z_aload_n 0 d_F_greatestId_10 rfl rfl ?_
    obtain ⟨g2, hf⟩ := gd_some hf
    refine z_getR d_F_greatestId_11 (fl_K (isK_eq g2) fl_F_11_1) (fi_K (isK_eq g2) rfl) rfl ?_
    refine z_iload_n 2 d_F_greatestId_14 rfl rfl ?_
    obtain ⟨a3, e4, hf⟩ := dr_some hf
    obtain ⟨g5, hf⟩ := gd_some hf
    obtain ⟨g6, hf⟩ := gd_some hf
    refine z_aald d_F_greatestId_15 e4 (by rw [isK_eq g5]; decide) (by rw [isK_eq g5]; decide) (inb_vp g6) ?_
    refine z_ifnull (tgt := 33) d_F_greatestId_16 (by decide) (fun c7 => ?_) (fun c7 => ?_)
    · rw [if_pos c7] at hf
      refine z_iinc (ls2 := [(2, vi (y2 + (1 : Int32))), (0, vr (some y0)), (1, vi y1)]) 2 d_F_greatestId_33 rfl rfl (by decide) rfl ?_
      refine z_goto (tgt := 4) d_F_greatestId_36 (by decide) ?_
      refine z_ls [1, 2, 0] rfl ?_
      exact kc (y1, (y2 + (1 : Int32)), h) (Option.some.inj hf).symm
    · rw [if_neg c7] at hf
      refine z_iload_n 1 d_F_greatestId_19 rfl rfl ?_
      refine z_aload_n 0 d_F_greatestId_20 rfl rfl ?_
      refine z_getR d_F_greatestId_21 (fl_K (isK_eq g2) fl_F_11_1) (fi_K (isK_eq g2) rfl) rfl ?_
      refine z_iload_n 2 d_F_greatestId_24 rfl rfl ?_
      refine z_aald d_F_greatestId_25 e4 (by rw [isK_eq g5]; decide) (by rw [isK_eq g5]; decide) (inb_vp g6) ?_
      obtain ⟨a8, e9, hf⟩ := dr_some hf
      obtain ⟨g10, hf⟩ := gd_some hf
      refine z_getI d_F_greatestId_26 (fl_K (isK_eq g10) fl_F_45_2) (fi_K (isK_eq g10) rfl) e9 ?_
      refine z_mmax d_F_greatestId_29 (by decide +kernel) (by decide) (Nat.le_of_ble_eq_true rfl) ?_
      refine z_istore_n (ls2 := [(1, vi (if y1 < (hpI h a8 0) then (hpI h a8 0) else y1)), (0, vr (some y0)), (2, vi y2)]) d_F_greatestId_32 rfl (by decide) rfl ?_
      refine z_iinc (ls2 := [(2, vi (y2 + (1 : Int32))), (1, vi (if y1 < (hpI h a8 0) then (hpI h a8 0) else y1)), (0, vr (some y0))]) 2 d_F_greatestId_33 rfl rfl (by decide) rfl ?_
      refine z_goto (tgt := 4) d_F_greatestId_36 (by decide) ?_
      refine z_ls [2, 1, 0] rfl ?_
      exact kc ((if y1 < (hpI h a8 0) then (hpI h a8 0) else y1), (y2 + (1 : Int32)), h) (Option.some.inj hf).symm
set_option maxRecDepth 100000 in
set_option maxHeartbeats 4000000 in
theorem kb_F_greatestId_4 {C : Ct} {mi : Nat} {y0 : Nat} {y1 : Int32} {y2 : Int32} {h : Hp} {q : ((Int32 × Int32 × Hp) ⊕ (Int32 × Hp))} (hf : b_F_greatestId_4 y0 y1 y2 h = some q) : Keep W_F_greatestId h (Sum.elim (fun s : Int32 × Int32 × Hp => s.2.2) (fun x : Int32 × Hp => x.2) q) := by
  unfold b_F_greatestId_4 at hf
  rcases Classical.em ((nI 32) ≤ y2) with c1 | c1
  · rw [if_pos c1] at hf
    cases (Option.some.inj hf)
    exact (Keep.refl W_F_greatestId _)
  · rw [if_neg c1] at hf
    obtain ⟨g2, hf⟩ := gd_some hf
    obtain ⟨a3, e4, hf⟩ := dr_some hf
    obtain ⟨g5, hf⟩ := gd_some hf
    obtain ⟨g6, hf⟩ := gd_some hf
    rcases Classical.em ((hpR h a3 y2.toNatClampNeg) = none) with c7 | c7
    · rw [if_pos c7] at hf
      cases (Option.some.inj hf)
      exact (Keep.refl W_F_greatestId _)
    · rw [if_neg c7] at hf
      obtain ⟨a8, e9, hf⟩ := dr_some hf
      obtain ⟨g10, hf⟩ := gd_some hf
      cases (Option.some.inj hf)
      exact (Keep.refl W_F_greatestId _)
def l_F_greatestId_4 (y0 : Nat) (s : Int32 × Int32 × Hp) : Option (Int32 × Hp) := lp (fun s => b_F_greatestId_4 y0 s.1 s.2.1 s.2.2) FU s
theorem zzl_F_greatestId_4 {l : Launch} {C : Ct} {mi : Nat} {y0 : Nat} {h' : Hp} {v : Int32} : ∀ (n : Nat) (s : Int32 × Int32 × Hp) (x : (Int32 × Hp)), lp (fun s : Int32 × Int32 × Hp => b_F_greatestId_4 y0 s.1 s.2.1 s.2.2) n s = some x → Z l C mi m_F_greatestId 1 39 [(1, vi x.1)] [] x.2 (some (vi v)) h' → Z l C mi m_F_greatestId 1 4 [(0, vr (some y0)), (1, vi s.1), (2, vi s.2.1)] [] s.2.2 (some (vi v)) h' := by
  intro n
  induction n with
  | zero => intro s x hl; cases hl
  | succ n ih =>
    intro s x hl ke
    rcases lp_some hl with ⟨s2, hb, hl2⟩ | hb
    · exact zb_F_greatestId_4 hb (fun s3 e3 => by cases e3; refine z_ls [0, 1, 2] rfl ?_; exact ih s2 x hl2 ke) (fun x e3 => by cases e3)
    · exact zb_F_greatestId_4 hb (fun s3 e3 => by cases e3) (fun x e3 => by cases e3; exact ke)
theorem zl_F_greatestId_4 {l : Launch} {C : Ct} {mi : Nat} {y0 : Nat} {h' : Hp} {v : Int32} {s : Int32 × Int32 × Hp} {x : (Int32 × Hp)} (hl : l_F_greatestId_4 y0 s = some x) (ke : Z l C mi m_F_greatestId 1 39 [(1, vi x.1)] [] x.2 (some (vi v)) h') : Z l C mi m_F_greatestId 1 4 [(0, vr (some y0)), (1, vi s.1), (2, vi s.2.1)] [] s.2.2 (some (vi v)) h' := zzl_F_greatestId_4 FU s x hl ke
theorem kl_F_greatestId_4 {C : Ct} {mi : Nat} {y0 : Nat} {s : Int32 × Int32 × Hp} {q : (Int32 × Hp)} (hl : l_F_greatestId_4 y0 s = some q) : Keep W_F_greatestId s.2.2 ((fun x : Int32 × Hp => x.2) q) := lpk (sh := (fun s : Int32 × Int32 × Hp => s.2.2)) (rh := (fun x : Int32 × Hp => x.2)) (fun s q hb => kb_F_greatestId_4 (C := C) (mi := mi) hb) FU s q hl
def f_F_greatestId (a0 : Nat) (h : Hp) : Option (Int32 × Hp) :=
  bd (l_F_greatestId_4 a0 ((0 : Int32), (0 : Int32), h)) fun x11 => some (x11.1, x11.2)
set_option maxRecDepth 100000 in
set_option maxHeartbeats 4000000 in
theorem zf_F_greatestId {l : Launch} {C : Ct} {mi : Nat} {a0 : Nat} {h h' : Hp} {v : Int32} (hf : f_F_greatestId a0 h = some (v, h')) : Z l C mi m_F_greatestId 1 0 [(0, vr (some a0))] [] h (some (vi v)) h' := by
  unfold f_F_greatestId at hf
  refine z_iconst (v := (0 : Int32)) d_F_greatestId_0 (by decide) ?_
  refine z_istore_n (ls2 := [(1, vi (0 : Int32)), (0, vr (some a0))]) d_F_greatestId_1 rfl (by decide) rfl ?_
  refine z_iconst (v := (0 : Int32)) d_F_greatestId_2 (by decide) ?_
  refine z_istore_n (ls2 := [(2, vi (0 : Int32)), (1, vi (0 : Int32)), (0, vr (some a0))]) d_F_greatestId_3 rfl (by decide) rfl ?_
  obtain ⟨x11, el12, hf⟩ := bd_some hf
  refine z_ls [2, 1, 0] rfl ?_
  refine zl_F_greatestId_4 el12 ?_
  refine z_iload_n 0 d_F_greatestId_39 rfl rfl ?_
  obtain ⟨rfl, rfl⟩ := Prod.mk.inj (Option.some.inj hf)
  exact z_ret d_F_greatestId_40 rfl
set_option maxRecDepth 100000 in
set_option maxHeartbeats 4000000 in
theorem fr_F_greatestId {C : Ct} {mi : Nat} {a0 : Nat} {h h' : Hp} {v : Int32} (hf : f_F_greatestId a0 h = some (v, h')) : Keep W_F_greatestId h h' := by
  unfold f_F_greatestId at hf
  obtain ⟨x11, el12, hf⟩ := bd_some hf
  have K13 := (Keep.refl W_F_greatestId _).trans (kl_F_greatestId_4 (C := C) (mi := mi) el12)
  obtain ⟨rfl, rfl⟩ := Prod.mk.inj (Option.some.inj hf)
  exact K13
theorem c_F_greatestId {l : Launch} {C : Ct} {mi : Nat} {a0 : Nat} {h h' : Hp} {v : Int32} (hf : f_F_greatestId a0 h = some (v, h')) : Mt l C mi m_F_greatestId 1 [vr (some a0)] h (some (vi v)) h' := mt_I (ty := .int) rfl rfl rfl (by decide) (Nat.le_of_ble_eq_true rfl) (zf_F_greatestId hf)
-- VersionMaps$BlockFile.freeCount()I
def m_F_freeCount : Mi := (⟨"VersionMaps$BlockFile", "freeCount", "()I"⟩, prog_2_method_3_code, 3, (Option.some Jvm.ClassFile.FieldType.int), .ireturn)
theorem cw_F_freeCount : cw_ok m_F_freeCount 0 := ⟨by decide +kernel, by decide +kernel, by decide +kernel, by decide +kernel⟩
theorem im_F_freeCount : Cond.instanceMethod m_F_freeCount.1 ∈ lw_w := by decide +kernel
theorem se_F_freeCount : Cond.selects "VersionMaps$BlockFile" m_F_freeCount.1 m_F_freeCount.1 ∈ lw_w := by decide +kernel
theorem d_F_freeCount_0 : decode prog_2_method_3_code 0 = .ok (.iconst 0, 1) := by decide +kernel
theorem d_F_freeCount_1 : decode prog_2_method_3_code 1 = .ok (.istore_n 1, 1) := by decide +kernel
theorem d_F_freeCount_2 : decode prog_2_method_3_code 2 = .ok (.iconst 0, 1) := by decide +kernel
theorem d_F_freeCount_3 : decode prog_2_method_3_code 3 = .ok (.istore_n 2, 1) := by decide +kernel
theorem d_F_freeCount_4 : decode prog_2_method_3_code 4 = .ok (.iload_n 2, 1) := by decide +kernel
theorem d_F_freeCount_5 : decode prog_2_method_3_code 5 = .ok (.bipush 32, 2) := by decide +kernel
theorem d_F_freeCount_7 : decode prog_2_method_3_code 7 = .ok (.if_icmp .ge 21, 3) := by decide +kernel
theorem d_F_freeCount_10 : decode prog_2_method_3_code 10 = .ok (.aload_n 0, 1) := by decide +kernel
theorem d_F_freeCount_11 : decode prog_2_method_3_code 11 = .ok (.getfield 20, 3) := by decide +kernel
theorem d_F_freeCount_14 : decode prog_2_method_3_code 14 = .ok (.iload_n 2, 1) := by decide +kernel
theorem d_F_freeCount_15 : decode prog_2_method_3_code 15 = .ok (.baload, 1) := by decide +kernel
theorem d_F_freeCount_16 : decode prog_2_method_3_code 16 = .ok (.ifCond .eq 6, 3) := by decide +kernel
theorem d_F_freeCount_19 : decode prog_2_method_3_code 19 = .ok (.iinc 1 1, 3) := by decide +kernel
theorem d_F_freeCount_22 : decode prog_2_method_3_code 22 = .ok (.iinc 2 1, 3) := by decide +kernel
theorem d_F_freeCount_25 : decode prog_2_method_3_code 25 = .ok (.goto (-21), 3) := by decide +kernel
theorem d_F_freeCount_28 : decode prog_2_method_3_code 28 = .ok (.iload_n 1, 1) := by decide +kernel
theorem d_F_freeCount_29 : decode prog_2_method_3_code 29 = .ok (.ireturn, 1) := by decide +kernel
def W_F_freeCount : Wl := ([], [])
def b_F_freeCount_4 (y0 : Nat) (y1 : Int32) (y2 : Int32) (h : Hp) : Option ((Int32 × Int32 × Hp) ⊕ (Int32 × Hp)) :=
  if (nI 32) ≤ y2 then (some (.inr (y1, h))) else (gd (isK h y0 1) (dr (hpR h y0 2) fun a3 => gd (isK h a3 70) (gd (inb y2 (hpL h a3)) (if (hpI h a3 y2.toNatClampNeg) = 0 then (some (.inl (y1, (y2 + (1 : Int32)), h))) else (some (.inl ((y1 + (1 : Int32)), (y2 + (1 : Int32)), h)))))))
set_option maxRecDepth 100000 in
set_option maxHeartbeats 4000000 in
theorem zb_F_freeCount_4 {l : Launch} {C : Ct} {mi : Nat} {y0 : Nat} {y1 : Int32} {y2 : Int32} {h h' : Hp} {v : Int32} {q : ((Int32 × Int32 × Hp) ⊕ (Int32 × Hp))} (hf : b_F_freeCount_4 y0 y1 y2 h = some q) (kc : ∀ s, q = .inl s → Z l C mi m_F_freeCount 0 4 [(0, vr (some y0)), (1, vi s.1), (2, vi s.2.1)] [] s.2.2 (some (vi v)) h') (ke : ∀ x, q = .inr x → Z l C mi m_F_freeCount 0 28 [(1, vi x.1)] [] x.2 (some (vi v)) h') : Z l C mi m_F_freeCount 0 4 [(0, vr (some y0)), (1, vi y1), (2, vi y2)] [] h (some (vi v)) h' := by
  unfold b_F_freeCount_4 at hf
  refine z_iload_n 2 d_F_freeCount_4 rfl rfl ?_
  refine z_bipush (v := (nI 32)) d_F_freeCount_5 (by decide) ?_
  refine z_icmp_ge (tgt := 28) d_F_freeCount_7 (by decide) (fun c1 => ?_) (fun c1 => ?_)
  · rw [if_pos c1] at hf
    refine z_ls [1] rfl ?_
    exact ke (y1, h) (Option.some.inj hf).symm
  · rw [if_neg c1] at hf
    refine z_aload_n 0 d_F_freeCount_10 rfl rfl ?_
    obtain ⟨g2, hf⟩ := gd_some hf
    refine z_getR d_F_freeCount_11 (fl_K (isK_eq g2) fl_F_20_1) (fi_K (isK_eq g2) rfl) rfl ?_
    refine z_iload_n 2 d_F_freeCount_14 rfl rfl ?_
    obtain ⟨a3, e4, hf⟩ := dr_some hf
    obtain ⟨g5, hf⟩ := gd_some hf
    obtain ⟨g6, hf⟩ := gd_some hf
    refine z_zald d_F_freeCount_15 e4 (by rw [isK_eq g5]; decide) (by rw [isK_eq g5]; rfl) (inb_vp g6) ?_
    refine z_if_eq (tgt := 22) d_F_freeCount_16 (by decide) (fun c7 => ?_) (fun c7 => ?_)
    · rw [if_pos c7] at hf
      refine z_iinc (ls2 := [(2, vi (y2 + (1 : Int32))), (0, vr (some y0)), (1, vi y1)]) 2 d_F_freeCount_22 rfl rfl (by decide) rfl ?_
      refine z_goto (tgt := 4) d_F_freeCount_25 (by decide) ?_
      refine z_ls [1, 2, 0] rfl ?_
      exact kc (y1, (y2 + (1 : Int32)), h) (Option.some.inj hf).symm
    · rw [if_neg c7] at hf
      refine z_iinc (ls2 := [(1, vi (y1 + (1 : Int32))), (0, vr (some y0)), (2, vi y2)]) 1 d_F_freeCount_19 rfl rfl (by decide) rfl ?_
      refine z_iinc (ls2 := [(2, vi (y2 + (1 : Int32))), (1, vi (y1 + (1 : Int32))), (0, vr (some y0))]) 2 d_F_freeCount_22 rfl rfl (by decide) rfl ?_
      refine z_goto (tgt := 4) d_F_freeCount_25 (by decide) ?_
      refine z_ls [2, 1, 0] rfl ?_
      exact kc ((y1 + (1 : Int32)), (y2 + (1 : Int32)), h) (Option.some.inj hf).symm
set_option maxRecDepth 100000 in
set_option maxHeartbeats 4000000 in
theorem kb_F_freeCount_4 {C : Ct} {mi : Nat} {y0 : Nat} {y1 : Int32} {y2 : Int32} {h : Hp} {q : ((Int32 × Int32 × Hp) ⊕ (Int32 × Hp))} (hf : b_F_freeCount_4 y0 y1 y2 h = some q) : Keep W_F_freeCount h (Sum.elim (fun s : Int32 × Int32 × Hp => s.2.2) (fun x : Int32 × Hp => x.2) q) := by
  unfold b_F_freeCount_4 at hf
  rcases Classical.em ((nI 32) ≤ y2) with c1 | c1
  · rw [if_pos c1] at hf
    cases (Option.some.inj hf)
    exact (Keep.refl W_F_freeCount _)
  · rw [if_neg c1] at hf
    obtain ⟨g2, hf⟩ := gd_some hf
    obtain ⟨a3, e4, hf⟩ := dr_some hf
    obtain ⟨g5, hf⟩ := gd_some hf
    obtain ⟨g6, hf⟩ := gd_some hf
    rcases Classical.em ((hpI h a3 y2.toNatClampNeg) = 0) with c7 | c7
    · rw [if_pos c7] at hf
      cases (Option.some.inj hf)
      exact (Keep.refl W_F_freeCount _)
    · rw [if_neg c7] at hf
      cases (Option.some.inj hf)
      exact (Keep.refl W_F_freeCount _)
def l_F_freeCount_4 (y0 : Nat) (s : Int32 × Int32 × Hp) : Option (Int32 × Hp) := lp (fun s => b_F_freeCount_4 y0 s.1 s.2.1 s.2.2) FU s
theorem zzl_F_freeCount_4 {l : Launch} {C : Ct} {mi : Nat} {y0 : Nat} {h' : Hp} {v : Int32} : ∀ (n : Nat) (s : Int32 × Int32 × Hp) (x : (Int32 × Hp)), lp (fun s : Int32 × Int32 × Hp => b_F_freeCount_4 y0 s.1 s.2.1 s.2.2) n s = some x → Z l C mi m_F_freeCount 0 28 [(1, vi x.1)] [] x.2 (some (vi v)) h' → Z l C mi m_F_freeCount 0 4 [(0, vr (some y0)), (1, vi s.1), (2, vi s.2.1)] [] s.2.2 (some (vi v)) h' := by
  intro n
  induction n with
  | zero => intro s x hl; cases hl
  | succ n ih =>
    intro s x hl ke
    rcases lp_some hl with ⟨s2, hb, hl2⟩ | hb
    · exact zb_F_freeCount_4 hb (fun s3 e3 => by cases e3; refine z_ls [0, 1, 2] rfl ?_; exact ih s2 x hl2 ke) (fun x e3 => by cases e3)
    · exact zb_F_freeCount_4 hb (fun s3 e3 => by cases e3) (fun x e3 => by cases e3; exact ke)
theorem zl_F_freeCount_4 {l : Launch} {C : Ct} {mi : Nat} {y0 : Nat} {h' : Hp} {v : Int32} {s : Int32 × Int32 × Hp} {x : (Int32 × Hp)} (hl : l_F_freeCount_4 y0 s = some x) (ke : Z l C mi m_F_freeCount 0 28 [(1, vi x.1)] [] x.2 (some (vi v)) h') : Z l C mi m_F_freeCount 0 4 [(0, vr (some y0)), (1, vi s.1), (2, vi s.2.1)] [] s.2.2 (some (vi v)) h' := zzl_F_freeCount_4 FU s x hl ke
theorem kl_F_freeCount_4 {C : Ct} {mi : Nat} {y0 : Nat} {s : Int32 × Int32 × Hp} {q : (Int32 × Hp)} (hl : l_F_freeCount_4 y0 s = some q) : Keep W_F_freeCount s.2.2 ((fun x : Int32 × Hp => x.2) q) := lpk (sh := (fun s : Int32 × Int32 × Hp => s.2.2)) (rh := (fun x : Int32 × Hp => x.2)) (fun s q hb => kb_F_freeCount_4 (C := C) (mi := mi) hb) FU s q hl
def f_F_freeCount (a0 : Nat) (h : Hp) : Option (Int32 × Hp) :=
  bd (l_F_freeCount_4 a0 ((0 : Int32), (0 : Int32), h)) fun x8 => some (x8.1, x8.2)
set_option maxRecDepth 100000 in
set_option maxHeartbeats 4000000 in
theorem zf_F_freeCount {l : Launch} {C : Ct} {mi : Nat} {a0 : Nat} {h h' : Hp} {v : Int32} (hf : f_F_freeCount a0 h = some (v, h')) : Z l C mi m_F_freeCount 0 0 [(0, vr (some a0))] [] h (some (vi v)) h' := by
  unfold f_F_freeCount at hf
  refine z_iconst (v := (0 : Int32)) d_F_freeCount_0 (by decide) ?_
  refine z_istore_n (ls2 := [(1, vi (0 : Int32)), (0, vr (some a0))]) d_F_freeCount_1 rfl (by decide) rfl ?_
  refine z_iconst (v := (0 : Int32)) d_F_freeCount_2 (by decide) ?_
  refine z_istore_n (ls2 := [(2, vi (0 : Int32)), (1, vi (0 : Int32)), (0, vr (some a0))]) d_F_freeCount_3 rfl (by decide) rfl ?_
  obtain ⟨x8, el9, hf⟩ := bd_some hf
  refine z_ls [2, 1, 0] rfl ?_
  refine zl_F_freeCount_4 el9 ?_
  refine z_iload_n 0 d_F_freeCount_28 rfl rfl ?_
  obtain ⟨rfl, rfl⟩ := Prod.mk.inj (Option.some.inj hf)
  exact z_ret d_F_freeCount_29 rfl
set_option maxRecDepth 100000 in
set_option maxHeartbeats 4000000 in
theorem fr_F_freeCount {C : Ct} {mi : Nat} {a0 : Nat} {h h' : Hp} {v : Int32} (hf : f_F_freeCount a0 h = some (v, h')) : Keep W_F_freeCount h h' := by
  unfold f_F_freeCount at hf
  obtain ⟨x8, el9, hf⟩ := bd_some hf
  have K10 := (Keep.refl W_F_freeCount _).trans (kl_F_freeCount_4 (C := C) (mi := mi) el9)
  obtain ⟨rfl, rfl⟩ := Prod.mk.inj (Option.some.inj hf)
  exact K10
theorem c_F_freeCount {l : Launch} {C : Ct} {mi : Nat} {a0 : Nat} {h h' : Hp} {v : Int32} (hf : f_F_freeCount a0 h = some (v, h')) : Mt l C mi m_F_freeCount 0 [vr (some a0)] h (some (vi v)) h' := mt_I (ty := .int) rfl rfl rfl (by decide) (Nat.le_of_ble_eq_true rfl) (zf_F_freeCount hf)

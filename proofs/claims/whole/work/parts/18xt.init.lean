/-! the start: fields that get new arrays, one after the other -/
def GI (y κy b : Nat) (fld kn ln : Nat → Nat) (iy : Nat → Int32) (n : Nat) (L : List Nat) (h0 h : Hp) : Prop := (hpT h y = κy ∧ hpN h = b + n ∧ y < b ∧ hpI h y = iy ∧ Only L h0 h) ∧ ∀ p, p < n → hpR h y (fld p) = some (b + p) ∧ hpT h (b + p) = kn p ∧ hpL h (b + p) = ln p ∧ (∀ k, hpI h (b + p) k = 0) ∧ ∀ k, hpR h (b + p) k = none
theorem gi_0 (h : Hp) (κ w : Nat) (fld kn ln : Nat → Nat) : GI (hpN h) κ (hpN h + 1) fld kn ln (fun _ => 0) 0 [] h (nw h κ 0 w) := ⟨⟨T_nwn rfl, rfl, Nat.lt_succ_self _, by funext k; exact I_nwn rfl, (Only.refl [] h).nw⟩, fun p hp => absurd hp (Nat.not_lt_zero p)⟩
theorem gi_st {y κy b : Nat} {fld kn ln : Nat → Nat} {iy : Nat → Int32} {n : Nat} {L : List Nat} {h0 h : Hp} (M : GI y κy b fld kn ln iy n L h0 h) (κ w j : Nat) (q1 : kn n = κ) (q2 : ln n = w) (q3 : fld n = j) (inj : ∀ p, p < n → fld p ≠ j) (hy : hpN h0 ≤ y ∨ y ∈ L) : ∃ h', GI y κy b fld kn ln iy (n + 1) L h0 h' ∧ hpS h' = hpS h + w ∧ ∀ f : Hp → Option Hp, (nm (nw h κ w w) fun h1 => gd (isK h1 y κy) (nm (wR h1 y j (some (hpN h))) f)) = f h' := by
  obtain ⟨⟨a1, a2, a3, a4, a5⟩, a6⟩ := M
  have yl : y < hpN h := by omega
  refine ⟨wR (nw h κ w w) y j (some (hpN h)), ⟨⟨?_, ?_, a3, ?_, ?_⟩, fun p hp => ?_⟩, rfl, fun f => ?_⟩
  · rw [T_wR, T_nwo yl]; exact a1
  · show hpN h + 1 = _
    omega
  · funext k
    rw [I_wR, I_nwo yl, a4]
  · exact a5.nw.wR hy
  · by_cases c : p = n
    · subst c
      have e : b + p = hpN h := a2.symm
      rw [q3, R_same, e, T_wR, T_nwn rfl, L_wR, L_nwn rfl, q1, q2]
      exact ⟨rfl, rfl, rfl, fun k => by rw [I_wR, I_nwn rfl], fun k => by rw [R_wRn (by omega), R_nwn rfl]⟩
    · obtain ⟨c1, c2, c3, c4, c5⟩ := a6 p (by omega)
      have q : b + p < hpN h := by omega
      exact ⟨by rw [R_wRk (inj p (by omega)), R_nwo yl]; exact c1, by rw [T_wR, T_nwo q]; exact c2, by rw [L_wR, L_nwo q]; exact c3, fun k => by rw [I_wR, I_nwo q]; exact c4 k, fun k => by rw [R_wRn (by omega), R_nwo q]; exact c5 k⟩
  · rw [nm_v, gd_t (isK_of (by rw [T_nwo yl]; exact a1)), nm_v]
theorem gi_w {y κy b : Nat} {fld kn ln : Nat → Nat} {iy : Nat → Int32} {n : Nat} {L : List Nat} {h0 h : Hp} (M : GI y κy b fld kn ln iy n L h0 h) (k : Nat) (v : Int32) (hy : hpN h0 ≤ y ∨ y ∈ L) : GI y κy b fld kn ln (va_up iy k v) n L h0 (wI h y k v) := by
  obtain ⟨⟨a1, a2, a3, a4, a5⟩, a6⟩ := M
  refine ⟨⟨a1, a2, a3, ?_, a5.wI hy⟩, fun p hp => ?_⟩
  · funext j
    unfold va_up
    by_cases c : j = k
    · rw [if_pos c, c, I_same]
    · rw [if_neg c, I_wIk c, a4]
  · obtain ⟨c1, c2, c3, c4, c5⟩ := a6 p hp
    exact ⟨c1, c2, c3, fun k => by rw [I_wIn (by omega)]; exact c4 k, c5⟩
theorem p_init (h : Hp) : ∃ g, f_P_init (hpN h) (nw h 5 0 4) = some g ∧ Only [] h g ∧ hpN g = hpN h + 3 ∧ hpS g = hpS h + 136 ∧ PN g (hpN h) (hpN h + 1) (hpN h + 2) (fun _ => none) ∧ PT g (hpN h) (fun _ => false) (fun _ => false) := by
  have M0 := gi_0 h 5 4 (fun p => p) (fun p => 66 + p) (fun p => if p = 0 then 128 else 4)
  obtain ⟨h1, M1, s1, e1⟩ := gi_st M0 66 128 0 rfl rfl rfl (fun p hp => by omega) (Or.inl (Nat.le_refl _))
  obtain ⟨h2, M2, s2, e2⟩ := gi_st M1 67 4 1 rfl rfl rfl (fun p hp => by omega) (Or.inl (Nat.le_refl _))
  have M3 := gi_w M2 2 0 (Or.inl (Nat.le_refl _))
  have M4 := gi_w M3 3 0 (Or.inl (Nat.le_refl _))
  have s0 : hpS (nw h 5 0 4) = hpS h + 4 := rfl
  have sg : hpS (wI (wI h2 (hpN h) 2 0) (hpN h) 3 0) = hpS h2 := rfl
  have e : f_P_init (hpN h) (nw h 5 0 4) = some (wI (wI h2 (hpN h) 2 0) (hpN h) 3 0) := by
    unfold f_P_init
    exact (e1 _).trans ((e2 _).trans rfl)
  obtain ⟨g, hg⟩ : ∃ g, g = wI (wI h2 (hpN h) 2 0) (hpN h) 3 0 := ⟨_, rfl⟩
  rw [← hg] at e M4 sg
  obtain ⟨⟨a1, a2, a3, a4, a5⟩, a6⟩ := M4
  obtain ⟨b1, b2, b3, b4, -⟩ := a6 0 (by decide)
  obtain ⟨c1, c2, c3, c4, -⟩ := a6 1 (by decide)
  refine ⟨g, e, a5, by omega, by omega, ⟨⟨a1, by omega, b1, b2, b3, by omega, c1, c2, c3, by omega⟩, fun m k hm hk => ⟨?_, fun v hv => (by cases hv)⟩⟩, fun i hi => ?_⟩
  · have : hpI g (hpN h + 2) m = 0 := c4 m
    rw [this, b_0]; rfl
  · have i2 : hpI g (hpN h) 2 = 0 := by rw [a4]; rfl
    have i3 : hpI g (hpN h) 3 = 0 := by rw [a4]; rfl
    rw [i2, i3, b_0, Bool.and_false, Bool.and_false]
    exact ⟨rfl, rfl⟩
theorem f_fill {h : Hp} {F c : Nat} (t : hpT h F = 1) (r : hpR h F 2 = some c) (tc : hpT h c = 70) (l : hpL h c = 32) : ∃ g, l_F_init_53 F ((0 : Int32), h) = some g ∧ (Only [c] h g ∧ hpN g = hpN h ∧ hpS g = hpS h ∧ hpR g = hpR h ∧ ∀ b, b < 32 → hpI g c b = 1) := by
  refine lp_up (b := fun s => b_F_init_53 F s.1 s.2) (fun i z => z.1 = nI i ∧ Only [c] h z.2 ∧ hpT z.2 = hpT h ∧ hpL z.2 = hpL h ∧ hpN z.2 = hpN h ∧ hpS z.2 = hpS h ∧ hpR z.2 = hpR h ∧ ∀ b, b < i → hpI z.2 c b = 1) _ 32 (by decide) ⟨rfl, Only.refl _ _, rfl, rfl, rfl, rfl, rfl, fun b hb => absurd hb (Nat.not_lt_zero b)⟩ (fun i z hi hz => Or.inl ?_) (fun z hz => ⟨z.2, ?_, hz.2.1, hz.2.2.2.2.1, hz.2.2.2.2.2.1, hz.2.2.2.2.2.2.1, hz.2.2.2.2.2.2.2⟩)
  · obtain ⟨a, q⟩ := z
    obtain ⟨b1, b2, b3, b4, b5, b6, b7, b8⟩ := hz
    dsimp only at b1 b2 b3 b4 b5 b6 b7 b8
    subst b1
    have t' : hpT q F = 1 := by rw [b3]; exact t
    have r' : hpR q F 2 = some c := by rw [b7]; exact r
    have tc' : hpT q c = 70 := by rw [b3]; exact tc
    have l' : hpL q c = 32 := by rw [b4]; exact l
    refine ⟨(nI (i + 1), wI q c i 1), ?_, rfl, b2.wI (Or.inr List.mem_cons_self), b3, b4, b5, b6, b7, fun b hb => ?_⟩
    · show b_F_init_53 F (nI i) q = _
      unfold b_F_init_53
      simp (disch := omega) only [gd_T, dr_S, nm_v, cl_S, cv_S, bd_S, lk_L, lk_R, zbw_b, isK_e, isPg_3, isPg_4, isPg_6, asV_n, beq_self_eq_true, inb_N, inb_0, le_T, le_F, lt_T, lt_F, eq_F, le_0T, lt_0F, le_0F, eq_0F, nI_1, nI_add, pk_mul, nI_clamp, cl_0, if_true, if_false, of_nI, T_wI, L_wI, R_wI, N_wI, S_wI, T_wR, L_wR, I_wR, N_wR, S_wR, I_same, R_same, I_wIn, I_wIk, R_wRn, R_wRk, T_nwo, T_nwn, L_nwo, L_nwn, I_nwo, I_nwn, R_nwo, R_nwn, N_nw, S_nw, nar_1, nar_0, nar_01, b01_t0, b01_f0, b01_t1, b01_f1, ne_sn, eq_sn, sn_inj, t', r', tc', l']
    · dsimp only
      by_cases e : b = i
      · rw [e, I_same]
      · rw [I_wIk e]; exact b8 b (by omega)
  · obtain ⟨a, q⟩ := z
    obtain ⟨b1, -⟩ := hz
    dsimp only at b1
    subst b1
    show b_F_init_53 F (nI 32) q = _
    unfold b_F_init_53
    rw [if_pos (nI_le (Nat.le_refl _) (by decide))]
theorem f_init (h : Hp) : ∃ g, f_F_init (hpN h) (nw h 1 0 6) = some g ∧ Only [] h g ∧ hpN g = hpN h + 6 ∧ hpS g = hpS h + 166 ∧ FR g (hpN h) (hpN h + 1) (hpN h + 2) (hpN h + 3) (hpN h + 4) (hpN h + 5) (fun _ => none) (fun _ => none) (fun _ => true) (fun _ => false) [] := by
  have M0 := gi_0 h 1 6 (fun p => p) (fun p => 68 + p) (fun _ => 32)
  obtain ⟨h1, M1, s1, e1⟩ := gi_st M0 68 32 0 rfl rfl rfl (fun p hp => by omega) (Or.inl (Nat.le_refl _))
  obtain ⟨h2, M2, s2, e2⟩ := gi_st M1 69 32 1 rfl rfl rfl (fun p hp => by omega) (Or.inl (Nat.le_refl _))
  obtain ⟨h3, M3, s3, e3⟩ := gi_st M2 70 32 2 rfl rfl rfl (fun p hp => by omega) (Or.inl (Nat.le_refl _))
  obtain ⟨h4, M4, s4, e4⟩ := gi_st M3 71 32 3 rfl rfl rfl (fun p hp => by omega) (Or.inl (Nat.le_refl _))
  obtain ⟨h5, M5, s5, e5⟩ := gi_st M4 72 32 4 rfl rfl rfl (fun p hp => by omega) (Or.inl (Nat.le_refl _))
  have M6 := gi_w M5 5 0 (Or.inl (Nat.le_refl _))
  have s0 : hpS (nw h 1 0 6) = hpS h + 6 := rfl
  have s6 : hpS (wI h5 (hpN h) 5 0) = hpS h5 := rfl
  have ef : f_F_init (hpN h) (nw h 1 0 6) = bd (l_F_init_53 (hpN h) ((0 : Int32), wI h5 (hpN h) 5 0)) fun x48 => some x48 := by
    unfold f_F_init
    exact (e1 _).trans ((e2 _).trans ((e3 _).trans ((e4 _).trans ((e5 _).trans rfl))))
  obtain ⟨k, hk⟩ : ∃ k, k = wI h5 (hpN h) 5 0 := ⟨_, rfl⟩
  rw [← hk] at ef M6 s6
  obtain ⟨⟨a1, a2, a3, a4, a5⟩, a6⟩ := M6
  obtain ⟨p1, p2, p3, p4, p5⟩ := a6 0 (by decide)
  obtain ⟨q1, q2, q3, q4, q5⟩ := a6 1 (by decide)
  obtain ⟨r1, r2, r3, r4, r5⟩ := a6 2 (by decide)
  obtain ⟨t1, t2, t3, t4, t5⟩ := a6 3 (by decide)
  obtain ⟨u1, u2, u3, u4, u5⟩ := a6 4 (by decide)
  obtain ⟨g, eg, O, n, s, rr, ff⟩ := f_fill a1 r1 r2 r3
  have o := fun (a : Nat) (ha : a < hpN k) (hn : a ≠ hpN h + 1 + 2) => O.at1 ha hn
  have ot := O.2.2.1
  have i5 : hpI k (hpN h) 5 = 0 := by rw [a4]; rfl
  refine ⟨g, by rw [ef, bd_s eg], a5.tr O (fun x hx hl => ?_), by omega, by omega, ⟨by rw [(ot _ (by omega)).1]; exact a1, by omega, ⟨by rw [rr]; exact p1, (ot _ (by omega)).1.trans p2, (ot _ (by omega)).2.trans p3, by omega⟩, ⟨by rw [rr]; exact q1, (ot _ (by omega)).1.trans q2, (ot _ (by omega)).2.trans q3, by omega⟩, ⟨by rw [rr]; exact r1, (ot _ (by omega)).1.trans r2, (ot _ (by omega)).2.trans r3, by omega⟩, ⟨by rw [rr]; exact t1, (ot _ (by omega)).1.trans t2, (ot _ (by omega)).2.trans t3, by omega⟩, ⟨by rw [rr]; exact u1, (ot _ (by omega)).1.trans u2, (ot _ (by omega)).2.trans u3, by omega⟩⟩, fun b _ => ?_, fun b _ => ?_, fun b hb => ff b hb, fun b _ => ?_, ?_, by decide, fun i b hi => (by cases hi)⟩
  · rw [List.mem_singleton.mp hx] at hl
    omega
  · rw [rr]; exact p5 b
  · rw [rr]; exact q5 b
  · rw [(o (hpN h + 4) (by omega) (by omega)).1]; exact t4 b
  · rw [(o (hpN h) (by omega) (by omega)).1]; exact i5
theorem a_init (E : Nat × Nat) (h : Hp) (eT : hpT h E.1 = 64) (eL : hpL h E.1 = 0) (eN : E.1 < hpN h) : ∃ g, f_A_init E (hpN h) (nw h 9 0 3) = some g ∧ Only [] h g ∧ hpN g = hpN h + 1 ∧ hpS g = hpS h + 3 ∧ AL E.1 g (hpN h) E.1 [] := by
  refine ⟨wR (wI (nw h 9 0 3) (hpN h) 2 0) (hpN h) 0 (some E.1), ?_, (((Only.refl [] h).nw).wI (Or.inl (Nat.le_refl _))).wR (Or.inl (Nat.le_refl _)), rfl, rfl, ?_⟩
  · have t : hpT (nw h 9 0 3) (hpN h) = 9 := T_nwn rfl
    unfold f_A_init f_AL_init f_AC_init
    simp (disch := omega) only [gd_T, dr_S, nm_v, cl_S, cv_S, bd_S, lk_L, lk_R, zbw_b, isK_e, isPg_3, isPg_4, isPg_6, asV_n, beq_self_eq_true, inb_N, inb_0, le_T, le_F, lt_T, lt_F, eq_F, le_0T, lt_0F, le_0F, eq_0F, nI_1, nI_add, pk_mul, nI_clamp, cl_0, if_true, if_false, of_nI, T_wI, L_wI, R_wI, N_wI, S_wI, T_wR, L_wR, I_wR, N_wR, S_wR, I_same, R_same, I_wIn, I_wIk, R_wRn, R_wRk, T_nwo, T_nwn, L_nwo, L_nwn, I_nwo, I_nwn, R_nwo, R_nwn, N_nw, S_nw, nar_1, nar_0, nar_01, b01_t0, b01_f0, b01_t1, b01_f1, ne_sn, eq_sn, sn_inj, t]
  · refine ⟨T_nwn (h := h) (n := 0) (w := 3) rfl, Nat.lt_succ_self _, ?_, R_same, fun a ha => (by cases ha), by decide, Or.inl ⟨rfl, ?_, ?_, rfl⟩⟩
    · rw [I_wR, I_wIk (by decide), I_nwn rfl]; rfl
    · rw [T_wR, T_wI, T_nwo eN]; exact eT
    · rw [L_wR, L_wI, L_nwo eN]; exact eL
def wX0 : Wl := ([(0, 0), (0, 1), (0, 2), (0, 3), (0, 4), (0, 5), (0, 6), (0, 7), (9, 0), (9, 1), (9, 2)], [73, 74])
theorem xw {g : Hp} {x : Nat} (t : hpT g x = 0) (j : Nat) (o : Option Nat) (q : inW wX0 0 j) : ∃ k, k = wR g x j o ∧ hpN k = hpN g ∧ hpS k = hpS g ∧ hpT k = hpT g ∧ hpL k = hpL g ∧ hpI k = hpI g ∧ hpR k x j = o ∧ (∀ i, i ≠ j → hpR k x i = hpR g x i) ∧ Keep wX0 g k ∧ Sv g k := ⟨_, rfl, rfl, rfl, rfl, rfl, rfl, R_same, fun i hi => R_wRk hi, kw_R rfl t q, Sv.mR (by rw [t]; decide)⟩
def s00 : Ab := (fun _ => none, fun _ => false, fun _ => false, fun _ => (0, 0), fun _ => (0, 0), fun _ => true, [], [], [(0, 0, 0)], 0, 1, 1, fun _ => (0, fun _ => 0, fun _ => none, 0, 0), fun _ => 0, fun _ => 0)
theorem vk_1 {np : Nat → Nat} {k : Nat} (h : vk np 1 k) : False := by
  have a := h.1
  have b := h.2.1
  omega
theorem x_init {E : Nat × Nat} {h : Hp} {x : Nat} (tx : hpT h x = 0) (xl : x < hpN h) (eT : hpT h E.1 = 64) (eL : hpL h E.1 = 0) (eN : E.1 < hpN h) :
    ∃ h' B va, f_X_init E x h = some h' ∧ RX E.1 h' x B va (fun _ => 0) (fun _ => 0) (fun _ => 0) 0 s00 ∧ hpN h ≤ hpN h' ∧ hpN h' ≤ hpN h + 20 ∧ hpS h' ≤ hpS h + 2000 := by
  obtain ⟨g1, e1, O1, n1, s1, N1, T1⟩ := p_init h
  have t1 : hpT g1 x = 0 := (O1.2.2.1 x xl).1.trans tx
  obtain ⟨k1, hk1, kn1, ks1, kt1, kl1, ki1, kr1, ko1, K1, -⟩ := xw t1 0 (some (hpN h)) (Or.inl (by decide))
  obtain ⟨g2, e2, O2, n2, s2, F2⟩ := f_init k1
  have x2 := O2.at (x := x) (by omega) List.not_mem_nil
  have t2 : hpT g2 x = 0 := by rw [x2.1, kt1]; exact t1
  obtain ⟨k2, hk2, kn2, ks2, kt2, kl2, ki2, kr2, ko2, K2, -⟩ := xw t2 1 (some (hpN k1)) (Or.inl (by decide))
  have E1 := O1.at (x := E.1) eN List.not_mem_nil
  have E2 := O2.at (x := E.1) (by omega) List.not_mem_nil
  have eT2 : hpT k2 E.1 = 64 := by rw [kt2, E2.1, kt1, E1.1]; exact eT
  have eL2 : hpL k2 E.1 = 0 := by rw [kl2, E2.2.1, kl1, E1.2.1]; exact eL
  obtain ⟨g3, e3, O3, n3, s3, L3⟩ := a_init E k2 eT2 eL2 (by omega)
  have x3 := O3.at (x := x) (by omega) List.not_mem_nil
  have t3 : hpT g3 x = 0 := by rw [x3.1, kt2]; exact t2
  obtain ⟨k3, hk3, kn3, ks3, kt3, kl3, ki3, kr3, ko3, K3, S3⟩ := xw t3 2 (some (hpN k2)) (Or.inl (by decide))
  have E3 := O3.at (x := E.1) (by omega) List.not_mem_nil
  obtain ⟨g4, e4, O4, n4, s4, L4⟩ := a_init E k3 (by rw [kt3, E3.1]; exact eT2) (by rw [kl3, E3.2.1]; exact eL2) (by omega)
  have x4 := O4.at (x := x) (by omega) List.not_mem_nil
  have t4 : hpT g4 x = 0 := by rw [x4.1, kt3]; exact t3
  obtain ⟨k4, hk4, kn4, ks4, kt4, kl4, ki4, kr4, ko4, K4, S4⟩ := xw t4 3 (some (hpN k3)) (Or.inl (by decide))
  obtain ⟨g5, e5, O5, n5, s5, v1, v2, v3, v4⟩ := v_init k4 0 none
  have x5 := O5.at (x := x) (by omega) List.not_mem_nil
  have t5 : hpT g5 x = 0 := by rw [x5.1, kt4]; exact t4
  obtain ⟨k5, hk5, kn5, ks5, kt5, kl5, ki5, kr5, ko5, K5, S5⟩ := xw t5 4 (some (hpN k4)) (Or.inl (by decide))
  have t5' : hpT k5 x = 0 := by rw [kt5]; exact t5
  obtain ⟨g6, hg6⟩ : ∃ g, g = wI (wI (wI k5 x 5 1) x 6 1) x 7 0 := ⟨_, rfl⟩
  have n6 : hpN g6 = hpN k5 := by rw [hg6]; rfl
  have s6 : hpS g6 = hpS k5 := by rw [hg6]; rfl
  have tt6 : hpT g6 = hpT k5 := by rw [hg6]; rfl
  have r6 : hpR g6 = hpR k5 := by rw [hg6]; rfl
  have K6 : Keep wX0 k5 g6 := by
    rw [hg6]
    exact ((kw_I rfl t5' (Or.inl (by decide))).trans (kw_I (h := wI k5 x 5 1) rfl t5' (Or.inl (by decide)))).trans (kw_I (h := wI (wI k5 x 5 1) x 6 1) rfl t5' (Or.inl (by decide)))
  have S6 : Sv k5 g6 := by
    have q : hpT k5 x ≠ 7 ∧ hpT k5 x ≠ 9 ∧ hpT k5 x < 64 := by rw [t5']; decide
    rw [hg6]
    exact ((Sv.m q).trans (Sv.m (h := wI k5 x 5 1) q)).trans (Sv.m (h := wI (wI k5 x 5 1) x 6 1) q)
  have j5 : hpI g6 x 5 = 1 := by rw [hg6, I_wIk (by decide), I_wIk (by decide), I_same]
  have j6 : hpI g6 x 6 = 1 := by rw [hg6, I_wIk (by decide), I_same]
  have j7 : hpI g6 x 7 = 0 := by rw [hg6, I_same]
  have L46 : AL E.1 g6 (hpN k3) E.1 [] := L4.ext (by omega) (((S4.trans O5.sv).trans S5).trans S6)
  have L36 : AL E.1 g6 (hpN k2) E.1 [] := L3.ext (by omega) (((((S3.trans O4.sv).trans S4).trans O5.sv).trans S5).trans S6)
  have sv6 : Sv g5 g6 := S5.trans S6
  have V6 : VO g6 (hpN k4) (0, 0, 0) (ck fun _ => 0) := VO.ext (h := g5) ⟨v1, by omega, v2, by rw [v3]; rfl, v4⟩ sv6
  obtain ⟨h', e', e7, L7, O7, ee, n7, s7⟩ := al_add L46 (by decide) (a := hpN k4) ⟨by rw [V6.1]; decide, V6.2.1⟩
  have K7 : Keep wX0 g6 h' := (fr_A_add1 (C := cTe E.1) (mi := E.2) e7).mono (by decide) (by decide)
  have KA : Keep wX0 g1 g6 := ((((((((K1.trans O2.kp).trans K2).trans O3.kp).trans K3).trans O4.kp).trans K4).trans O5.kp).trans K5).trans K6
  have KB : Keep wX0 g2 h' := (((((((K2.trans O3.kp).trans K3).trans O4.kp).trans K4).trans O5.kp).trans K5).trans K6).trans K7
  have KC : Keep wX0 g1 h' := KA.trans K7
  have xx6 : x < hpN g6 := by omega
  have xD : x ≠ hpN k3 := by omega
  have xE : x ≠ E.1 := fun z => by rw [z, eT] at tx; cases tx
  have x7 := O7.at2 xx6 xD xE
  have R4 : hpR h' x 4 = some (hpN k4) := by rw [x7.2.2.2, r6]; exact kr5
  have R3 : hpR h' x 3 = some (hpN k3) := by rw [x7.2.2.2, r6, ko5 3 (by decide), x5.2.2.2]; exact kr4
  have R2 : hpR h' x 2 = some (hpN k2) := by rw [x7.2.2.2, r6, ko5 2 (by decide), x5.2.2.2, ko4 2 (by decide), x4.2.2.2]; exact kr3
  have R1 : hpR h' x 1 = some (hpN k1) := by rw [x7.2.2.2, r6, ko5 1 (by decide), x5.2.2.2, ko4 1 (by decide), x4.2.2.2, ko3 1 (by decide), x3.2.2.2]; exact kr2
  have R0 : hpR h' x 0 = some (hpN h) := by rw [x7.2.2.2, r6, ko5 0 (by decide), x5.2.2.2, ko4 0 (by decide), x4.2.2.2, ko3 0 (by decide), x3.2.2.2, ko2 0 (by decide), x2.2.2.2]; exact kr1
  have t6 : hpT g6 x = 0 := by rw [tt6]; exact t5'
  have T7 : hpT h' x = 0 := x7.1.trans t6
  have r63 : hpR g6 x 3 = some (hpN k3) := by rw [r6, ko5 3 (by decide), x5.2.2.2]; exact kr4
  have r64 : hpR g6 x 4 = some (hpN k4) := by rw [r6]; exact kr5
  have e5' : f_V_init (hpN k4) (0 : Int32) none (nw k4 7 0 3) = some g5 := e5
  have ef : f_X_init E x h = some h' := by
    unfold f_X_init
    rw [nm_v, cv_s e1, gd_t (isK_of t1), nm_v, ← hk1, nm_v, cv_s e2, gd_t (isK_of t2), nm_v, ← hk2, nm_v, cv_s e3, gd_t (isK_of t3), nm_v, ← hk3, nm_v, cv_s e4, gd_t (isK_of t4), nm_v, ← hk4, nm_v, cv_s e5', gd_t (isK_of t5), nm_v, ← hk5, nm_v, nm_v, nm_v, ← hg6, dr_s r63, gd_t (isK_of L46.1), r64, cl_s e7]
  have C7 : AL E.1 h' (hpN k2) E.1 [] := L36.keep O7.1 O7.2.2.1 (by rw [(O7.at2 (x := hpN k2) (by omega) (by omega) (by omega)).2.2.1]) (by rw [(O7.at2 (x := hpN k2) (by omega) (by omega) (by omega)).2.2.2]) (fun _ i hi => absurd hi (Nat.not_lt_zero i)) (fun q => ⟨((O7.2.2.1 E.1 (by omega)).1).trans q, (O7.2.2.1 E.1 (by omega)).2⟩)
  have V7 : VO h' (hpN k4) (0, 0, 0) (ck fun _ => 0) := V6.keep O7 L46.1 (Or.inl (by
    have := L46.2.2.2.2.2.2
    rcases this with q | q
    · exact q.2.1
    · rw [tt6, kt5, (O5.2.2.1 E.1 (by omega)).1, kt4, (O4.2.2.1 E.1 (by omega)).1, kt3, E3.1]; exact eT2))
  refine ⟨h', fun i => ([hpN h, hpN k1, hpN k2, hpN k3, E.1, e', hpN h + 1, hpN h + 2, hpN k1 + 1, hpN k1 + 2, hpN k1 + 3, hpN k1 + 4, hpN k1 + 5] : List Nat).getD i 0, [hpN k4], ef, ⟨by have := O7.1; omega, ⟨T7, by have := O7.1; omega, R0, R1, R2, R3⟩, ⟨N1.k KC (by decide), T1.k KC N1.1.2.1 N1.1.1 (by decide)⟩, F2.k KB (by decide), C7, ⟨⟨L7, rfl, fun i a t ha ht => ?_⟩, fun i a t ha ht => ?_⟩, ⟨by rw [x7.2.2.1, j5]; rfl, by rw [x7.2.2.1, j6]; rfl⟩, fun id h1 h2 => ?_, ⟨by decide, by rw [x7.2.2.1, j7]; rfl, fun _ => 0, fun k v => (vk_1 v).elim, fun k v => (vk_1 v).elim⟩, ?_, ?_⟩, ?_, ?_, ?_⟩
  · cases i with
    | zero => cases ha; cases ht; exact V7
    | succ i => cases ha
  · cases i with
    | zero => cases ha; cases ht; rw [R4]; exact ⟨fun _ => rfl, fun _ => rfl⟩
    | succ i => cases ha
  · have h2' : id < 1 := h2
    omega
  · show hpN k2 ≠ hpN k3
    omega
  · show E.1 ≠ e'
    rcases ee with q | q
    · have := L7.2.2.2.2.2.2
      rcases this with w | w
      · cases w.2.2.2
      · intro z
        rw [q] at w
        have : hpT h' E.1 = 64 := ((O7.2.2.1 E.1 (by omega)).1).trans (by rw [tt6, kt5, (O5.2.2.1 E.1 (by omega)).1, kt4, (O4.2.2.1 E.1 (by omega)).1, kt3, E3.1]; exact eT2)
        rw [this] at w
        rcases w.1 with u | u <;> cases u
    · omega
  · have := O7.1; omega
  · omega
  · omega
/-! the reference's start -/
def mfl (p : Nat) : Nat := ([0, 1, 2, 3, 4, 5, 6, 7, 8, 9, 10, 11, 12, 13, 14, 15, 16, 17, 18, 20, 21, 22, 23, 24, 27, 28, 29, 33] : List Nat).getD p 0
def mps (j : Nat) : Nat := if j < 19 then j else if j < 25 then j - 1 else if j < 30 then j - 3 else 27
theorem mps_ok {j : Nat} (h : 66 ≤ mk j) : mps j < 28 ∧ mfl (mps j) = j := by
  have : ∀ i, i < 34 → 66 ≤ mk i → mps i < 28 ∧ mfl (mps i) = i := by decide
  exact this j (mk_lt h) h
theorem m_fill {h : Hp} {y c : Nat} (t : hpT h y = 8) (r : hpR h y 18 = some c) (tc : hpT h c = 93) (l : hpL h c = 32) : ∃ g, l_M_init_254 y ((0 : Int32), h) = some g ∧ (Only [c] h g ∧ hpN g = hpN h ∧ hpS g = hpS h ∧ hpR g = hpR h ∧ ∀ b, b < 32 → hpI g c b = 1) := by
  refine lp_up (b := fun s => b_M_init_254 y s.1 s.2) (fun i z => z.1 = nI i ∧ Only [c] h z.2 ∧ hpT z.2 = hpT h ∧ hpL z.2 = hpL h ∧ hpN z.2 = hpN h ∧ hpS z.2 = hpS h ∧ hpR z.2 = hpR h ∧ ∀ b, b < i → hpI z.2 c b = 1) _ 32 (by decide) ⟨rfl, Only.refl _ _, rfl, rfl, rfl, rfl, rfl, fun b hb => absurd hb (Nat.not_lt_zero b)⟩ (fun i z hi hz => Or.inl ?_) (fun z hz => ⟨z.2, ?_, hz.2.1, hz.2.2.2.2.1, hz.2.2.2.2.2.1, hz.2.2.2.2.2.2.1, hz.2.2.2.2.2.2.2⟩)
  · obtain ⟨a, q⟩ := z
    obtain ⟨b1, b2, b3, b4, b5, b6, b7, b8⟩ := hz
    dsimp only at b1 b2 b3 b4 b5 b6 b7 b8
    subst b1
    have t' : hpT q y = 8 := by rw [b3]; exact t
    have r' : hpR q y 18 = some c := by rw [b7]; exact r
    have tc' : hpT q c = 93 := by rw [b3]; exact tc
    have l' : hpL q c = 32 := by rw [b4]; exact l
    refine ⟨(nI (i + 1), wI q c i 1), ?_, rfl, b2.wI (Or.inr List.mem_cons_self), b3, b4, b5, b6, b7, fun b hb => ?_⟩
    · show b_M_init_254 y (nI i) q = _
      unfold b_M_init_254
      simp (disch := omega) only [gd_T, dr_S, nm_v, cl_S, cv_S, bd_S, lk_L, lk_R, zbw_b, isK_e, isPg_3, isPg_4, isPg_6, asV_n, beq_self_eq_true, inb_N, inb_0, le_T, le_F, lt_T, lt_F, eq_F, le_0T, lt_0F, le_0F, eq_0F, nI_1, nI_add, pk_mul, nI_clamp, cl_0, if_true, if_false, of_nI, T_wI, L_wI, R_wI, N_wI, S_wI, T_wR, L_wR, I_wR, N_wR, S_wR, I_same, R_same, I_wIn, I_wIk, R_wRn, R_wRk, T_nwo, T_nwn, L_nwo, L_nwn, I_nwo, I_nwn, R_nwo, R_nwn, N_nw, S_nw, nar_1, nar_0, nar_01, b01_t0, b01_f0, b01_t1, b01_f1, ne_sn, eq_sn, sn_inj, t', r', tc', l']
    · dsimp only
      by_cases e : b = i
      · rw [e, I_same]
      · rw [I_wIk e]; exact b8 b (by omega)
  · obtain ⟨a, q⟩ := z
    obtain ⟨b1, -⟩ := hz
    dsimp only at b1
    subst b1
    show b_M_init_254 y (nI 32) q = _
    unfold b_M_init_254
    rw [if_pos (nI_le (Nat.le_refl _) (by decide))]
theorem m_init (h : Hp) : ∃ g A, f_M_init (hpN h) (nw h 8 0 34) = some g ∧ Only [] h g ∧ hpN g = hpN h + 29 ∧ hpS g ≤ hpS h + 5000 ∧ RM g (hpN h) A (fun _ => 0) (fun _ => 0) s00 := by
  have hy : hpN h ≤ hpN h ∨ hpN h ∈ ([] : List Nat) := Or.inl (Nat.le_refl _)
  have M0 := gi_0 h 8 34 mfl (fun p => mk (mfl p)) (fun p => ml (mfl p))
  obtain ⟨h1, M1, s1, e1⟩ := gi_st M0 75 128 0 rfl rfl rfl (by decide) hy
  obtain ⟨h2, M2, s2, e2⟩ := gi_st M1 76 16 1 rfl rfl rfl (by decide) hy
  obtain ⟨h3, M3, s3, e3⟩ := gi_st M2 77 4 2 rfl rfl rfl (by decide) hy
  obtain ⟨h4, M4, s4, e4⟩ := gi_st M3 78 128 3 rfl rfl rfl (by decide) hy
  obtain ⟨h5, M5, s5, e5⟩ := gi_st M4 79 160 4 rfl rfl rfl (by decide) hy
  obtain ⟨h6, M6, s6, e6⟩ := gi_st M5 80 160 5 rfl rfl rfl (by decide) hy
  obtain ⟨h7, M7, s7, e7⟩ := gi_st M6 81 160 6 rfl rfl rfl (by decide) hy
  obtain ⟨h8, M8, s8, e8⟩ := gi_st M7 82 160 7 rfl rfl rfl (by decide) hy
  obtain ⟨h9, M9, s9, e9⟩ := gi_st M8 83 160 8 rfl rfl rfl (by decide) hy
  obtain ⟨h10, M10, s10, e10⟩ := gi_st M9 84 160 9 rfl rfl rfl (by decide) hy
  obtain ⟨h11, M11, s11, e11⟩ := gi_st M10 85 1280 10 rfl rfl rfl (by decide) hy
  obtain ⟨h12, M12, s12, e12⟩ := gi_st M11 86 640 11 rfl rfl rfl (by decide) hy
  obtain ⟨h13, M13, s13, e13⟩ := gi_st M12 87 160 12 rfl rfl rfl (by decide) hy
  obtain ⟨h14, M14, s14, e14⟩ := gi_st M13 88 32 13 rfl rfl rfl (by decide) hy
  obtain ⟨h15, M15, s15, e15⟩ := gi_st M14 89 32 14 rfl rfl rfl (by decide) hy
  obtain ⟨h16, M16, s16, e16⟩ := gi_st M15 90 32 15 rfl rfl rfl (by decide) hy
  obtain ⟨h17, M17, s17, e17⟩ := gi_st M16 91 32 16 rfl rfl rfl (by decide) hy
  obtain ⟨h18, M18, s18, e18⟩ := gi_st M17 92 32 17 rfl rfl rfl (by decide) hy
  obtain ⟨h19, M19, s19, e19⟩ := gi_st M18 93 32 18 rfl rfl rfl (by decide) hy
  obtain ⟨h20, M20, s20, e20⟩ := gi_st M19 94 32 20 rfl rfl rfl (by decide) hy
  obtain ⟨h21, M21, s21, e21⟩ := gi_st M20 95 32 21 rfl rfl rfl (by decide) hy
  obtain ⟨h22, M22, s22, e22⟩ := gi_st M21 96 32 22 rfl rfl rfl (by decide) hy
  obtain ⟨h23, M23, s23, e23⟩ := gi_st M22 97 32 23 rfl rfl rfl (by decide) hy
  obtain ⟨h24, M24, s24, e24⟩ := gi_st M23 98 32 24 rfl rfl rfl (by decide) hy
  have Ma := gi_w M24 26 1 hy
  obtain ⟨ha, qa⟩ : ∃ g, g = wI h24 (hpN h) 26 1 := ⟨_, rfl⟩
  rw [← qa] at Ma
  have sa : hpS ha = hpS h24 := by rw [qa]; rfl
  obtain ⟨h25, M25, s25, e25⟩ := gi_st Ma 99 48 27 rfl rfl rfl (by decide) hy
  obtain ⟨h26, M26, s26, e26⟩ := gi_st M25 100 48 28 rfl rfl rfl (by decide) hy
  obtain ⟨h27, M27, s27, e27⟩ := gi_st M26 101 48 29 rfl rfl rfl (by decide) hy
  have Mb := gi_w (gi_w M27 30 1 hy) 32 1 hy
  obtain ⟨hb, qb⟩ : ∃ g, g = wI (wI h27 (hpN h) 30 1) (hpN h) 32 1 := ⟨_, rfl⟩
  rw [← qb] at Mb
  have sb : hpS hb = hpS h27 := by rw [qb]; rfl
  obtain ⟨h28, M28, s28, e28⟩ := gi_st Mb 102 4 33 rfl rfl rfl (by decide) hy
  have s0 : hpS (nw h 8 0 34) = hpS h + 34 := rfl
  have ef : f_M_init (hpN h) (nw h 8 0 34) = bd (l_M_init_254 (hpN h) ((0 : Int32), h28)) fun x215 => some x215 := by
    unfold f_M_init
    refine (e1 _).trans ?_
    refine (e2 _).trans ?_
    refine (e3 _).trans ?_
    refine (e4 _).trans ?_
    refine (e5 _).trans ?_
    refine (e6 _).trans ?_
    refine (e7 _).trans ?_
    refine (e8 _).trans ?_
    refine (e9 _).trans ?_
    refine (e10 _).trans ?_
    refine (e11 _).trans ?_
    refine (e12 _).trans ?_
    refine (e13 _).trans ?_
    refine (e14 _).trans ?_
    refine (e15 _).trans ?_
    refine (e16 _).trans ?_
    refine (e17 _).trans ?_
    refine (e18 _).trans ?_
    refine (e19 _).trans ?_
    refine (e20 _).trans ?_
    refine (e21 _).trans ?_
    refine (e22 _).trans ?_
    refine (e23 _).trans ?_
    refine (e24 _).trans ?_
    rw [nm_v, ← qa]
    refine (e25 _).trans ?_
    refine (e26 _).trans ?_
    refine (e27 _).trans ?_
    rw [nm_v, nm_v, ← qb]
    exact e28 _
  clear e1 e2 e3 e4 e5 e6 e7 e8 e9 e10 e11 e12 e13 e14 e15 e16 e17 e18 e19 e20 e21 e22 e23 e24 e25 e26 e27 e28
  clear M0 M1 M2 M3 M4 M5 M6 M7 M8 M9 M10 M11 M12 M13 M14 M15 M16 M17 M18 M19 M20 M21 M22 M23 M24 M25 M26 M27 Ma Mb
  obtain ⟨⟨a1, a2, a3, a4, a5⟩, a6⟩ := M28
  obtain ⟨r1, r2, r3, -⟩ := a6 18 (by decide)
  obtain ⟨g, eg, O, n, s, rr, ff⟩ := m_fill a1 r1 r2 r3
  have o := fun (a : Nat) (ha : a < hpN h28) (hn : a ≠ hpN h + 1 + 18) => O.at1 ha hn
  have ot := O.2.2.1
  have iy : ∀ k, hpI g (hpN h) k = va_up (va_up (va_up (fun _ => 0) 26 1) 30 1) 32 1 k := fun k => by rw [(o (hpN h) (by omega) (by omega)).1, a4]
  have z : ∀ p, p < 28 → p ≠ 18 → ∀ k, hpI g (hpN h + 1 + p) k = 0 := fun p hp hn k => by
    rw [(o (hpN h + 1 + p) (by omega) (by omega)).1]
    exact (a6 p hp).2.2.2.1 k
  obtain ⟨A, hA⟩ : ∃ A : Nat → Nat, A = fun j => hpN h + 1 + mps j := ⟨_, rfl⟩
  have zA : ∀ j, 66 ≤ mk j → j ≠ 18 → ∀ k, hpI g (A j) k = 0 := fun j hj hn k => by
    obtain ⟨w1, w2⟩ := mps_ok hj
    rw [hA]
    exact z (mps j) w1 (fun q => hn (by rw [q] at w2; exact w2.symm)) k
  have A18 : A 18 = hpN h + 1 + 18 := by rw [hA]; rfl
  refine ⟨g, A, by rw [ef, bd_s eg], a5.tr O (fun x hx hl => ?_), by omega, by omega, ⟨?_, by omega, fun j hj => ?_⟩, ⟨fun i _ => ⟨?_, fun v hv => (by cases hv)⟩, fun i _ => ?_, fun i _ => ?_⟩, ⟨fun b _ => ⟨?_, ?_, Nat.two_pow_pos 20, Nat.two_pow_pos 20⟩, fun b _ => ⟨?_, ?_, Nat.two_pow_pos 20, Nat.two_pow_pos 20⟩, fun b hb => ?_, iy 19, by decide, fun i b hi => (by cases hi)⟩, ⟨iy 25, by decide, fun i id hi => (by cases hi)⟩, ⟨⟨iy 30, by decide, fun i t ht => ?_⟩, iy 31, iy 32, iy 26⟩, ⟨fun i _ => ⟨?_, ?_, Nat.two_pow_pos 20, Nat.two_pow_pos 20⟩, fun i _ => Nat.zero_lt_succ 31, fun i j _ _ q => absurd rfl q, fun i _ q => absurd rfl q⟩, fun k v => (vk_1 v).elim⟩
  · rw [List.mem_singleton.mp hx] at hl
    omega
  · rw [(ot _ (by omega)).1]; exact a1
  · obtain ⟨w1, w2⟩ := mps_ok hj
    obtain ⟨c1, c2, c3, -⟩ := a6 (mps j) w1
    rw [w2] at c1
    dsimp only at c2 c3
    rw [w2] at c2 c3
    rw [hA]
    dsimp only
    exact ⟨by rw [rr]; exact c1, (ot _ (by omega)).1.trans c2, (ot _ (by omega)).2.trans c3, by omega⟩
  · exact zA 0 (by decide) (by decide) i
  · exact zA 1 (by decide) (by decide) i
  · exact zA 2 (by decide) (by decide) i
  · exact zA 13 (by decide) (by decide) b
  · exact zA 14 (by decide) (by decide) b
  · exact zA 15 (by decide) (by decide) b
  · exact zA 16 (by decide) (by decide) b
  · rw [A18]; exact ff b hb
  · cases i with
    | zero => cases ht; exact ⟨zA 27 (by decide) (by decide) 0, zA 28 (by decide) (by decide) 0, zA 29 (by decide) (by decide) 0⟩
    | succ i => cases ht
  · exact zA 4 (by decide) (by decide) i
  · exact zA 5 (by decide) (by decide) i
theorem iv_init : Ivt s00 0 1 := by
  have no : ∀ k, lvb s00.st s00.vers k = true → False := fun k h => by
    obtain ⟨t, t1, t2, -⟩ := lvb_t.mp h
    rw [show t = (0, 0, 0) from List.mem_singleton.mp t1] at t2
    exact t2 rfl
  refine ⟨⟨by decide, fun id a b => ?_, fun k v => (vk_1 v).elim⟩, Nat.le_refl _, fun b _ => ⟨Or.inl ⟨rfl, rfl⟩, Or.inl ⟨rfl, rfl⟩⟩, ⟨fun id hi => (by cases hi), fun i j a b hi => (by cases hi), fun id hi => (by cases hi), fun id hi => (by cases hi)⟩, ⟨fun i j b hi => (by cases hi), fun b hb => (by cases hb), fun b _ _ => rfl⟩, ⟨⟨fun i j t u hi hj hl => ?_, fun i t ht => ?_⟩, fun i j t u hi hj hl => ?_, ⟨(0, 0, 0), rfl, rfl⟩, by decide, fun t ht h0 => ?_⟩, ⟨fun k hk => (no k hk).elim, fun h0 => absurd rfl h0⟩, ⟨Nat.le_refl _, by decide⟩, fun b _ => ⟨Or.inl rfl, Nat.zero_lt_succ 0⟩, fun h0 => absurd rfl h0, fun id a b => ?_, fun id a b => ?_, fun id a b => ?_⟩
  · have b' : id < 1 := b
    omega
  · cases j with
    | zero => omega
    | succ j => cases hj
  · cases i with
    | zero => cases ht; decide
    | succ i => cases ht
  · cases j with
    | zero => omega
    | succ j => cases hj
  · rw [show t = (0, 0, 0) from List.mem_singleton.mp ht] at h0
    exact absurd rfl h0
  · omega
  · have b' : id < 1 := b
    have a' : 0 < id := a
    omega
  · have b' : id < 1 := b
    omega

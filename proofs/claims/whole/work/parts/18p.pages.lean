/-! HOW MANY PAGES a commit writes -/
def sm (f : Nat → Nat) : Nat → Nat
  | 0 => 0
  | n + 1 => sm f n + f n
def pm (now : Nat → Option Int32) (tl tm : Nat → Bool) (m : Nat) : Nat := cn (fun j => tl (4 * m + j) && lh now m j) 4 + (bif mc tl tm m && mh now m then 1 else 0)
def pw (now : Nat → Option Int32) (tl tm : Nat → Bool) : Nat := 1 + sm (pm now tl tm) 4
theorem pm_le (now : Nat → Option Int32) (tl tm : Nat → Bool) (m : Nat) : pm now tl tm m ≤ 5 := by
  unfold pm
  have := cn_le (fun j => tl (4 * m + j) && lh now m j) 4
  cases mc tl tm m && mh now m
  · show _ + 0 ≤ _; omega
  · show _ + 1 ≤ _; omega
theorem sm_le {f : Nat → Nat} {k : Nat} (h : ∀ m, f m ≤ k) (n : Nat) : sm f n ≤ k * n := by
  induction n with
  | zero => exact Nat.le_refl _
  | succ n ih =>
    show sm f n + f n ≤ _
    have := h n
    rw [Nat.mul_succ]; omega
theorem pw_le (now : Nat → Option Int32) (tl tm : Nat → Bool) : pw now tl tm ≤ 21 := by
  unfold pw
  have := sm_le (pm_le now tl tm) 4
  omega
theorem p_pages {h : Hp} {p a0 a1 : Nat} {now : Nat → Option Int32} {tl tm : Nat → Bool} (N : PN h p a0 a1 now) (T : PT h p tl tm) : f_P_pagesToWrite p h = some (nI (pw now tl tm), h) := by
  have inn : ∀ c m, m < 4 → l_P_pagesToWrite_22 p (nI m) (nI c, (0 : Int32), h) = some (nI (c + cn (fun j => tl (4 * m + j) && lh now m j) 4), h) := by
    intro c m hm
    refine lp_cn (b := fun s => b_P_pagesToWrite_22 p s.1 (nI m) s.2.1 s.2.2) h (fun j => tl (4 * m + j) && lh now m j) c 4 (by decide) (fun n j hj hf => ?_) (fun n j hj hf => ?_) (fun n => ?_)
    · show b_P_pagesToWrite_22 p (nI n) (nI m) (nI j) h = _
      unfold b_P_pagesToWrite_22
      simp (disch := omega) only [gd_T, dr_S, nm_v, cl_S, cv_S, bd_S, lk_L, lk_R, zbw_b, isK_e, isPg_3, isPg_4, isPg_6, asV_n, beq_self_eq_true, inb_N, inb_0, le_T, le_F, lt_T, lt_F, eq_F, le_0T, lt_0F, le_0F, eq_0F, nI_1, nI_add, pk_mul, nI_clamp, cl_0, if_true, if_false, of_nI, T_wI, L_wI, R_wI, N_wI, S_wI, T_wR, L_wR, I_wR, N_wR, S_wR, I_same, R_same, I_wIn, I_wIk, R_wRn, R_wRk, T_nwo, T_nwn, L_nwo, L_nwn, I_nwo, I_nwn, R_nwo, R_nwn, N_nw, S_nw, nar_1, nar_0, nar_01, b01_t0, b01_f0, b01_t1, b01_f1, ne_sn, eq_sn, sn_inj, N.1.1, p_needsLeaf N T hm hj, hf]
    · show b_P_pagesToWrite_22 p (nI n) (nI m) (nI j) h = _
      unfold b_P_pagesToWrite_22
      simp (disch := omega) only [gd_T, dr_S, nm_v, cl_S, cv_S, bd_S, lk_L, lk_R, zbw_b, isK_e, isPg_3, isPg_4, isPg_6, asV_n, beq_self_eq_true, inb_N, inb_0, le_T, le_F, lt_T, lt_F, eq_F, le_0T, lt_0F, le_0F, eq_0F, nI_1, nI_add, pk_mul, nI_clamp, cl_0, if_true, if_false, of_nI, T_wI, L_wI, R_wI, N_wI, S_wI, T_wR, L_wR, I_wR, N_wR, S_wR, I_same, R_same, I_wIn, I_wIk, R_wRn, R_wRk, T_nwo, T_nwn, L_nwo, L_nwn, I_nwo, I_nwn, R_nwo, R_nwn, N_nw, S_nw, nar_1, nar_0, nar_01, b01_t0, b01_f0, b01_t1, b01_f1, ne_sn, eq_sn, sn_inj, N.1.1, p_needsLeaf N T hm hj, hf]
    · show b_P_pagesToWrite_22 p (nI n) (nI m) (nI 4) h = _
      unfold b_P_pagesToWrite_22
      simp (disch := omega) only [gd_T, dr_S, nm_v, cl_S, cv_S, bd_S, lk_L, lk_R, zbw_b, isK_e, isPg_3, isPg_4, isPg_6, asV_n, beq_self_eq_true, inb_N, inb_0, le_T, le_F, lt_T, lt_F, eq_F, le_0T, lt_0F, le_0F, eq_0F, nI_1, nI_add, pk_mul, nI_clamp, cl_0, if_true, if_false, of_nI, T_wI, L_wI, R_wI, N_wI, S_wI, T_wR, L_wR, I_wR, N_wR, S_wR, I_same, R_same, I_wIn, I_wIk, R_wRn, R_wRk, T_nwo, T_nwn, L_nwo, L_nwn, I_nwo, I_nwn, R_nwo, R_nwn, N_nw, S_nw, nar_1, nar_0, nar_01, b01_t0, b01_f0, b01_t1, b01_f1, ne_sn, eq_sn, sn_inj]
  have out : l_P_pagesToWrite_4 p ((1 : Int32), (0 : Int32), h) = some (nI (1 + sm (pm now tl tm) 4), h) := by
    refine lp_tr (b := fun s => b_P_pagesToWrite_4 p s.1 s.2.1 s.2.2) (fun m => (nI (1 + sm (pm now tl tm) m), nI m, h)) 4 _ (by decide) (fun m hm => ?_) ?_
    · show b_P_pagesToWrite_4 p (nI (1 + sm (pm now tl tm) m)) (nI m) h = some (.inl (nI (1 + (sm (pm now tl tm) m + pm now tl tm m)), nI (m + 1), h))
      unfold b_P_pagesToWrite_4 j_P_pagesToWrite_20_L4
      simp (disch := omega) only [gd_T, dr_S, nm_v, cl_S, cv_S, bd_S, lk_L, lk_R, zbw_b, isK_e, isPg_3, isPg_4, isPg_6, asV_n, beq_self_eq_true, inb_N, inb_0, le_T, le_F, lt_T, lt_F, eq_F, le_0T, lt_0F, le_0F, eq_0F, nI_1, nI_add, pk_mul, nI_clamp, cl_0, if_true, if_false, of_nI, T_wI, L_wI, R_wI, N_wI, S_wI, T_wR, L_wR, I_wR, N_wR, S_wR, I_same, R_same, I_wIn, I_wIk, R_wRn, R_wRk, T_nwo, T_nwn, L_nwo, L_nwn, I_nwo, I_nwn, R_nwo, R_nwn, N_nw, S_nw, nar_1, nar_0, nar_01, b01_t0, b01_f0, b01_t1, b01_f1, ne_sn, eq_sn, sn_inj, N.1.1, p_needsRoot N T hm, inn _ m hm]
      have e : pm now tl tm m = cn (fun j => tl (4 * m + j) && lh now m j) 4 + (bif mc tl tm m && mh now m then 1 else 0) := rfl
      rw [e]
      generalize sm (pm now tl tm) m = s
      generalize cn (fun j => tl (4 * m + j) && lh now m j) 4 = c
      cases mc tl tm m && mh now m with
      | false => simp (disch := omega) only [gd_T, dr_S, nm_v, cl_S, cv_S, bd_S, lk_L, lk_R, zbw_b, isK_e, isPg_3, isPg_4, isPg_6, asV_n, beq_self_eq_true, inb_N, inb_0, le_T, le_F, lt_T, lt_F, eq_F, le_0T, lt_0F, le_0F, eq_0F, nI_1, nI_add, pk_mul, nI_clamp, cl_0, if_true, if_false, of_nI, T_wI, L_wI, R_wI, N_wI, S_wI, T_wR, L_wR, I_wR, N_wR, S_wR, I_same, R_same, I_wIn, I_wIk, R_wRn, R_wRk, T_nwo, T_nwn, L_nwo, L_nwn, I_nwo, I_nwn, R_nwo, R_nwn, N_nw, S_nw, nar_1, nar_0, nar_01, b01_t0, b01_f0, b01_t1, b01_f1, ne_sn, eq_sn, sn_inj, cond_false, Nat.add_zero, Nat.add_assoc]
      | true =>
        simp (disch := omega) only [gd_T, dr_S, nm_v, cl_S, cv_S, bd_S, lk_L, lk_R, zbw_b, isK_e, isPg_3, isPg_4, isPg_6, asV_n, beq_self_eq_true, inb_N, inb_0, le_T, le_F, lt_T, lt_F, eq_F, le_0T, lt_0F, le_0F, eq_0F, nI_1, nI_add, pk_mul, nI_clamp, cl_0, if_true, if_false, of_nI, T_wI, L_wI, R_wI, N_wI, S_wI, T_wR, L_wR, I_wR, N_wR, S_wR, I_same, R_same, I_wIn, I_wIk, R_wRn, R_wRk, T_nwo, T_nwn, L_nwo, L_nwn, I_nwo, I_nwn, R_nwo, R_nwn, N_nw, S_nw, nar_1, nar_0, nar_01, b01_t0, b01_f0, b01_t1, b01_f1, ne_sn, eq_sn, sn_inj, cond_true]
        rw [show 1 + s + 1 + c = 1 + (s + (c + 1)) by omega]
    · show b_P_pagesToWrite_4 p (nI (1 + sm (pm now tl tm) 4)) (nI 4) h = _
      unfold b_P_pagesToWrite_4
      simp (disch := omega) only [gd_T, dr_S, nm_v, cl_S, cv_S, bd_S, lk_L, lk_R, zbw_b, isK_e, isPg_3, isPg_4, isPg_6, asV_n, beq_self_eq_true, inb_N, inb_0, le_T, le_F, lt_T, lt_F, eq_F, le_0T, lt_0F, le_0F, eq_0F, nI_1, nI_add, pk_mul, nI_clamp, cl_0, if_true, if_false, of_nI, T_wI, L_wI, R_wI, N_wI, S_wI, T_wR, L_wR, I_wR, N_wR, S_wR, I_same, R_same, I_wIn, I_wIk, R_wRn, R_wRk, T_nwo, T_nwn, L_nwo, L_nwn, I_nwo, I_nwn, R_nwo, R_nwn, N_nw, S_nw, nar_1, nar_0, nar_01, b01_t0, b01_f0, b01_t1, b01_f1, ne_sn, eq_sn, sn_inj]
  unfold f_P_pagesToWrite pw
  simp (disch := omega) only [gd_T, dr_S, nm_v, cl_S, cv_S, bd_S, lk_L, lk_R, zbw_b, isK_e, isPg_3, isPg_4, isPg_6, asV_n, beq_self_eq_true, inb_N, inb_0, le_T, le_F, lt_T, lt_F, eq_F, le_0T, lt_0F, le_0F, eq_0F, nI_1, nI_add, pk_mul, nI_clamp, cl_0, if_true, if_false, of_nI, T_wI, L_wI, R_wI, N_wI, S_wI, T_wR, L_wR, I_wR, N_wR, S_wR, I_same, R_same, I_wIn, I_wIk, R_wRn, R_wRk, T_nwo, T_nwn, L_nwo, L_nwn, I_nwo, I_nwn, R_nwo, R_nwn, N_nw, S_nw, nar_1, nar_0, nar_01, b01_t0, b01_f0, b01_t1, b01_f1, ne_sn, eq_sn, sn_inj, out]
theorem m_pages {h : Hp} {y : Nat} {A : Nat → Nat} {now : Nat → Option Int32} {tl tm : Nat → Bool} (M : MOK h y A) (N : MNow h A now) (T : MTl h A tl) (T2 : MTm h A tm) : f_M_pagesToWrite y h = some (nI (pw now tl tm), h) := by
  have inn : ∀ c m, m < 4 → l_M_pagesToWrite_11 y (nI m) (nI c, (0 : Int32), h) = some (nI (c + cn (fun j => tl (4 * m + j) && lh now m j) 4), h) := by
    intro c m hm
    have eb : ∀ n j, j < 4 → b_M_pagesToWrite_11 y (nI n) (nI m) (nI j) h = bif tl (4 * m + j) && lh now m j then some (.inl (nI (n + 1), nI (j + 1), h)) else some (.inl (nI n, nI (j + 1), h)) := by
      intro n j hj
      unfold b_M_pagesToWrite_11
      simp (disch := omega) only [gd_T, dr_S, nm_v, cl_S, cv_S, bd_S, lk_L, lk_R, zbw_b, isK_e, isPg_3, isPg_4, isPg_6, asV_n, beq_self_eq_true, inb_N, inb_0, le_T, le_F, lt_T, lt_F, eq_F, le_0T, lt_0F, le_0F, eq_0F, nI_1, nI_add, pk_mul, nI_clamp, cl_0, if_true, if_false, of_nI, T_wI, L_wI, R_wI, N_wI, S_wI, T_wR, L_wR, I_wR, N_wR, S_wR, I_same, R_same, I_wIn, I_wIk, R_wRn, R_wRk, T_nwo, T_nwn, L_nwo, L_nwn, I_nwo, I_nwn, R_nwo, R_nwn, N_nw, S_nw, nar_1, nar_0, nar_01, b01_t0, b01_f0, b01_t1, b01_f1, ne_sn, eq_sn, sn_inj, M.1, M.a1.1, M.a1.2.1, M.a1.2.2.1, T (4 * m + j) (by omega), m_leafHas M N hm hj]
      cases tl (4 * m + j) <;> cases lh now m j <;> rfl
    refine lp_cn (b := fun s => b_M_pagesToWrite_11 y s.1 (nI m) s.2.1 s.2.2) h (fun j => tl (4 * m + j) && lh now m j) c 4 (by decide) (fun n j hj hf => ?_) (fun n j hj hf => ?_) (fun n => ?_)
    · show b_M_pagesToWrite_11 y (nI n) (nI m) (nI j) h = _
      rw [eb n j hj, hf]; rfl
    · show b_M_pagesToWrite_11 y (nI n) (nI m) (nI j) h = _
      rw [eb n j hj, hf]; rfl
    · show b_M_pagesToWrite_11 y (nI n) (nI m) (nI 4) h = _
      unfold b_M_pagesToWrite_11
      simp (disch := omega) only [gd_T, dr_S, nm_v, cl_S, cv_S, bd_S, lk_L, lk_R, zbw_b, isK_e, isPg_3, isPg_4, isPg_6, asV_n, beq_self_eq_true, inb_N, inb_0, le_T, le_F, lt_T, lt_F, eq_F, le_0T, lt_0F, le_0F, eq_0F, nI_1, nI_add, pk_mul, nI_clamp, cl_0, if_true, if_false, of_nI, T_wI, L_wI, R_wI, N_wI, S_wI, T_wR, L_wR, I_wR, N_wR, S_wR, I_same, R_same, I_wIn, I_wIk, R_wRn, R_wRk, T_nwo, T_nwn, L_nwo, L_nwn, I_nwo, I_nwn, R_nwo, R_nwn, N_nw, S_nw, nar_1, nar_0, nar_01, b01_t0, b01_f0, b01_t1, b01_f1, ne_sn, eq_sn, sn_inj]
  have out : l_M_pagesToWrite_4 y ((1 : Int32), (0 : Int32), h) = some (nI (1 + sm (pm now tl tm) 4), h) := by
    refine lp_tr (b := fun s => b_M_pagesToWrite_4 y s.1 s.2.1 s.2.2) (fun m => (nI (1 + sm (pm now tl tm) m), nI m, h)) 4 _ (by decide) (fun m hm => ?_) ?_
    · show b_M_pagesToWrite_4 y (nI (1 + sm (pm now tl tm) m)) (nI m) h = some (.inl (nI (1 + (sm (pm now tl tm) m + pm now tl tm m)), nI (m + 1), h))
      unfold b_M_pagesToWrite_4
      simp (disch := omega) only [gd_T, dr_S, nm_v, cl_S, cv_S, bd_S, lk_L, lk_R, zbw_b, isK_e, isPg_3, isPg_4, isPg_6, asV_n, beq_self_eq_true, inb_N, inb_0, le_T, le_F, lt_T, lt_F, eq_F, le_0T, lt_0F, le_0F, eq_0F, nI_1, nI_add, pk_mul, nI_clamp, cl_0, if_true, if_false, of_nI, T_wI, L_wI, R_wI, N_wI, S_wI, T_wR, L_wR, I_wR, N_wR, S_wR, I_same, R_same, I_wIn, I_wIk, R_wRn, R_wRk, T_nwo, T_nwn, L_nwo, L_nwn, I_nwo, I_nwn, R_nwo, R_nwn, N_nw, S_nw, nar_1, nar_0, nar_01, b01_t0, b01_f0, b01_t1, b01_f1, ne_sn, eq_sn, sn_inj, M.1, inn _ m hm, m_isTouched M T T2 hm, m_mapHas M N hm]
      unfold pm
      cases mc tl tm m <;> cases mh now m <;> simp (disch := omega) only [gd_T, dr_S, nm_v, cl_S, cv_S, bd_S, lk_L, lk_R, zbw_b, isK_e, isPg_3, isPg_4, isPg_6, asV_n, beq_self_eq_true, inb_N, inb_0, le_T, le_F, lt_T, lt_F, eq_F, le_0T, lt_0F, le_0F, eq_0F, nI_1, nI_add, pk_mul, nI_clamp, cl_0, if_true, if_false, of_nI, T_wI, L_wI, R_wI, N_wI, S_wI, T_wR, L_wR, I_wR, N_wR, S_wR, I_same, R_same, I_wIn, I_wIk, R_wRn, R_wRk, T_nwo, T_nwn, L_nwo, L_nwn, I_nwo, I_nwn, R_nwo, R_nwn, N_nw, S_nw, nar_1, nar_0, nar_01, b01_t0, b01_f0, b01_t1, b01_f1, ne_sn, eq_sn, sn_inj, Bool.false_and, Bool.true_and, cond_true, cond_false, Nat.add_zero, Nat.add_assoc]
    · show b_M_pagesToWrite_4 y (nI (1 + sm (pm now tl tm) 4)) (nI 4) h = _
      unfold b_M_pagesToWrite_4
      simp (disch := omega) only [gd_T, dr_S, nm_v, cl_S, cv_S, bd_S, lk_L, lk_R, zbw_b, isK_e, isPg_3, isPg_4, isPg_6, asV_n, beq_self_eq_true, inb_N, inb_0, le_T, le_F, lt_T, lt_F, eq_F, le_0T, lt_0F, le_0F, eq_0F, nI_1, nI_add, pk_mul, nI_clamp, cl_0, if_true, if_false, of_nI, T_wI, L_wI, R_wI, N_wI, S_wI, T_wR, L_wR, I_wR, N_wR, S_wR, I_same, R_same, I_wIn, I_wIk, R_wRn, R_wRk, T_nwo, T_nwn, L_nwo, L_nwn, I_nwo, I_nwn, R_nwo, R_nwn, N_nw, S_nw, nar_1, nar_0, nar_01, b01_t0, b01_f0, b01_t1, b01_f1, ne_sn, eq_sn, sn_inj]
  unfold f_M_pagesToWrite pw
  simp (disch := omega) only [gd_T, dr_S, nm_v, cl_S, cv_S, bd_S, lk_L, lk_R, zbw_b, isK_e, isPg_3, isPg_4, isPg_6, asV_n, beq_self_eq_true, inb_N, inb_0, le_T, le_F, lt_T, lt_F, eq_F, le_0T, lt_0F, le_0F, eq_0F, nI_1, nI_add, pk_mul, nI_clamp, cl_0, if_true, if_false, of_nI, T_wI, L_wI, R_wI, N_wI, S_wI, T_wR, L_wR, I_wR, N_wR, S_wR, I_same, R_same, I_wIn, I_wIk, R_wRn, R_wRk, T_nwo, T_nwn, L_nwo, L_nwn, I_nwo, I_nwn, R_nwo, R_nwn, N_nw, S_nw, nar_1, nar_0, nar_01, b01_t0, b01_f0, b01_t1, b01_f1, ne_sn, eq_sn, sn_inj, out]
/-- is anything touched -/
def tcd (tl tm : Nat → Bool) : Bool := (List.range 4).any (mc tl tm)
theorem tcd_f {tl tm : Nat → Bool} : tcd tl tm = false ↔ (∀ i, i < 16 → tl i = false) ∧ ∀ m, m < 4 → tm m = false := by
  constructor
  · intro h
    have q : ∀ m, m < 4 → mc tl tm m = false := fun m hm => ts_nt (fun z => by
      have : tcd tl tm = true := any_t.mpr ⟨m, hm, z⟩
      rw [h] at this; cases this)
    unfold mc at q
    simp only [Bool.or_eq_false_iff] at q
    refine ⟨fun i hi => ?_, fun m hm => (q m hm).1⟩
    have z := (q (i / 4) (by omega)).2
    have : i % 4 = 0 ∨ i % 4 = 1 ∨ i % 4 = 2 ∨ i % 4 = 3 := by omega
    rcases this with c | c | c | c
    · rw [show i = 4 * (i / 4) by omega]; exact z.1
    · rw [show i = 4 * (i / 4) + 1 by omega]; exact z.2.1
    · rw [show i = 4 * (i / 4) + 2 by omega]; exact z.2.2.1
    · rw [show i = 4 * (i / 4) + 3 by omega]; exact z.2.2.2
  · intro ⟨h1, h2⟩
    refine any_f (fun m hm => ?_)
    unfold mc
    rw [h2 m hm, h1 _ (by omega), h1 _ (by omega), h1 _ (by omega), h1 _ (by omega)]; rfl
theorem p_isTouched {h : Hp} {p : Nat} {tl tm : Nat → Bool} (hp : hpT h p = 5) (T : PT h p tl tm) : f_P_isTouched p h = some (b01 (tcd tl tm), h) := by
  refine zbw_s ?_ (zb_b _)
  unfold f0_P_isTouched
  simp (disch := omega) only [gd_T, dr_S, nm_v, cl_S, cv_S, bd_S, lk_L, lk_R, zbw_b, isK_e, isPg_3, isPg_4, isPg_6, asV_n, beq_self_eq_true, inb_N, inb_0, le_T, le_F, lt_T, lt_F, eq_F, le_0T, lt_0F, le_0F, eq_0F, nI_1, nI_add, pk_mul, nI_clamp, cl_0, if_true, if_false, of_nI, T_wI, L_wI, R_wI, N_wI, S_wI, T_wR, L_wR, I_wR, N_wR, S_wR, I_same, R_same, I_wIn, I_wIk, R_wRn, R_wRk, T_nwo, T_nwn, L_nwo, L_nwn, I_nwo, I_nwn, R_nwo, R_nwn, N_nw, S_nw, nar_1, nar_0, nar_01, b01_t0, b01_f0, b01_t1, b01_f1, ne_sn, eq_sn, sn_inj, hp]
  by_cases z : hpI h p 2 = 0
  · rw [if_pos z]
    by_cases w : hpI h p 3 = 0
    · rw [if_pos w, tcd_f.mpr ⟨fun i hi => ?_, fun m hm => ?_⟩]; rfl
      · have := (T i (by omega)).1
        rw [z, b_0, decide_eq_true hi, Bool.true_and] at this
        exact this.symm
      · have := (T m (by omega)).2
        rw [w, b_0, decide_eq_true hm, Bool.true_and] at this
        exact this.symm
    · rw [if_neg w, show tcd tl tm = true from ts_nf (fun q => w (bt_z (fun i hi => ?_)))]; rfl
      rw [(T i hi).2]
      by_cases c : i < 4
      · rw [(tcd_f.mp q).2 i c, Bool.and_false]
      · rw [decide_eq_false c, Bool.false_and]
  · rw [if_neg z, show tcd tl tm = true from ts_nf (fun q => z (bt_z (fun i hi => ?_)))]; rfl
    rw [(T i hi).1]
    by_cases c : i < 16
    · rw [(tcd_f.mp q).1 i c, Bool.and_false]
    · rw [decide_eq_false c, Bool.false_and]
theorem p_forget {h : Hp} {p : Nat} (hp : hpT h p = 5) : f_P_forgetTouched p h = some (wI (wI h p 2 0) p 3 0) ∧ PT (wI (wI h p 2 0) p 3 0) p (fun _ => false) (fun _ => false) := by
  refine ⟨?_, fun i hi => ?_⟩
  · unfold f_P_forgetTouched
    simp (disch := omega) only [gd_T, dr_S, nm_v, cl_S, cv_S, bd_S, lk_L, lk_R, zbw_b, isK_e, isPg_3, isPg_4, isPg_6, asV_n, beq_self_eq_true, inb_N, inb_0, le_T, le_F, lt_T, lt_F, eq_F, le_0T, lt_0F, le_0F, eq_0F, nI_1, nI_add, pk_mul, nI_clamp, cl_0, if_true, if_false, of_nI, T_wI, L_wI, R_wI, N_wI, S_wI, T_wR, L_wR, I_wR, N_wR, S_wR, I_same, R_same, I_wIn, I_wIk, R_wRn, R_wRk, T_nwo, T_nwn, L_nwo, L_nwn, I_nwo, I_nwn, R_nwo, R_nwn, N_nw, S_nw, nar_1, nar_0, nar_01, b01_t0, b01_f0, b01_t1, b01_f1, ne_sn, eq_sn, sn_inj, hp]
  · simp (disch := omega) only [gd_T, dr_S, nm_v, cl_S, cv_S, bd_S, lk_L, lk_R, zbw_b, isK_e, isPg_3, isPg_4, isPg_6, asV_n, beq_self_eq_true, inb_N, inb_0, le_T, le_F, lt_T, lt_F, eq_F, le_0T, lt_0F, le_0F, eq_0F, nI_1, nI_add, pk_mul, nI_clamp, cl_0, if_true, if_false, of_nI, T_wI, L_wI, R_wI, N_wI, S_wI, T_wR, L_wR, I_wR, N_wR, S_wR, I_same, R_same, I_wIn, I_wIk, R_wRn, R_wRk, T_nwo, T_nwn, L_nwo, L_nwn, I_nwo, I_nwn, R_nwo, R_nwn, N_nw, S_nw, nar_1, nar_0, nar_01, b01_t0, b01_f0, b01_t1, b01_f1, ne_sn, eq_sn, sn_inj, b_0, Bool.and_false]
    exact ⟨trivial, trivial⟩
theorem m_any {h : Hp} {y : Nat} {A : Nat → Nat} {tl tm : Nat → Bool} (M : MOK h y A) (T : MTl h A tl) (T2 : MTm h A tm) : l_M_commit_4 y ((0 : Int32), (0 : Int32), h) = some (b01 (tcd tl tm), h) := by
  refine lp_tr (b := fun s => b_M_commit_4 y s.1 s.2.1 s.2.2) (fun m => (b01 ((List.range m).any (mc tl tm)), nI m, h)) 4 _ (by decide) (fun m hm => ?_) ?_
  · show b_M_commit_4 y (b01 ((List.range m).any (mc tl tm))) (nI m) h = some (.inl (b01 ((List.range (m + 1)).any (mc tl tm)), nI (m + 1), h))
    unfold b_M_commit_4
    simp (disch := omega) only [gd_T, dr_S, nm_v, cl_S, cv_S, bd_S, lk_L, lk_R, zbw_b, isK_e, isPg_3, isPg_4, isPg_6, asV_n, beq_self_eq_true, inb_N, inb_0, le_T, le_F, lt_T, lt_F, eq_F, le_0T, lt_0F, le_0F, eq_0F, nI_1, nI_add, pk_mul, nI_clamp, cl_0, if_true, if_false, of_nI, T_wI, L_wI, R_wI, N_wI, S_wI, T_wR, L_wR, I_wR, N_wR, S_wR, I_same, R_same, I_wIn, I_wIk, R_wRn, R_wRk, T_nwo, T_nwn, L_nwo, L_nwn, I_nwo, I_nwn, R_nwo, R_nwn, N_nw, S_nw, nar_1, nar_0, nar_01, b01_t0, b01_f0, b01_t1, b01_f1, ne_sn, eq_sn, sn_inj, M.1, m_isTouched M T T2 hm, b01_or, List.range_succ, List.any_append, List.any_cons, List.any_nil, Bool.or_false]
  · show b_M_commit_4 y (b01 ((List.range 4).any (mc tl tm))) (nI 4) h = _
    unfold b_M_commit_4 tcd
    simp (disch := omega) only [gd_T, dr_S, nm_v, cl_S, cv_S, bd_S, lk_L, lk_R, zbw_b, isK_e, isPg_3, isPg_4, isPg_6, asV_n, beq_self_eq_true, inb_N, inb_0, le_T, le_F, lt_T, lt_F, eq_F, le_0T, lt_0F, le_0F, eq_0F, nI_1, nI_add, pk_mul, nI_clamp, cl_0, if_true, if_false, of_nI, T_wI, L_wI, R_wI, N_wI, S_wI, T_wR, L_wR, I_wR, N_wR, S_wR, I_same, R_same, I_wIn, I_wIk, R_wRn, R_wRk, T_nwo, T_nwn, L_nwo, L_nwn, I_nwo, I_nwn, R_nwo, R_nwn, N_nw, S_nw, nar_1, nar_0, nar_01, b01_t0, b01_f0, b01_t1, b01_f1, ne_sn, eq_sn, sn_inj]
theorem m_settle {h : Hp} {y : Nat} {A : Nat → Nat} (M : MOK h y A) : ∃ h', f_M_settle y h = some h' ∧ MOK h' y A ∧ MTl h' A (fun _ => false) ∧ MTm h' A (fun _ => false) ∧ hpN h' = hpN h ∧ hpS h' = hpS h := by
  have n12 := M.ne (i := 1) (j := 2) (by decide) (by decide) (by decide)
  have one : ∃ r, l_M_settle_2 y ((0 : Int32), h) = some r ∧ (MOK r y A ∧ MTl r A (fun _ => false) ∧ hpN r = hpN h ∧ hpS r = hpS h) := by
    refine lp_up (b := fun s => b_M_settle_2 y s.1 s.2) (fun j s => s.1 = nI j ∧ MOK s.2 y A ∧ (∀ i, i < j → hpI s.2 (A 1) i = 0) ∧ hpN s.2 = hpN h ∧ hpS s.2 = hpS h) _ 16 (by decide) ⟨rfl, M, fun i hi => absurd hi (Nat.not_lt_zero _), rfl, rfl⟩ (fun j s hj hs => Or.inl ?_) (fun s hs => ⟨s.2, ?_, ?_⟩)
    · obtain ⟨a, r⟩ := s
      obtain ⟨b1, b2, b3, b4, b5⟩ := hs
      dsimp only at b1 b2 b3 b4 b5
      subst b1
      refine ⟨(nI (j + 1), wI r (A 1) j 0), ?_, rfl, b2, fun i hi => ?_, b4, b5⟩
      · show b_M_settle_2 y (nI j) r = _
        unfold b_M_settle_2
        simp (disch := omega) only [gd_T, dr_S, nm_v, cl_S, cv_S, bd_S, lk_L, lk_R, zbw_b, isK_e, isPg_3, isPg_4, isPg_6, asV_n, beq_self_eq_true, inb_N, inb_0, le_T, le_F, lt_T, lt_F, eq_F, le_0T, lt_0F, le_0F, eq_0F, nI_1, nI_add, pk_mul, nI_clamp, cl_0, if_true, if_false, of_nI, T_wI, L_wI, R_wI, N_wI, S_wI, T_wR, L_wR, I_wR, N_wR, S_wR, I_same, R_same, I_wIn, I_wIk, R_wRn, R_wRk, T_nwo, T_nwn, L_nwo, L_nwn, I_nwo, I_nwn, R_nwo, R_nwn, N_nw, S_nw, nar_1, nar_0, nar_01, b01_t0, b01_f0, b01_t1, b01_f1, ne_sn, eq_sn, sn_inj, b2.1, b2.a1.1, b2.a1.2.1, b2.a1.2.2.1]
      · dsimp only
        by_cases e : i = j
        · rw [e, I_same]
        · rw [I_wIk e]; exact b3 i (by omega)
    · obtain ⟨a, r⟩ := s
      obtain ⟨b1, b2, b3, b4, b5⟩ := hs
      dsimp only at b1
      subst b1
      show b_M_settle_2 y (nI 16) r = _
      unfold b_M_settle_2
      simp (disch := omega) only [gd_T, dr_S, nm_v, cl_S, cv_S, bd_S, lk_L, lk_R, zbw_b, isK_e, isPg_3, isPg_4, isPg_6, asV_n, beq_self_eq_true, inb_N, inb_0, le_T, le_F, lt_T, lt_F, eq_F, le_0T, lt_0F, le_0F, eq_0F, nI_1, nI_add, pk_mul, nI_clamp, cl_0, if_true, if_false, of_nI, T_wI, L_wI, R_wI, N_wI, S_wI, T_wR, L_wR, I_wR, N_wR, S_wR, I_same, R_same, I_wIn, I_wIk, R_wRn, R_wRk, T_nwo, T_nwn, L_nwo, L_nwn, I_nwo, I_nwn, R_nwo, R_nwn, N_nw, S_nw, nar_1, nar_0, nar_01, b01_t0, b01_f0, b01_t1, b01_f1, ne_sn, eq_sn, sn_inj]
    · exact ⟨hs.2.1, fun i hi => hs.2.2.1 i hi, hs.2.2.2⟩
  obtain ⟨r1, e1, M1, T1, q1, q2⟩ := one
  have two : ∃ r, l_M_settle_23 y ((0 : Int32), r1) = some r ∧ (MOK r y A ∧ MTl r A (fun _ => false) ∧ MTm r A (fun _ => false) ∧ hpN r = hpN h ∧ hpS r = hpS h) := by
    refine lp_up (b := fun s => b_M_settle_23 y s.1 s.2) (fun j s => s.1 = nI j ∧ MOK s.2 y A ∧ MTl s.2 A (fun _ => false) ∧ (∀ i, i < j → hpI s.2 (A 2) i = 0) ∧ hpN s.2 = hpN h ∧ hpS s.2 = hpS h) _ 4 (by decide) ⟨rfl, M1, T1, fun i hi => absurd hi (Nat.not_lt_zero _), q1, q2⟩ (fun j s hj hs => Or.inl ?_) (fun s hs => ⟨s.2, ?_, ?_⟩)
    · obtain ⟨a, r⟩ := s
      obtain ⟨b1, b2, b6, b3, b4, b5⟩ := hs
      dsimp only at b1 b2 b6 b3 b4 b5
      subst b1
      refine ⟨(nI (j + 1), wI r (A 2) j 0), ?_, rfl, b2, fun i hi => ?_, fun i hi => ?_, b4, b5⟩
      · show b_M_settle_23 y (nI j) r = _
        unfold b_M_settle_23
        simp (disch := omega) only [gd_T, dr_S, nm_v, cl_S, cv_S, bd_S, lk_L, lk_R, zbw_b, isK_e, isPg_3, isPg_4, isPg_6, asV_n, beq_self_eq_true, inb_N, inb_0, le_T, le_F, lt_T, lt_F, eq_F, le_0T, lt_0F, le_0F, eq_0F, nI_1, nI_add, pk_mul, nI_clamp, cl_0, if_true, if_false, of_nI, T_wI, L_wI, R_wI, N_wI, S_wI, T_wR, L_wR, I_wR, N_wR, S_wR, I_same, R_same, I_wIn, I_wIk, R_wRn, R_wRk, T_nwo, T_nwn, L_nwo, L_nwn, I_nwo, I_nwn, R_nwo, R_nwn, N_nw, S_nw, nar_1, nar_0, nar_01, b01_t0, b01_f0, b01_t1, b01_f1, ne_sn, eq_sn, sn_inj, b2.1, b2.a2.1, b2.a2.2.1, b2.a2.2.2.1]
      · dsimp only
        rw [I_wIn n12]; exact b6 i hi
      · dsimp only
        by_cases e : i = j
        · rw [e, I_same]
        · rw [I_wIk e]; exact b3 i (by omega)
    · obtain ⟨a, r⟩ := s
      obtain ⟨b1, b2, b6, b3, b4, b5⟩ := hs
      dsimp only at b1
      subst b1
      show b_M_settle_23 y (nI 4) r = _
      unfold b_M_settle_23
      simp (disch := omega) only [gd_T, dr_S, nm_v, cl_S, cv_S, bd_S, lk_L, lk_R, zbw_b, isK_e, isPg_3, isPg_4, isPg_6, asV_n, beq_self_eq_true, inb_N, inb_0, le_T, le_F, lt_T, lt_F, eq_F, le_0T, lt_0F, le_0F, eq_0F, nI_1, nI_add, pk_mul, nI_clamp, cl_0, if_true, if_false, of_nI, T_wI, L_wI, R_wI, N_wI, S_wI, T_wR, L_wR, I_wR, N_wR, S_wR, I_same, R_same, I_wIn, I_wIk, R_wRn, R_wRk, T_nwo, T_nwn, L_nwo, L_nwn, I_nwo, I_nwn, R_nwo, R_nwn, N_nw, S_nw, nar_1, nar_0, nar_01, b01_t0, b01_f0, b01_t1, b01_f1, ne_sn, eq_sn, sn_inj]
    · exact ⟨hs.2.1, hs.2.2.1, fun i hi => hs.2.2.2.1 i hi, hs.2.2.2.2⟩
  obtain ⟨r2, e2, M2, T2, T3, q3, q4⟩ := two
  refine ⟨r2, ?_, M2, T2, T3, q3, q4⟩
  unfold f_M_settle
  simp (disch := omega) only [gd_T, dr_S, nm_v, cl_S, cv_S, bd_S, lk_L, lk_R, zbw_b, isK_e, isPg_3, isPg_4, isPg_6, asV_n, beq_self_eq_true, inb_N, inb_0, le_T, le_F, lt_T, lt_F, eq_F, le_0T, lt_0F, le_0F, eq_0F, nI_1, nI_add, pk_mul, nI_clamp, cl_0, if_true, if_false, of_nI, T_wI, L_wI, R_wI, N_wI, S_wI, T_wR, L_wR, I_wR, N_wR, S_wR, I_same, R_same, I_wIn, I_wIk, R_wRn, R_wRk, T_nwo, T_nwn, L_nwo, L_nwn, I_nwo, I_nwn, R_nwo, R_nwn, N_nw, S_nw, nar_1, nar_0, nar_01, b01_t0, b01_f0, b01_t1, b01_f1, ne_sn, eq_sn, sn_inj, e1, e2]

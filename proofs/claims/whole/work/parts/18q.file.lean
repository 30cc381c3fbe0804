/-! THE CLASS'S FILE -/
def cT : Ct := ((fun _ => 0, fun _ _ => 0), fun _ => 0, 0, 0, 0, 0, fun _ => 0)
/-- a chunk's object: its id, its first block, its array of pages -/
def KO (h : Hp) (k ar id fs np : Nat) : Prop := hpT h k = 2 ∧ k < hpN h ∧ hpI h k 0 = nI id ∧ hpI h k 1 = nI fs ∧ hpR h k 2 = some ar ∧ hpT h ar = 103 ∧ hpL h ar = np ∧ ar < hpN h
theorem blocks_for {np : Nat} (h2 : np < 1000) (h : Hp) : f_X_blocksFor (nI np) h = some (nI ((np + 1) / 2), h) := by
  unfold f_X_blocksFor
  rw [nI_add, show nI (np + 2) - 1 = nI (np + 1) from nI_pred (np + 1), pk_div (by omega) (by decide) (by decide)]
theorem k_blocks {h : Hp} {k ar id fs np : Nat} (K : KO h k ar id fs np) (h2 : np < 1000) : f_K_blockCount k h = some (nI ((np + 1) / 2), h) := by
  obtain ⟨k1, k2, k3, k4, k5, k6, k7, k8⟩ := K
  unfold f_K_blockCount
  simp (disch := omega) only [gd_T, dr_S, nm_v, cl_S, cv_S, bd_S, lk_L, lk_R, zbw_b, isK_e, isPg_3, isPg_4, isPg_6, asV_n, beq_self_eq_true, inb_N, inb_0, le_T, le_F, lt_T, lt_F, eq_F, le_0T, lt_0F, le_0F, eq_0F, nI_1, nI_add, pk_mul, nI_clamp, cl_0, if_true, if_false, of_nI, T_wI, L_wI, R_wI, N_wI, S_wI, T_wR, L_wR, I_wR, N_wR, S_wR, I_same, R_same, I_wIn, I_wIk, R_wRn, R_wRk, T_nwo, T_nwn, L_nwo, L_nwn, I_nwo, I_nwn, R_nwo, R_nwn, N_nw, S_nw, nar_1, nar_0, nar_01, b01_t0, b01_f0, b01_t1, b01_f1, ne_sn, eq_sn, sn_inj, k1, k5, k6, k7, blocks_for]
/-- the file: contents and settled by addresses, what is free, what is pending -/
def FR (h : Hp) (F c0 c1 c2 c3 c4 : Nat) (cc cs : Nat → Option Nat) (free pnd : Nat → Bool) (pend : List Nat) : Prop := FO h F c0 c1 c2 c3 c4 ∧ (∀ b, b < 32 → hpR h c0 b = cc b) ∧ (∀ b, b < 32 → hpR h c1 b = cs b) ∧ Bs h c2 free ∧ Bs h c3 pnd ∧ hpI h F 5 = nI pend.length ∧ pend.length ≤ 32 ∧ ∀ i b, pend[i]? = some b → hpI h c4 i = nI b ∧ b < 32
theorem FO.nes {h : Hp} {F c0 c1 c2 c3 c4 : Nat} (O : FO h F c0 c1 c2 c3 c4) : (F ≠ c0 ∧ F ≠ c1 ∧ F ≠ c2 ∧ F ≠ c3 ∧ F ≠ c4) ∧ (c0 ≠ c1 ∧ c0 ≠ c2 ∧ c0 ≠ c3 ∧ c0 ≠ c4) ∧ (c1 ≠ c2 ∧ c1 ≠ c3 ∧ c1 ≠ c4) ∧ (c2 ≠ c3 ∧ c2 ≠ c4) ∧ c3 ≠ c4 := by
  obtain ⟨o1, o2, ⟨-, o3, -⟩, ⟨-, o4, -⟩, ⟨-, o5, -⟩, ⟨-, o6, -⟩, ⟨-, o7, -⟩⟩ := O
  refine ⟨⟨?_, ?_, ?_, ?_, ?_⟩, ⟨?_, ?_, ?_, ?_⟩, ⟨?_, ?_, ?_⟩, ⟨?_, ?_⟩, ?_⟩ <;> exact ne_T (h := h) (by simp only [o1, o3, o4, o5, o6, o7]; decide)
def ups {α : Type} (f : Nat → α) (a n : Nat) (v : Nat → α) : Nat → α := fun b => if a ≤ b ∧ b < a + n then v b else f b
theorem ups_0 {α : Type} (f : Nat → α) (a : Nat) (v : Nat → α) : ups f a 0 v = f := by
  funext b
  exact if_neg (by omega)
theorem ups_s {α : Type} (f : Nat → α) (a n : Nat) (v : Nat → α) : ups f a (n + 1) v = va_up (ups f a n v) (a + n) (v (a + n)) := by
  funext b
  unfold ups va_up
  by_cases e : b = a + n
  · rw [if_pos e, if_pos (by omega), e]
  · rw [if_neg e]
    dsimp only
    by_cases q : a ≤ b ∧ b < a + n
    · rw [if_pos q, if_pos (by omega)]
    · rw [if_neg q, if_neg (by omega)]
theorem FR.put {h : Hp} {F c0 c1 c2 c3 c4 : Nat} {cc cs : Nat → Option Nat} {free pnd : Nat → Bool} {pend : List Nat} (R : FR h F c0 c1 c2 c3 c4 cc cs free pnd pend) {b k : Nat} (hb : b < 32) (hp : pend.length < 32) :
    FR (wI (wI (wI (wI (wR h c0 b (some k)) c2 b 0) c3 b 1) c4 pend.length (nI b)) F 5 (nI (pend.length + 1))) F c0 c1 c2 c3 c4 (va_up cc b (some k)) cs (va_up free b false) (va_up pnd b true) (pend ++ [b]) := by
  obtain ⟨O, r1, r2, r3, r4, r5, r6, r7⟩ := R
  obtain ⟨⟨f0, f1, f2, f3, f4⟩, ⟨n01, n02, n03, n04⟩, ⟨n12, n13, n14⟩, ⟨n23, n24⟩, n34⟩ := O.nes
  obtain ⟨o1, o2, ⟨p0, p1, p2, p3⟩, ⟨p4, p5, p6, p7⟩, ⟨p8, p9, p10, p11⟩, ⟨p12, p13, p14, p15⟩, ⟨p16, p17, p18, p19⟩⟩ := O
  refine ⟨⟨o1, o2, ⟨?_, p1, p2, p3⟩, ⟨?_, p5, p6, p7⟩, ⟨?_, p9, p10, p11⟩, ⟨?_, p13, p14, p15⟩, ⟨?_, p17, p18, p19⟩⟩, fun i hi => ?_, fun i hi => ?_, fun i hi => ?_, fun i hi => ?_, ?_, by rw [List.length_append]; simp only [List.length_cons, List.length_nil]; omega, fun i x hx => ?_⟩
  · simp (disch := omega) only [gd_T, dr_S, nm_v, cl_S, cv_S, bd_S, lk_L, lk_R, zbw_b, isK_e, isPg_3, isPg_4, isPg_6, asV_n, beq_self_eq_true, inb_N, inb_0, le_T, le_F, lt_T, lt_F, eq_F, le_0T, lt_0F, le_0F, eq_0F, nI_1, nI_add, pk_mul, nI_clamp, cl_0, if_true, if_false, of_nI, T_wI, L_wI, R_wI, N_wI, S_wI, T_wR, L_wR, I_wR, N_wR, S_wR, I_same, R_same, I_wIn, I_wIk, R_wRn, R_wRk, T_nwo, T_nwn, L_nwo, L_nwn, I_nwo, I_nwn, R_nwo, R_nwn, N_nw, S_nw, nar_1, nar_0, nar_01, b01_t0, b01_f0, b01_t1, b01_f1, ne_sn, eq_sn, sn_inj, p0]
  · simp (disch := omega) only [gd_T, dr_S, nm_v, cl_S, cv_S, bd_S, lk_L, lk_R, zbw_b, isK_e, isPg_3, isPg_4, isPg_6, asV_n, beq_self_eq_true, inb_N, inb_0, le_T, le_F, lt_T, lt_F, eq_F, le_0T, lt_0F, le_0F, eq_0F, nI_1, nI_add, pk_mul, nI_clamp, cl_0, if_true, if_false, of_nI, T_wI, L_wI, R_wI, N_wI, S_wI, T_wR, L_wR, I_wR, N_wR, S_wR, I_same, R_same, I_wIn, I_wIk, R_wRn, R_wRk, T_nwo, T_nwn, L_nwo, L_nwn, I_nwo, I_nwn, R_nwo, R_nwn, N_nw, S_nw, nar_1, nar_0, nar_01, b01_t0, b01_f0, b01_t1, b01_f1, ne_sn, eq_sn, sn_inj, p4]
  · simp (disch := omega) only [gd_T, dr_S, nm_v, cl_S, cv_S, bd_S, lk_L, lk_R, zbw_b, isK_e, isPg_3, isPg_4, isPg_6, asV_n, beq_self_eq_true, inb_N, inb_0, le_T, le_F, lt_T, lt_F, eq_F, le_0T, lt_0F, le_0F, eq_0F, nI_1, nI_add, pk_mul, nI_clamp, cl_0, if_true, if_false, of_nI, T_wI, L_wI, R_wI, N_wI, S_wI, T_wR, L_wR, I_wR, N_wR, S_wR, I_same, R_same, I_wIn, I_wIk, R_wRn, R_wRk, T_nwo, T_nwn, L_nwo, L_nwn, I_nwo, I_nwn, R_nwo, R_nwn, N_nw, S_nw, nar_1, nar_0, nar_01, b01_t0, b01_f0, b01_t1, b01_f1, ne_sn, eq_sn, sn_inj, p8]
  · simp (disch := omega) only [gd_T, dr_S, nm_v, cl_S, cv_S, bd_S, lk_L, lk_R, zbw_b, isK_e, isPg_3, isPg_4, isPg_6, asV_n, beq_self_eq_true, inb_N, inb_0, le_T, le_F, lt_T, lt_F, eq_F, le_0T, lt_0F, le_0F, eq_0F, nI_1, nI_add, pk_mul, nI_clamp, cl_0, if_true, if_false, of_nI, T_wI, L_wI, R_wI, N_wI, S_wI, T_wR, L_wR, I_wR, N_wR, S_wR, I_same, R_same, I_wIn, I_wIk, R_wRn, R_wRk, T_nwo, T_nwn, L_nwo, L_nwn, I_nwo, I_nwn, R_nwo, R_nwn, N_nw, S_nw, nar_1, nar_0, nar_01, b01_t0, b01_f0, b01_t1, b01_f1, ne_sn, eq_sn, sn_inj, p12]
  · simp (disch := omega) only [gd_T, dr_S, nm_v, cl_S, cv_S, bd_S, lk_L, lk_R, zbw_b, isK_e, isPg_3, isPg_4, isPg_6, asV_n, beq_self_eq_true, inb_N, inb_0, le_T, le_F, lt_T, lt_F, eq_F, le_0T, lt_0F, le_0F, eq_0F, nI_1, nI_add, pk_mul, nI_clamp, cl_0, if_true, if_false, of_nI, T_wI, L_wI, R_wI, N_wI, S_wI, T_wR, L_wR, I_wR, N_wR, S_wR, I_same, R_same, I_wIn, I_wIk, R_wRn, R_wRk, T_nwo, T_nwn, L_nwo, L_nwn, I_nwo, I_nwn, R_nwo, R_nwn, N_nw, S_nw, nar_1, nar_0, nar_01, b01_t0, b01_f0, b01_t1, b01_f1, ne_sn, eq_sn, sn_inj, p16]
  · unfold va_up
    by_cases e : i = b
    · subst e; simp (disch := omega) only [gd_T, dr_S, nm_v, cl_S, cv_S, bd_S, lk_L, lk_R, zbw_b, isK_e, isPg_3, isPg_4, isPg_6, asV_n, beq_self_eq_true, inb_N, inb_0, le_T, le_F, lt_T, lt_F, eq_F, le_0T, lt_0F, le_0F, eq_0F, nI_1, nI_add, pk_mul, nI_clamp, cl_0, if_true, if_false, of_nI, T_wI, L_wI, R_wI, N_wI, S_wI, T_wR, L_wR, I_wR, N_wR, S_wR, I_same, R_same, I_wIn, I_wIk, R_wRn, R_wRk, T_nwo, T_nwn, L_nwo, L_nwn, I_nwo, I_nwn, R_nwo, R_nwn, N_nw, S_nw, nar_1, nar_0, nar_01, b01_t0, b01_f0, b01_t1, b01_f1, ne_sn, eq_sn, sn_inj]
    · simp (disch := omega) only [gd_T, dr_S, nm_v, cl_S, cv_S, bd_S, lk_L, lk_R, zbw_b, isK_e, isPg_3, isPg_4, isPg_6, asV_n, beq_self_eq_true, inb_N, inb_0, le_T, le_F, lt_T, lt_F, eq_F, le_0T, lt_0F, le_0F, eq_0F, nI_1, nI_add, pk_mul, nI_clamp, cl_0, if_true, if_false, of_nI, T_wI, L_wI, R_wI, N_wI, S_wI, T_wR, L_wR, I_wR, N_wR, S_wR, I_same, R_same, I_wIn, I_wIk, R_wRn, R_wRk, T_nwo, T_nwn, L_nwo, L_nwn, I_nwo, I_nwn, R_nwo, R_nwn, N_nw, S_nw, nar_1, nar_0, nar_01, b01_t0, b01_f0, b01_t1, b01_f1, ne_sn, eq_sn, sn_inj, e]; exact r1 i hi
  · simp (disch := omega) only [gd_T, dr_S, nm_v, cl_S, cv_S, bd_S, lk_L, lk_R, zbw_b, isK_e, isPg_3, isPg_4, isPg_6, asV_n, beq_self_eq_true, inb_N, inb_0, le_T, le_F, lt_T, lt_F, eq_F, le_0T, lt_0F, le_0F, eq_0F, nI_1, nI_add, pk_mul, nI_clamp, cl_0, if_true, if_false, of_nI, T_wI, L_wI, R_wI, N_wI, S_wI, T_wR, L_wR, I_wR, N_wR, S_wR, I_same, R_same, I_wIn, I_wIk, R_wRn, R_wRk, T_nwo, T_nwn, L_nwo, L_nwn, I_nwo, I_nwn, R_nwo, R_nwn, N_nw, S_nw, nar_1, nar_0, nar_01, b01_t0, b01_f0, b01_t1, b01_f1, ne_sn, eq_sn, sn_inj]; exact r2 i hi
  · unfold va_up
    by_cases e : i = b
    · subst e; simp (disch := omega) only [gd_T, dr_S, nm_v, cl_S, cv_S, bd_S, lk_L, lk_R, zbw_b, isK_e, isPg_3, isPg_4, isPg_6, asV_n, beq_self_eq_true, inb_N, inb_0, le_T, le_F, lt_T, lt_F, eq_F, le_0T, lt_0F, le_0F, eq_0F, nI_1, nI_add, pk_mul, nI_clamp, cl_0, if_true, if_false, of_nI, T_wI, L_wI, R_wI, N_wI, S_wI, T_wR, L_wR, I_wR, N_wR, S_wR, I_same, R_same, I_wIn, I_wIk, R_wRn, R_wRk, T_nwo, T_nwn, L_nwo, L_nwn, I_nwo, I_nwn, R_nwo, R_nwn, N_nw, S_nw, nar_1, nar_0, nar_01, b01_t0, b01_f0, b01_t1, b01_f1, ne_sn, eq_sn, sn_inj]; rfl
    · simp (disch := omega) only [gd_T, dr_S, nm_v, cl_S, cv_S, bd_S, lk_L, lk_R, zbw_b, isK_e, isPg_3, isPg_4, isPg_6, asV_n, beq_self_eq_true, inb_N, inb_0, le_T, le_F, lt_T, lt_F, eq_F, le_0T, lt_0F, le_0F, eq_0F, nI_1, nI_add, pk_mul, nI_clamp, cl_0, if_true, if_false, of_nI, T_wI, L_wI, R_wI, N_wI, S_wI, T_wR, L_wR, I_wR, N_wR, S_wR, I_same, R_same, I_wIn, I_wIk, R_wRn, R_wRk, T_nwo, T_nwn, L_nwo, L_nwn, I_nwo, I_nwn, R_nwo, R_nwn, N_nw, S_nw, nar_1, nar_0, nar_01, b01_t0, b01_f0, b01_t1, b01_f1, ne_sn, eq_sn, sn_inj, e]; exact r3 i hi
  · unfold va_up
    by_cases e : i = b
    · subst e; simp (disch := omega) only [gd_T, dr_S, nm_v, cl_S, cv_S, bd_S, lk_L, lk_R, zbw_b, isK_e, isPg_3, isPg_4, isPg_6, asV_n, beq_self_eq_true, inb_N, inb_0, le_T, le_F, lt_T, lt_F, eq_F, le_0T, lt_0F, le_0F, eq_0F, nI_1, nI_add, pk_mul, nI_clamp, cl_0, if_true, if_false, of_nI, T_wI, L_wI, R_wI, N_wI, S_wI, T_wR, L_wR, I_wR, N_wR, S_wR, I_same, R_same, I_wIn, I_wIk, R_wRn, R_wRk, T_nwo, T_nwn, L_nwo, L_nwn, I_nwo, I_nwn, R_nwo, R_nwn, N_nw, S_nw, nar_1, nar_0, nar_01, b01_t0, b01_f0, b01_t1, b01_f1, ne_sn, eq_sn, sn_inj]; rfl
    · simp (disch := omega) only [gd_T, dr_S, nm_v, cl_S, cv_S, bd_S, lk_L, lk_R, zbw_b, isK_e, isPg_3, isPg_4, isPg_6, asV_n, beq_self_eq_true, inb_N, inb_0, le_T, le_F, lt_T, lt_F, eq_F, le_0T, lt_0F, le_0F, eq_0F, nI_1, nI_add, pk_mul, nI_clamp, cl_0, if_true, if_false, of_nI, T_wI, L_wI, R_wI, N_wI, S_wI, T_wR, L_wR, I_wR, N_wR, S_wR, I_same, R_same, I_wIn, I_wIk, R_wRn, R_wRk, T_nwo, T_nwn, L_nwo, L_nwn, I_nwo, I_nwn, R_nwo, R_nwn, N_nw, S_nw, nar_1, nar_0, nar_01, b01_t0, b01_f0, b01_t1, b01_f1, ne_sn, eq_sn, sn_inj, e]; exact r4 i hi
  · simp (disch := omega) only [gd_T, dr_S, nm_v, cl_S, cv_S, bd_S, lk_L, lk_R, zbw_b, isK_e, isPg_3, isPg_4, isPg_6, asV_n, beq_self_eq_true, inb_N, inb_0, le_T, le_F, lt_T, lt_F, eq_F, le_0T, lt_0F, le_0F, eq_0F, nI_1, nI_add, pk_mul, nI_clamp, cl_0, if_true, if_false, of_nI, T_wI, L_wI, R_wI, N_wI, S_wI, T_wR, L_wR, I_wR, N_wR, S_wR, I_same, R_same, I_wIn, I_wIk, R_wRn, R_wRk, T_nwo, T_nwn, L_nwo, L_nwn, I_nwo, I_nwn, R_nwo, R_nwn, N_nw, S_nw, nar_1, nar_0, nar_01, b01_t0, b01_f0, b01_t1, b01_f1, ne_sn, eq_sn, sn_inj, List.length_append, List.length_cons, List.length_nil]
  · by_cases e : i < pend.length
    · rw [List.getElem?_append_left e] at hx
      have := r7 i x hx
      simp (disch := omega) only [gd_T, dr_S, nm_v, cl_S, cv_S, bd_S, lk_L, lk_R, zbw_b, isK_e, isPg_3, isPg_4, isPg_6, asV_n, beq_self_eq_true, inb_N, inb_0, le_T, le_F, lt_T, lt_F, eq_F, le_0T, lt_0F, le_0F, eq_0F, nI_1, nI_add, pk_mul, nI_clamp, cl_0, if_true, if_false, of_nI, T_wI, L_wI, R_wI, N_wI, S_wI, T_wR, L_wR, I_wR, N_wR, S_wR, I_same, R_same, I_wIn, I_wIk, R_wRn, R_wRk, T_nwo, T_nwn, L_nwo, L_nwn, I_nwo, I_nwn, R_nwo, R_nwn, N_nw, S_nw, nar_1, nar_0, nar_01, b01_t0, b01_f0, b01_t1, b01_f1, ne_sn, eq_sn, sn_inj]
      exact this
    · rw [List.getElem?_append_right (by omega)] at hx
      have : i = pend.length := by
        rcases Nat.lt_or_ge (i - pend.length) 1 with z | z
        · omega
        · rw [List.getElem?_eq_none (by simpa using z)] at hx; cases hx
      subst this
      rw [Nat.sub_self] at hx
      cases hx
      simp (disch := omega) only [gd_T, dr_S, nm_v, cl_S, cv_S, bd_S, lk_L, lk_R, zbw_b, isK_e, isPg_3, isPg_4, isPg_6, asV_n, beq_self_eq_true, inb_N, inb_0, le_T, le_F, lt_T, lt_F, eq_F, le_0T, lt_0F, le_0F, eq_0F, nI_1, nI_add, pk_mul, nI_clamp, cl_0, if_true, if_false, of_nI, T_wI, L_wI, R_wI, N_wI, S_wI, T_wR, L_wR, I_wR, N_wR, S_wR, I_same, R_same, I_wIn, I_wIk, R_wRn, R_wRk, T_nwo, T_nwn, L_nwo, L_nwn, I_nwo, I_nwn, R_nwo, R_nwn, N_nw, S_nw, nar_1, nar_0, nar_01, b01_t0, b01_f0, b01_t1, b01_f1, ne_sn, eq_sn, sn_inj]
      exact ⟨trivial, hb⟩
theorem x_write {h : Hp} {F c0 c1 c2 c3 c4 k ar id fs np : Nat} {cc cs : Nat → Option Nat} {free pnd : Nat → Bool} {pend : List Nat} (R : FR h F c0 c1 c2 c3 c4 cc cs free pnd pend) (K : KO h k ar id fs np) (hf : fs + (np + 1) / 2 ≤ 32) (hp : pend.length + (np + 1) / 2 ≤ 32) :
    ∃ h', f_F_write F (some k) h = some h' ∧ FR h' F c0 c1 c2 c3 c4 (ups cc fs ((np + 1) / 2) (fun _ => some k)) cs (ups free fs ((np + 1) / 2) (fun _ => false)) (ups pnd fs ((np + 1) / 2) (fun _ => true)) (pend ++ (List.range ((np + 1) / 2)).map (fs + ·)) ∧ hpN h' = hpN h ∧ hpS h' = hpS h := by
  obtain ⟨n, hn⟩ : ∃ n, n = (np + 1) / 2 := ⟨_, rfl⟩
  rw [← hn] at hf hp ⊢
  have key : ∃ r, l_F_write_2 F (some k) ((0 : Int32), h) = some r ∧ (FR r F c0 c1 c2 c3 c4 (ups cc fs n (fun _ => some k)) cs (ups free fs n (fun _ => false)) (ups pnd fs n (fun _ => true)) (pend ++ (List.range n).map (fs + ·)) ∧ hpN r = hpN h ∧ hpS r = hpS h) := by
    refine lp_up (b := fun s => b_F_write_2 F (some k) s.1 s.2) (fun j s => s.1 = nI j ∧ KO s.2 k ar id fs np ∧ FR s.2 F c0 c1 c2 c3 c4 (ups cc fs j (fun _ => some k)) cs (ups free fs j (fun _ => false)) (ups pnd fs j (fun _ => true)) (pend ++ (List.range j).map (fs + ·)) ∧ hpN s.2 = hpN h ∧ hpS s.2 = hpS h) _ n (by omega) ⟨rfl, K, by rw [ups_0, ups_0, ups_0]; simpa using R, rfl, rfl⟩ (fun j s hj hs => Or.inl ?_) (fun s hs => ⟨s.2, ?_, hs.2.2⟩)
    · obtain ⟨a, r⟩ := s
      obtain ⟨b1, b2, b3, b4, b5⟩ := hs
      dsimp only at b1 b2 b3 b4 b5
      subst b1
      have hl : (pend ++ (List.range j).map (fs + ·)).length = pend.length + j := by simp
      have P := b3.put (b := fs + j) (k := k) (by omega) (by rw [hl]; omega)
      rw [← ups_s cc fs j (fun _ => some k), ← ups_s free fs j (fun _ => false), ← ups_s pnd fs j (fun _ => true), show pend ++ (List.range j).map (fs + ·) ++ [fs + j] = pend ++ (List.range (j + 1)).map (fs + ·) by rw [List.range_succ, List.map_append, List.append_assoc]; rfl] at P
      obtain ⟨O, r1, r2, r3, r4, r5, r6, r7⟩ := b3
      obtain ⟨⟨f0, f1, f2, f3, f4⟩, ⟨n01, n02, n03, n04⟩, ⟨n12, n13, n14⟩, ⟨n23, n24⟩, n34⟩ := O.nes
      obtain ⟨o1, o2, ⟨p0, p1, p2, p3⟩, ⟨p4, p5, p6, p7⟩, ⟨p8, p9, p10, p11⟩, ⟨p12, p13, p14, p15⟩, ⟨p16, p17, p18, p19⟩⟩ := O
      have kb := k_blocks b2 (by omega)
      rw [← hn] at kb
      obtain ⟨k1, k2, k3, k4, k5, k6, k7, k8⟩ := b2
      have hk0 : k ≠ c0 := ne_T (h := r) (by rw [k1, p1]; decide)
      have hk2 : k ≠ c2 := ne_T (h := r) (by rw [k1, p9]; decide)
      have hk3 : k ≠ c3 := ne_T (h := r) (by rw [k1, p13]; decide)
      have hk4 : k ≠ c4 := ne_T (h := r) (by rw [k1, p17]; decide)
      have hkF : k ≠ F := ne_T (h := r) (by rw [k1, o1]; decide)
      have as : asV r (some k) c0 = true := by show asK (hpT r k) (aty (hpT r c0)) = true; rw [k1, p1]; rfl
      rw [hl] at P r5
      refine ⟨(nI (j + 1), wI (wI (wI (wI (wR r c0 (fs + j) (some k)) c2 (fs + j) 0) c3 (fs + j) 1) c4 (pend.length + j) (nI (fs + j))) F 5 (nI (pend.length + j + 1))), ?_, rfl, ?_, P, b4, b5⟩
      · show b_F_write_2 F (some k) (nI j) r = _
        unfold b_F_write_2
        simp (disch := omega) only [gd_T, dr_S, nm_v, cl_S, cv_S, bd_S, lk_L, lk_R, zbw_b, isK_e, isPg_3, isPg_4, isPg_6, asV_n, beq_self_eq_true, inb_N, inb_0, le_T, le_F, lt_T, lt_F, eq_F, le_0T, lt_0F, le_0F, eq_0F, nI_1, nI_add, pk_mul, nI_clamp, cl_0, if_true, if_false, of_nI, T_wI, L_wI, R_wI, N_wI, S_wI, T_wR, L_wR, I_wR, N_wR, S_wR, I_same, R_same, I_wIn, I_wIk, R_wRn, R_wRk, T_nwo, T_nwn, L_nwo, L_nwn, I_nwo, I_nwn, R_nwo, R_nwn, N_nw, S_nw, nar_1, nar_0, nar_01, b01_t0, b01_f0, b01_t1, b01_f1, ne_sn, eq_sn, sn_inj, k1, kb, k4, o1, p0, p1, p2, as, p8, p9, p10, p12, p13, p14, p16, p17, p18, r5]
      · refine ⟨k1, k2, ?_, ?_, ?_, k6, k7, k8⟩
        · simp (disch := omega) only [gd_T, dr_S, nm_v, cl_S, cv_S, bd_S, lk_L, lk_R, zbw_b, isK_e, isPg_3, isPg_4, isPg_6, asV_n, beq_self_eq_true, inb_N, inb_0, le_T, le_F, lt_T, lt_F, eq_F, le_0T, lt_0F, le_0F, eq_0F, nI_1, nI_add, pk_mul, nI_clamp, cl_0, if_true, if_false, of_nI, T_wI, L_wI, R_wI, N_wI, S_wI, T_wR, L_wR, I_wR, N_wR, S_wR, I_same, R_same, I_wIn, I_wIk, R_wRn, R_wRk, T_nwo, T_nwn, L_nwo, L_nwn, I_nwo, I_nwn, R_nwo, R_nwn, N_nw, S_nw, nar_1, nar_0, nar_01, b01_t0, b01_f0, b01_t1, b01_f1, ne_sn, eq_sn, sn_inj]; exact k3
        · simp (disch := omega) only [gd_T, dr_S, nm_v, cl_S, cv_S, bd_S, lk_L, lk_R, zbw_b, isK_e, isPg_3, isPg_4, isPg_6, asV_n, beq_self_eq_true, inb_N, inb_0, le_T, le_F, lt_T, lt_F, eq_F, le_0T, lt_0F, le_0F, eq_0F, nI_1, nI_add, pk_mul, nI_clamp, cl_0, if_true, if_false, of_nI, T_wI, L_wI, R_wI, N_wI, S_wI, T_wR, L_wR, I_wR, N_wR, S_wR, I_same, R_same, I_wIn, I_wIk, R_wRn, R_wRk, T_nwo, T_nwn, L_nwo, L_nwn, I_nwo, I_nwn, R_nwo, R_nwn, N_nw, S_nw, nar_1, nar_0, nar_01, b01_t0, b01_f0, b01_t1, b01_f1, ne_sn, eq_sn, sn_inj]; exact k4
        · simp (disch := omega) only [gd_T, dr_S, nm_v, cl_S, cv_S, bd_S, lk_L, lk_R, zbw_b, isK_e, isPg_3, isPg_4, isPg_6, asV_n, beq_self_eq_true, inb_N, inb_0, le_T, le_F, lt_T, lt_F, eq_F, le_0T, lt_0F, le_0F, eq_0F, nI_1, nI_add, pk_mul, nI_clamp, cl_0, if_true, if_false, of_nI, T_wI, L_wI, R_wI, N_wI, S_wI, T_wR, L_wR, I_wR, N_wR, S_wR, I_same, R_same, I_wIn, I_wIk, R_wRn, R_wRk, T_nwo, T_nwn, L_nwo, L_nwn, I_nwo, I_nwn, R_nwo, R_nwn, N_nw, S_nw, nar_1, nar_0, nar_01, b01_t0, b01_f0, b01_t1, b01_f1, ne_sn, eq_sn, sn_inj]; exact k5
    · obtain ⟨a, r⟩ := s
      obtain ⟨b1, b2, b3, b4, b5⟩ := hs
      dsimp only at b1 b2
      subst b1
      show b_F_write_2 F (some k) (nI n) r = _
      unfold b_F_write_2
      have kb := k_blocks b2 (by omega)
      rw [← hn] at kb
      simp (disch := omega) only [gd_T, dr_S, nm_v, cl_S, cv_S, bd_S, lk_L, lk_R, zbw_b, isK_e, isPg_3, isPg_4, isPg_6, asV_n, beq_self_eq_true, inb_N, inb_0, le_T, le_F, lt_T, lt_F, eq_F, le_0T, lt_0F, le_0F, eq_0F, nI_1, nI_add, pk_mul, nI_clamp, cl_0, if_true, if_false, of_nI, T_wI, L_wI, R_wI, N_wI, S_wI, T_wR, L_wR, I_wR, N_wR, S_wR, I_same, R_same, I_wIn, I_wIk, R_wRn, R_wRk, T_nwo, T_nwn, L_nwo, L_nwn, I_nwo, I_nwn, R_nwo, R_nwn, N_nw, S_nw, nar_1, nar_0, nar_01, b01_t0, b01_f0, b01_t1, b01_f1, ne_sn, eq_sn, sn_inj, b2.1, kb]
  obtain ⟨r, e, q⟩ := key
  refine ⟨r, ?_, q⟩
  unfold f_F_write
  simp (disch := omega) only [gd_T, dr_S, nm_v, cl_S, cv_S, bd_S, lk_L, lk_R, zbw_b, isK_e, isPg_3, isPg_4, isPg_6, asV_n, beq_self_eq_true, inb_N, inb_0, le_T, le_F, lt_T, lt_F, eq_F, le_0T, lt_0F, le_0F, eq_0F, nI_1, nI_add, pk_mul, nI_clamp, cl_0, if_true, if_false, of_nI, T_wI, L_wI, R_wI, N_wI, S_wI, T_wR, L_wR, I_wR, N_wR, S_wR, I_same, R_same, I_wIn, I_wIk, R_wRn, R_wRk, T_nwo, T_nwn, L_nwo, L_nwn, I_nwo, I_nwn, R_nwo, R_nwn, N_nw, S_nw, nar_1, nar_0, nar_01, b01_t0, b01_f0, b01_t1, b01_f1, ne_sn, eq_sn, sn_inj, e]
theorem asV_c {h : Hp} {c : Nat} {o : Option Nat} (hc : hpT h c = 68 ∨ hpT h c = 69) (ho : ∀ k, o = some k → hpT h k = 2) : asV h o c = true := by
  cases o with
  | none => rfl
  | some k =>
    show asK (hpT h k) (aty (hpT h c)) = true
    rw [ho k rfl]
    rcases hc with q | q <;> rw [q] <;> rfl
theorem mem_tk {l : List Nat} {j b x : Nat} (h : l[j]? = some b) : x ∈ l.take (j + 1) ↔ x ∈ l.take j ∨ x = b := by
  rw [take_s h, List.mem_append, List.mem_singleton]
theorem x_settle {h : Hp} {F c0 c1 c2 c3 c4 : Nat} {cc cs : Nat → Option Nat} {free : Nat → Bool} {pend : List Nat} (R : FR h F c0 c1 c2 c3 c4 cc cs free (fun b => decide (b ∈ pend)) pend) (hcc : ∀ b k, cc b = some k → hpT h k = 2) :
    ∃ h', f_F_settlePending F h = some h' ∧ FR h' F c0 c1 c2 c3 c4 cc (fun b => if b ∈ pend then cc b else cs b) free (fun b => decide (b ∈ ([] : List Nat))) [] ∧ hpN h' = hpN h ∧ hpS h' = hpS h := by
  have h60 := R.2.2.2.2.2.2.1
  have key : ∃ r, l_F_settlePending_2 F ((0 : Int32), h) = some r ∧ (FR r F c0 c1 c2 c3 c4 cc (fun b => if b ∈ pend.take pend.length then cc b else cs b) free (fun b => decide (b ∈ pend) && !decide (b ∈ pend.take pend.length)) pend ∧ (∀ b k, cc b = some k → hpT r k = 2) ∧ hpN r = hpN h ∧ hpS r = hpS h) := by
    refine lp_up (b := fun s => b_F_settlePending_2 F s.1 s.2) (fun j s => s.1 = nI j ∧ FR s.2 F c0 c1 c2 c3 c4 cc (fun b => if b ∈ pend.take j then cc b else cs b) free (fun b => decide (b ∈ pend) && !decide (b ∈ pend.take j)) pend ∧ (∀ b k, cc b = some k → hpT s.2 k = 2) ∧ hpN s.2 = hpN h ∧ hpS s.2 = hpS h) _ pend.length (by omega) ⟨rfl, ?_, hcc, rfl, rfl⟩ (fun j s hj hs => Or.inl ?_) (fun s hs => ⟨s.2, ?_, hs.2⟩)
    · obtain ⟨O, r1, r2, r3, r4, r5⟩ := R
      refine ⟨O, r1, fun b hb => ?_, r3, fun b hb => ?_, r5⟩
      · rw [r2 b hb]; dsimp only; rw [if_neg (by rw [List.take_zero]; exact List.not_mem_nil)]
      · rw [r4 b hb]; dsimp only; rw [decide_eq_false (p := b ∈ pend.take 0) (by rw [List.take_zero]; exact List.not_mem_nil)]; simp
    · obtain ⟨a, r⟩ := s
      obtain ⟨b1, b3, b6, b4, b5⟩ := hs
      dsimp only at b1 b3 b4 b5 b6
      subst b1
      obtain ⟨O, r1, r2, r3, r4, r5, r6, r7⟩ := b3
      obtain ⟨⟨f0, f1, f2, f3, f4⟩, ⟨n01, n02, n03, n04⟩, ⟨n12, n13, n14⟩, ⟨n23, n24⟩, n34⟩ := O.nes
      have O2 := O
      obtain ⟨o1, o2, ⟨p0, p1, p2, p3⟩, ⟨p4, p5, p6, p7⟩, ⟨p8, p9, p10, p11⟩, ⟨p12, p13, p14, p15⟩, ⟨p16, p17, p18, p19⟩⟩ := O
      obtain ⟨b, hb⟩ : ∃ b, pend[j]? = some b := ⟨_, List.getElem?_eq_getElem hj⟩
      obtain ⟨q1, q2⟩ := r7 j b hb
      refine ⟨(nI (j + 1), wR (wI r c3 b 0) c1 b (cc b)), ?_, rfl, ⟨⟨o1, o2, ⟨?_, p1, p2, p3⟩, ⟨?_, p5, p6, p7⟩, ⟨?_, p9, p10, p11⟩, ⟨?_, p13, p14, p15⟩, ⟨?_, p17, p18, p19⟩⟩, fun i hi => ?_, fun i hi => ?_, fun i hi => ?_, fun i hi => ?_, ?_, r6, fun i x hx => ?_⟩, b6, b4, b5⟩
      · show b_F_settlePending_2 F (nI j) r = _
        unfold b_F_settlePending_2
        have as : asV (wI r c3 b 0) (cc b) c1 = true := asV_c (Or.inr p5) (b6 b)
        simp (disch := omega) only [gd_T, dr_S, nm_v, cl_S, cv_S, bd_S, lk_L, lk_R, zbw_b, isK_e, isPg_3, isPg_4, isPg_6, asV_n, beq_self_eq_true, inb_N, inb_0, le_T, le_F, lt_T, lt_F, eq_F, le_0T, lt_0F, le_0F, eq_0F, nI_1, nI_add, pk_mul, nI_clamp, cl_0, if_true, if_false, of_nI, T_wI, L_wI, R_wI, N_wI, S_wI, T_wR, L_wR, I_wR, N_wR, S_wR, I_same, R_same, I_wIn, I_wIk, R_wRn, R_wRk, T_nwo, T_nwn, L_nwo, L_nwn, I_nwo, I_nwn, R_nwo, R_nwn, N_nw, S_nw, nar_1, nar_0, nar_01, b01_t0, b01_f0, b01_t1, b01_f1, ne_sn, eq_sn, sn_inj, o1, r5, p16, p17, p18, q1, p12, p13, p14, p0, p1, p2, p4, p5, p6, r1 b q2, as]
      · simp (disch := omega) only [gd_T, dr_S, nm_v, cl_S, cv_S, bd_S, lk_L, lk_R, zbw_b, isK_e, isPg_3, isPg_4, isPg_6, asV_n, beq_self_eq_true, inb_N, inb_0, le_T, le_F, lt_T, lt_F, eq_F, le_0T, lt_0F, le_0F, eq_0F, nI_1, nI_add, pk_mul, nI_clamp, cl_0, if_true, if_false, of_nI, T_wI, L_wI, R_wI, N_wI, S_wI, T_wR, L_wR, I_wR, N_wR, S_wR, I_same, R_same, I_wIn, I_wIk, R_wRn, R_wRk, T_nwo, T_nwn, L_nwo, L_nwn, I_nwo, I_nwn, R_nwo, R_nwn, N_nw, S_nw, nar_1, nar_0, nar_01, b01_t0, b01_f0, b01_t1, b01_f1, ne_sn, eq_sn, sn_inj, p0]
      · simp (disch := omega) only [gd_T, dr_S, nm_v, cl_S, cv_S, bd_S, lk_L, lk_R, zbw_b, isK_e, isPg_3, isPg_4, isPg_6, asV_n, beq_self_eq_true, inb_N, inb_0, le_T, le_F, lt_T, lt_F, eq_F, le_0T, lt_0F, le_0F, eq_0F, nI_1, nI_add, pk_mul, nI_clamp, cl_0, if_true, if_false, of_nI, T_wI, L_wI, R_wI, N_wI, S_wI, T_wR, L_wR, I_wR, N_wR, S_wR, I_same, R_same, I_wIn, I_wIk, R_wRn, R_wRk, T_nwo, T_nwn, L_nwo, L_nwn, I_nwo, I_nwn, R_nwo, R_nwn, N_nw, S_nw, nar_1, nar_0, nar_01, b01_t0, b01_f0, b01_t1, b01_f1, ne_sn, eq_sn, sn_inj, p4]
      · simp (disch := omega) only [gd_T, dr_S, nm_v, cl_S, cv_S, bd_S, lk_L, lk_R, zbw_b, isK_e, isPg_3, isPg_4, isPg_6, asV_n, beq_self_eq_true, inb_N, inb_0, le_T, le_F, lt_T, lt_F, eq_F, le_0T, lt_0F, le_0F, eq_0F, nI_1, nI_add, pk_mul, nI_clamp, cl_0, if_true, if_false, of_nI, T_wI, L_wI, R_wI, N_wI, S_wI, T_wR, L_wR, I_wR, N_wR, S_wR, I_same, R_same, I_wIn, I_wIk, R_wRn, R_wRk, T_nwo, T_nwn, L_nwo, L_nwn, I_nwo, I_nwn, R_nwo, R_nwn, N_nw, S_nw, nar_1, nar_0, nar_01, b01_t0, b01_f0, b01_t1, b01_f1, ne_sn, eq_sn, sn_inj, p8]
      · simp (disch := omega) only [gd_T, dr_S, nm_v, cl_S, cv_S, bd_S, lk_L, lk_R, zbw_b, isK_e, isPg_3, isPg_4, isPg_6, asV_n, beq_self_eq_true, inb_N, inb_0, le_T, le_F, lt_T, lt_F, eq_F, le_0T, lt_0F, le_0F, eq_0F, nI_1, nI_add, pk_mul, nI_clamp, cl_0, if_true, if_false, of_nI, T_wI, L_wI, R_wI, N_wI, S_wI, T_wR, L_wR, I_wR, N_wR, S_wR, I_same, R_same, I_wIn, I_wIk, R_wRn, R_wRk, T_nwo, T_nwn, L_nwo, L_nwn, I_nwo, I_nwn, R_nwo, R_nwn, N_nw, S_nw, nar_1, nar_0, nar_01, b01_t0, b01_f0, b01_t1, b01_f1, ne_sn, eq_sn, sn_inj, p12]
      · simp (disch := omega) only [gd_T, dr_S, nm_v, cl_S, cv_S, bd_S, lk_L, lk_R, zbw_b, isK_e, isPg_3, isPg_4, isPg_6, asV_n, beq_self_eq_true, inb_N, inb_0, le_T, le_F, lt_T, lt_F, eq_F, le_0T, lt_0F, le_0F, eq_0F, nI_1, nI_add, pk_mul, nI_clamp, cl_0, if_true, if_false, of_nI, T_wI, L_wI, R_wI, N_wI, S_wI, T_wR, L_wR, I_wR, N_wR, S_wR, I_same, R_same, I_wIn, I_wIk, R_wRn, R_wRk, T_nwo, T_nwn, L_nwo, L_nwn, I_nwo, I_nwn, R_nwo, R_nwn, N_nw, S_nw, nar_1, nar_0, nar_01, b01_t0, b01_f0, b01_t1, b01_f1, ne_sn, eq_sn, sn_inj, p16]
      · simp (disch := omega) only [gd_T, dr_S, nm_v, cl_S, cv_S, bd_S, lk_L, lk_R, zbw_b, isK_e, isPg_3, isPg_4, isPg_6, asV_n, beq_self_eq_true, inb_N, inb_0, le_T, le_F, lt_T, lt_F, eq_F, le_0T, lt_0F, le_0F, eq_0F, nI_1, nI_add, pk_mul, nI_clamp, cl_0, if_true, if_false, of_nI, T_wI, L_wI, R_wI, N_wI, S_wI, T_wR, L_wR, I_wR, N_wR, S_wR, I_same, R_same, I_wIn, I_wIk, R_wRn, R_wRk, T_nwo, T_nwn, L_nwo, L_nwn, I_nwo, I_nwn, R_nwo, R_nwn, N_nw, S_nw, nar_1, nar_0, nar_01, b01_t0, b01_f0, b01_t1, b01_f1, ne_sn, eq_sn, sn_inj]; exact r1 i hi
      · by_cases e : i = b
        · subst e
          simp (disch := omega) only [gd_T, dr_S, nm_v, cl_S, cv_S, bd_S, lk_L, lk_R, zbw_b, isK_e, isPg_3, isPg_4, isPg_6, asV_n, beq_self_eq_true, inb_N, inb_0, le_T, le_F, lt_T, lt_F, eq_F, le_0T, lt_0F, le_0F, eq_0F, nI_1, nI_add, pk_mul, nI_clamp, cl_0, if_true, if_false, of_nI, T_wI, L_wI, R_wI, N_wI, S_wI, T_wR, L_wR, I_wR, N_wR, S_wR, I_same, R_same, I_wIn, I_wIk, R_wRn, R_wRk, T_nwo, T_nwn, L_nwo, L_nwn, I_nwo, I_nwn, R_nwo, R_nwn, N_nw, S_nw, nar_1, nar_0, nar_01, b01_t0, b01_f0, b01_t1, b01_f1, ne_sn, eq_sn, sn_inj]
          rw [if_pos ((mem_tk hb).mpr (Or.inr rfl))]
        · simp (disch := omega) only [gd_T, dr_S, nm_v, cl_S, cv_S, bd_S, lk_L, lk_R, zbw_b, isK_e, isPg_3, isPg_4, isPg_6, asV_n, beq_self_eq_true, inb_N, inb_0, le_T, le_F, lt_T, lt_F, eq_F, le_0T, lt_0F, le_0F, eq_0F, nI_1, nI_add, pk_mul, nI_clamp, cl_0, if_true, if_false, of_nI, T_wI, L_wI, R_wI, N_wI, S_wI, T_wR, L_wR, I_wR, N_wR, S_wR, I_same, R_same, I_wIn, I_wIk, R_wRn, R_wRk, T_nwo, T_nwn, L_nwo, L_nwn, I_nwo, I_nwn, R_nwo, R_nwn, N_nw, S_nw, nar_1, nar_0, nar_01, b01_t0, b01_f0, b01_t1, b01_f1, ne_sn, eq_sn, sn_inj]
          rw [r2 i hi]
          dsimp only
          by_cases z : i ∈ pend.take j
          · rw [if_pos z, if_pos ((mem_tk hb).mpr (Or.inl z))]
          · rw [if_neg z, if_neg (fun w => ((mem_tk hb).mp w).elim z e)]
      · simp (disch := omega) only [gd_T, dr_S, nm_v, cl_S, cv_S, bd_S, lk_L, lk_R, zbw_b, isK_e, isPg_3, isPg_4, isPg_6, asV_n, beq_self_eq_true, inb_N, inb_0, le_T, le_F, lt_T, lt_F, eq_F, le_0T, lt_0F, le_0F, eq_0F, nI_1, nI_add, pk_mul, nI_clamp, cl_0, if_true, if_false, of_nI, T_wI, L_wI, R_wI, N_wI, S_wI, T_wR, L_wR, I_wR, N_wR, S_wR, I_same, R_same, I_wIn, I_wIk, R_wRn, R_wRk, T_nwo, T_nwn, L_nwo, L_nwn, I_nwo, I_nwn, R_nwo, R_nwn, N_nw, S_nw, nar_1, nar_0, nar_01, b01_t0, b01_f0, b01_t1, b01_f1, ne_sn, eq_sn, sn_inj]; exact r3 i hi
      · by_cases e : i = b
        · subst e
          simp (disch := omega) only [gd_T, dr_S, nm_v, cl_S, cv_S, bd_S, lk_L, lk_R, zbw_b, isK_e, isPg_3, isPg_4, isPg_6, asV_n, beq_self_eq_true, inb_N, inb_0, le_T, le_F, lt_T, lt_F, eq_F, le_0T, lt_0F, le_0F, eq_0F, nI_1, nI_add, pk_mul, nI_clamp, cl_0, if_true, if_false, of_nI, T_wI, L_wI, R_wI, N_wI, S_wI, T_wR, L_wR, I_wR, N_wR, S_wR, I_same, R_same, I_wIn, I_wIk, R_wRn, R_wRk, T_nwo, T_nwn, L_nwo, L_nwn, I_nwo, I_nwn, R_nwo, R_nwn, N_nw, S_nw, nar_1, nar_0, nar_01, b01_t0, b01_f0, b01_t1, b01_f1, ne_sn, eq_sn, sn_inj]
          rw [decide_eq_true ((mem_tk hb).mpr (Or.inr rfl)), Bool.not_true, Bool.and_false]; rfl
        · simp (disch := omega) only [gd_T, dr_S, nm_v, cl_S, cv_S, bd_S, lk_L, lk_R, zbw_b, isK_e, isPg_3, isPg_4, isPg_6, asV_n, beq_self_eq_true, inb_N, inb_0, le_T, le_F, lt_T, lt_F, eq_F, le_0T, lt_0F, le_0F, eq_0F, nI_1, nI_add, pk_mul, nI_clamp, cl_0, if_true, if_false, of_nI, T_wI, L_wI, R_wI, N_wI, S_wI, T_wR, L_wR, I_wR, N_wR, S_wR, I_same, R_same, I_wIn, I_wIk, R_wRn, R_wRk, T_nwo, T_nwn, L_nwo, L_nwn, I_nwo, I_nwn, R_nwo, R_nwn, N_nw, S_nw, nar_1, nar_0, nar_01, b01_t0, b01_f0, b01_t1, b01_f1, ne_sn, eq_sn, sn_inj]
          rw [r4 i hi]
          dsimp only
          by_cases z : i ∈ pend.take j
          · rw [decide_eq_true z, decide_eq_true ((mem_tk hb).mpr (Or.inl z))]
          · rw [decide_eq_false z, decide_eq_false (fun w => ((mem_tk hb).mp w).elim z e)]
      · simp (disch := omega) only [gd_T, dr_S, nm_v, cl_S, cv_S, bd_S, lk_L, lk_R, zbw_b, isK_e, isPg_3, isPg_4, isPg_6, asV_n, beq_self_eq_true, inb_N, inb_0, le_T, le_F, lt_T, lt_F, eq_F, le_0T, lt_0F, le_0F, eq_0F, nI_1, nI_add, pk_mul, nI_clamp, cl_0, if_true, if_false, of_nI, T_wI, L_wI, R_wI, N_wI, S_wI, T_wR, L_wR, I_wR, N_wR, S_wR, I_same, R_same, I_wIn, I_wIk, R_wRn, R_wRk, T_nwo, T_nwn, L_nwo, L_nwn, I_nwo, I_nwn, R_nwo, R_nwn, N_nw, S_nw, nar_1, nar_0, nar_01, b01_t0, b01_f0, b01_t1, b01_f1, ne_sn, eq_sn, sn_inj]; exact r5
      · simp (disch := omega) only [gd_T, dr_S, nm_v, cl_S, cv_S, bd_S, lk_L, lk_R, zbw_b, isK_e, isPg_3, isPg_4, isPg_6, asV_n, beq_self_eq_true, inb_N, inb_0, le_T, le_F, lt_T, lt_F, eq_F, le_0T, lt_0F, le_0F, eq_0F, nI_1, nI_add, pk_mul, nI_clamp, cl_0, if_true, if_false, of_nI, T_wI, L_wI, R_wI, N_wI, S_wI, T_wR, L_wR, I_wR, N_wR, S_wR, I_same, R_same, I_wIn, I_wIk, R_wRn, R_wRk, T_nwo, T_nwn, L_nwo, L_nwn, I_nwo, I_nwn, R_nwo, R_nwn, N_nw, S_nw, nar_1, nar_0, nar_01, b01_t0, b01_f0, b01_t1, b01_f1, ne_sn, eq_sn, sn_inj]; exact r7 i x hx
    · obtain ⟨a, r⟩ := s
      obtain ⟨b1, b3, b6, b4, b5⟩ := hs
      dsimp only at b1 b3
      subst b1
      show b_F_settlePending_2 F (nI pend.length) r = _
      unfold b_F_settlePending_2
      simp (disch := omega) only [gd_T, dr_S, nm_v, cl_S, cv_S, bd_S, lk_L, lk_R, zbw_b, isK_e, isPg_3, isPg_4, isPg_6, asV_n, beq_self_eq_true, inb_N, inb_0, le_T, le_F, lt_T, lt_F, eq_F, le_0T, lt_0F, le_0F, eq_0F, nI_1, nI_add, pk_mul, nI_clamp, cl_0, if_true, if_false, of_nI, T_wI, L_wI, R_wI, N_wI, S_wI, T_wR, L_wR, I_wR, N_wR, S_wR, I_same, R_same, I_wIn, I_wIk, R_wRn, R_wRk, T_nwo, T_nwn, L_nwo, L_nwn, I_nwo, I_nwn, R_nwo, R_nwn, N_nw, S_nw, nar_1, nar_0, nar_01, b01_t0, b01_f0, b01_t1, b01_f1, ne_sn, eq_sn, sn_inj, b3.1.1, b3.2.2.2.2.2.1]
  obtain ⟨r, e, R', q1, q2, q3⟩ := key
  obtain ⟨O, r1, r2, r3, r4, r5, r6, r7⟩ := R'
  obtain ⟨⟨f0, f1, f2, f3, f4⟩, -⟩ := O.nes
  refine ⟨wI r F 5 0, ?_, ⟨O, r1, fun b hb => ?_, fun b hb => ?_, fun b hb => ?_, ?_, Nat.zero_le _, fun i b hb => ?_⟩, q2, q3⟩
  · unfold f_F_settlePending
    simp (disch := omega) only [gd_T, dr_S, nm_v, cl_S, cv_S, bd_S, lk_L, lk_R, zbw_b, isK_e, isPg_3, isPg_4, isPg_6, asV_n, beq_self_eq_true, inb_N, inb_0, le_T, le_F, lt_T, lt_F, eq_F, le_0T, lt_0F, le_0F, eq_0F, nI_1, nI_add, pk_mul, nI_clamp, cl_0, if_true, if_false, of_nI, T_wI, L_wI, R_wI, N_wI, S_wI, T_wR, L_wR, I_wR, N_wR, S_wR, I_same, R_same, I_wIn, I_wIk, R_wRn, R_wRk, T_nwo, T_nwn, L_nwo, L_nwn, I_nwo, I_nwn, R_nwo, R_nwn, N_nw, S_nw, nar_1, nar_0, nar_01, b01_t0, b01_f0, b01_t1, b01_f1, ne_sn, eq_sn, sn_inj, e, O.1]
  · show hpR r c1 b = _
    rw [r2 b hb, List.take_length]
  · rw [I_wIn (Ne.symm f2)]; exact r3 b hb
  · rw [I_wIn (Ne.symm f3), r4 b hb, List.take_length]
    dsimp only
    by_cases z : b ∈ pend
    · rw [decide_eq_true z]; rfl
    · rw [decide_eq_false z]; rfl
  · rw [I_same]; rfl
  · simp at hb

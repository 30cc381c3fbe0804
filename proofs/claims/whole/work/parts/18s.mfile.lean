/-! the reference's file: what a step leaves as it was -/
theorem nz0 : (nI 0 = (0 : Int32)) = True := eq_true rfl
def Sm (h h' : Hp) (y : Nat) (A : Nat → Nat) (J T : List Nat) : Prop := (∀ j ∈ J, hpI h' (A j) = hpI h (A j)) ∧ ∀ k ∈ T, hpI h' y k = hpI h y k
theorem Sm.refl {h : Hp} {y : Nat} {A : Nat → Nat} {J T : List Nat} : Sm h h y A J T := ⟨fun _ _ => rfl, fun _ _ => rfl⟩
theorem Sm.trans {h h1 h2 : Hp} {y : Nat} {A : Nat → Nat} {J T : List Nat} (a : Sm h h1 y A J T) (b : Sm h1 h2 y A J T) : Sm h h2 y A J T := ⟨fun j hj => (b.1 j hj).trans (a.1 j hj), fun k hk => (b.2 k hk).trans (a.2 k hk)⟩
theorem my_I {h : Hp} {y : Nat} {A : Nat → Nat} (M : MOK h y A) {i : Nat} (hi : 66 ≤ mk i) (g : Hp) (k : Nat) (v : Int32) (z : Nat) : hpI (wI g (A i) k v) y z = hpI g y z := I_wIn (Ne.symm (M.ny hi))
theorem ym_I {h : Hp} {y : Nat} {A : Nat → Nat} (M : MOK h y A) {j : Nat} (hj : 66 ≤ mk j) (g : Hp) (k : Nat) (v : Int32) (z : Nat) : hpI (wI g y k v) (A j) z = hpI g (A j) z := I_wIn (M.ny hj)
theorem Sm.w {h : Hp} {y : Nat} {A : Nat → Nat} {J T : List Nat} (M : MOK h y A) {i : Nat} (hi : 66 ≤ mk i) (hJ : ∀ j ∈ J, 66 ≤ mk j ∧ j ≠ i) (g : Hp) (k : Nat) (v : Int32) : Sm g (wI g (A i) k v) y A J T :=
  ⟨fun j hj => funext fun z => mo_I M hi (hJ j hj).1 (hJ j hj).2 g k v z, fun _ _ => my_I M hi g k v _⟩
theorem Sm.wy {h : Hp} {y : Nat} {A : Nat → Nat} {J T : List Nat} (M : MOK h y A) {k : Nat} (hk : ∀ t ∈ T, t ≠ k) (hJ : ∀ j ∈ J, 66 ≤ mk j) (g : Hp) (v : Int32) : Sm g (wI g y k v) y A J T :=
  ⟨fun j hj => funext fun z => ym_I M (hJ j hj) g k v z, fun t ht => I_wIk (hk t ht)⟩
def nW (w : Wl) (κ : Nat) : Bool := w.1.all (fun x => !decide (x.1 = κ)) && w.2.all fun x => !decide (x = κ)
theorem nW_i {w : Wl} {κ : Nat} (h : nW w κ = true) (k : Nat) : ¬ inW w κ k := by
  unfold nW at h
  rw [Bool.and_eq_true, List.all_eq_true, List.all_eq_true] at h
  rintro (q | q)
  · have := h.1 _ q; simp at this
  · have := h.2 _ q; simp at this
def nF (w : Wl) (κ k : Nat) : Bool := w.1.all (fun x => !decide (x = (κ, k))) && w.2.all fun x => !decide (x = κ)
theorem nF_i {w : Wl} {κ k : Nat} (h : nF w κ k = true) : ¬ inW w κ k := by
  unfold nF at h
  rw [Bool.and_eq_true, List.all_eq_true, List.all_eq_true] at h
  rintro (q | q)
  · have := h.1 _ q; simp at this
  · have := h.2 _ q; simp at this
theorem Sm.k {h h' : Hp} {y : Nat} {A : Nat → Nat} {J T : List Nat} {w : Wl} (M : MOK h y A) (K : Keep w h h') (hJ : ∀ j ∈ J, 66 ≤ mk j ∧ nW w (mk j) = true) (hT : ∀ t ∈ T, nF w 8 t = true) : Sm h h' y A J T :=
  ⟨fun j hj => funext fun z => (K.2.2.2 (A j) (M.2.2 j (hJ j hj).1).2.2.2 z (by rw [(M.2.2 j (hJ j hj).1).2.1]; exact nW_i (hJ j hj).2 z)).1, fun t ht => (K.2.2.2 y M.2.1 t (by rw [M.1]; exact nF_i (hT t ht))).1⟩
theorem MOK.kw {h h' : Hp} {y : Nat} {A : Nat → Nat} {w : Wl} (M : MOK h y A) (K : Keep w h h') (hw : (List.range 34).all (fun j => decide (mk j < 66) || nF w 8 j) = true) : MOK h' y A := by
  refine M.keep K fun j hj => nF_i ?_
  have := (List.all_eq_true.mp hw) j (List.mem_range.mpr (mk_lt hj))
  rw [Bool.or_eq_true, decide_eq_true_eq] at this
  exact this.resolve_left (by omega)
/-- the blocks -/
def MF (h : Hp) (y : Nat) (A : Nat → Nat) (cont sett : Nat → Nat × Nat) (free : Nat → Bool) (pend : List Nat) : Prop := Bp h (A 13) (A 14) cont ∧ Bp h (A 15) (A 16) sett ∧ Bs h (A 18) free ∧ hpI h y 19 = nI pend.length ∧ pend.length ≤ 32 ∧ ∀ i b, pend[i]? = some b → hpI h (A 17) i = nI b ∧ b < 32
theorem MF.ext {h h' : Hp} {y : Nat} {A : Nat → Nat} {cont sett : Nat → Nat × Nat} {free : Nat → Bool} {pend : List Nat} (R : MF h y A cont sett free pend) (s : Sm h h' y A [13, 14, 15, 16, 17, 18] [19]) : MF h' y A cont sett free pend := by
  unfold MF Bp Bs at *
  rw [s.1 13 (by decide), s.1 14 (by decide), s.1 15 (by decide), s.1 16 (by decide), s.1 17 (by decide), s.1 18 (by decide), s.2 19 (by decide)]
  exact R
/-- the chunks -/
def MC (h : Hp) (y : Nat) (A : Nat → Nat) (chs : List Nat) (fs np vr : Nat → Nat) : Prop := hpI h y 25 = nI chs.length ∧ chs.length ≤ 32 ∧ ∀ i id, chs[i]? = some id → hpI h (A 20) i = nI id ∧ hpI h (A 21) i = nI (fs id) ∧ hpI h (A 22) i = nI ((np id + 1) / 2) ∧ hpI h (A 23) i = nI (np id) ∧ hpI h (A 24) i = nI (vr id)
theorem MC.ext {h h' : Hp} {y : Nat} {A : Nat → Nat} {chs : List Nat} {fs np vr : Nat → Nat} (R : MC h y A chs fs np vr) (s : Sm h h' y A [20, 21, 22, 23, 24] [25]) : MC h' y A chs fs np vr := by
  unfold MC at *
  rw [s.1 20 (by decide), s.1 21 (by decide), s.1 22 (by decide), s.1 23 (by decide), s.1 24 (by decide), s.2 25 (by decide)]
  exact R
theorem app_at {l : List Nat} {x i a : Nat} (h : (l ++ [x])[i]? = some a) : (i < l.length ∧ l[i]? = some a) ∨ (i = l.length ∧ a = x) := by
  rcases Nat.lt_or_ge i l.length with q | q
  · rw [List.getElem?_append_left q] at h; exact Or.inl ⟨q, h⟩
  · rw [List.getElem?_append_right q] at h
    rcases Nat.eq_zero_or_pos (i - l.length) with z | z
    · rw [z] at h; cases h; exact Or.inr ⟨by omega, rfl⟩
    · rw [List.getElem?_eq_none (by rw [List.length_singleton]; omega)] at h; cases h
theorem MF.put {h : Hp} {y : Nat} {A : Nat → Nat} {cont sett : Nat → Nat × Nat} {free : Nat → Bool} {pend : List Nat} {b id q : Nat} (M : MOK h y A) (R : MF h y A cont sett free pend) (hb : b < 32) (hp : pend.length < 32) (h1 : id < 2 ^ 20) (h2 : q < 2 ^ 20) :
    MF (wI (wI (wI (wI (wI h (A 18) b 0) (A 13) b (nI id)) (A 14) b (nI q)) (A 17) pend.length (nI b)) y 19 (nI (pend.length + 1))) y A (va_up cont b (id, q)) sett (va_up free b false) (pend ++ [b]) := by
  obtain ⟨r1, r2, r3, r4, r5, r6⟩ := R
  refine ⟨fun i hi => ?_, fun i hi => ?_, fun i hi => ?_, ?_, by rw [List.length_append]; simp only [List.length_cons, List.length_nil]; omega, fun i x hx => ?_⟩
  · unfold va_up
    by_cases e : i = b
    · subst e
      rw [if_pos rfl]
      simp (disch := omega) only [gd_T, dr_S, nm_v, cl_S, cv_S, bd_S, lk_L, lk_R, zbw_b, isK_e, isPg_3, isPg_4, isPg_6, asV_n, beq_self_eq_true, inb_N, inb_0, le_T, le_F, lt_T, lt_F, eq_F, le_0T, lt_0F, le_0F, eq_0F, nI_1, nI_add, pk_mul, nI_clamp, cl_0, if_true, if_false, of_nI, T_wI, L_wI, R_wI, N_wI, S_wI, T_wR, L_wR, I_wR, N_wR, S_wR, I_same, R_same, I_wIn, I_wIk, R_wRn, R_wRk, T_nwo, T_nwn, L_nwo, L_nwn, I_nwo, I_nwn, R_nwo, R_nwn, N_nw, S_nw, nar_1, nar_0, nar_01, b01_t0, b01_f0, b01_t1, b01_f1, ne_sn, eq_sn, sn_inj, mo_I M (i := 18) (j := 13) (by decide) (by decide) (by decide), mo_I M (i := 18) (j := 14) (by decide) (by decide) (by decide), mo_I M (i := 13) (j := 14) (by decide) (by decide) (by decide), mo_I M (i := 14) (j := 13) (by decide) (by decide) (by decide), mo_I M (i := 17) (j := 13) (by decide) (by decide) (by decide), mo_I M (i := 17) (j := 14) (by decide) (by decide) (by decide), ym_I M (j := 13) (by decide), ym_I M (j := 14) (by decide)]
      exact ⟨trivial, trivial, h1, h2⟩
    · rw [if_neg e]
      simp (disch := omega) only [gd_T, dr_S, nm_v, cl_S, cv_S, bd_S, lk_L, lk_R, zbw_b, isK_e, isPg_3, isPg_4, isPg_6, asV_n, beq_self_eq_true, inb_N, inb_0, le_T, le_F, lt_T, lt_F, eq_F, le_0T, lt_0F, le_0F, eq_0F, nI_1, nI_add, pk_mul, nI_clamp, cl_0, if_true, if_false, of_nI, T_wI, L_wI, R_wI, N_wI, S_wI, T_wR, L_wR, I_wR, N_wR, S_wR, I_same, R_same, I_wIn, I_wIk, R_wRn, R_wRk, T_nwo, T_nwn, L_nwo, L_nwn, I_nwo, I_nwn, R_nwo, R_nwn, N_nw, S_nw, nar_1, nar_0, nar_01, b01_t0, b01_f0, b01_t1, b01_f1, ne_sn, eq_sn, sn_inj, mo_I M (i := 18) (j := 13) (by decide) (by decide) (by decide), mo_I M (i := 18) (j := 14) (by decide) (by decide) (by decide), mo_I M (i := 13) (j := 14) (by decide) (by decide) (by decide), mo_I M (i := 14) (j := 13) (by decide) (by decide) (by decide), mo_I M (i := 17) (j := 13) (by decide) (by decide) (by decide), mo_I M (i := 17) (j := 14) (by decide) (by decide) (by decide), ym_I M (j := 13) (by decide), ym_I M (j := 14) (by decide)]
      exact r1 i hi
  · simp (disch := omega) only [gd_T, dr_S, nm_v, cl_S, cv_S, bd_S, lk_L, lk_R, zbw_b, isK_e, isPg_3, isPg_4, isPg_6, asV_n, beq_self_eq_true, inb_N, inb_0, le_T, le_F, lt_T, lt_F, eq_F, le_0T, lt_0F, le_0F, eq_0F, nI_1, nI_add, pk_mul, nI_clamp, cl_0, if_true, if_false, of_nI, T_wI, L_wI, R_wI, N_wI, S_wI, T_wR, L_wR, I_wR, N_wR, S_wR, I_same, R_same, I_wIn, I_wIk, R_wRn, R_wRk, T_nwo, T_nwn, L_nwo, L_nwn, I_nwo, I_nwn, R_nwo, R_nwn, N_nw, S_nw, nar_1, nar_0, nar_01, b01_t0, b01_f0, b01_t1, b01_f1, ne_sn, eq_sn, sn_inj, mo_I M (i := 18) (j := 15) (by decide) (by decide) (by decide), mo_I M (i := 18) (j := 16) (by decide) (by decide) (by decide), mo_I M (i := 13) (j := 15) (by decide) (by decide) (by decide), mo_I M (i := 13) (j := 16) (by decide) (by decide) (by decide), mo_I M (i := 14) (j := 15) (by decide) (by decide) (by decide), mo_I M (i := 14) (j := 16) (by decide) (by decide) (by decide), mo_I M (i := 17) (j := 15) (by decide) (by decide) (by decide), mo_I M (i := 17) (j := 16) (by decide) (by decide) (by decide), ym_I M (j := 15) (by decide), ym_I M (j := 16) (by decide)]
    exact r2 i hi
  · unfold va_up
    by_cases e : i = b
    · subst e
      rw [if_pos rfl]
      simp (disch := omega) only [gd_T, dr_S, nm_v, cl_S, cv_S, bd_S, lk_L, lk_R, zbw_b, isK_e, isPg_3, isPg_4, isPg_6, asV_n, beq_self_eq_true, inb_N, inb_0, le_T, le_F, lt_T, lt_F, eq_F, le_0T, lt_0F, le_0F, eq_0F, nI_1, nI_add, pk_mul, nI_clamp, cl_0, if_true, if_false, of_nI, T_wI, L_wI, R_wI, N_wI, S_wI, T_wR, L_wR, I_wR, N_wR, S_wR, I_same, R_same, I_wIn, I_wIk, R_wRn, R_wRk, T_nwo, T_nwn, L_nwo, L_nwn, I_nwo, I_nwn, R_nwo, R_nwn, N_nw, S_nw, nar_1, nar_0, nar_01, b01_t0, b01_f0, b01_t1, b01_f1, ne_sn, eq_sn, sn_inj, mo_I M (i := 13) (j := 18) (by decide) (by decide) (by decide), mo_I M (i := 14) (j := 18) (by decide) (by decide) (by decide), mo_I M (i := 17) (j := 18) (by decide) (by decide) (by decide), ym_I M (j := 18) (by decide)]
      rfl
    · rw [if_neg e]
      simp (disch := omega) only [gd_T, dr_S, nm_v, cl_S, cv_S, bd_S, lk_L, lk_R, zbw_b, isK_e, isPg_3, isPg_4, isPg_6, asV_n, beq_self_eq_true, inb_N, inb_0, le_T, le_F, lt_T, lt_F, eq_F, le_0T, lt_0F, le_0F, eq_0F, nI_1, nI_add, pk_mul, nI_clamp, cl_0, if_true, if_false, of_nI, T_wI, L_wI, R_wI, N_wI, S_wI, T_wR, L_wR, I_wR, N_wR, S_wR, I_same, R_same, I_wIn, I_wIk, R_wRn, R_wRk, T_nwo, T_nwn, L_nwo, L_nwn, I_nwo, I_nwn, R_nwo, R_nwn, N_nw, S_nw, nar_1, nar_0, nar_01, b01_t0, b01_f0, b01_t1, b01_f1, ne_sn, eq_sn, sn_inj, mo_I M (i := 13) (j := 18) (by decide) (by decide) (by decide), mo_I M (i := 14) (j := 18) (by decide) (by decide) (by decide), mo_I M (i := 17) (j := 18) (by decide) (by decide) (by decide), ym_I M (j := 18) (by decide)]
      exact r3 i hi
  · simp (disch := omega) only [gd_T, dr_S, nm_v, cl_S, cv_S, bd_S, lk_L, lk_R, zbw_b, isK_e, isPg_3, isPg_4, isPg_6, asV_n, beq_self_eq_true, inb_N, inb_0, le_T, le_F, lt_T, lt_F, eq_F, le_0T, lt_0F, le_0F, eq_0F, nI_1, nI_add, pk_mul, nI_clamp, cl_0, if_true, if_false, of_nI, T_wI, L_wI, R_wI, N_wI, S_wI, T_wR, L_wR, I_wR, N_wR, S_wR, I_same, R_same, I_wIn, I_wIk, R_wRn, R_wRk, T_nwo, T_nwn, L_nwo, L_nwn, I_nwo, I_nwn, R_nwo, R_nwn, N_nw, S_nw, nar_1, nar_0, nar_01, b01_t0, b01_f0, b01_t1, b01_f1, ne_sn, eq_sn, sn_inj, List.length_append, List.length_cons, List.length_nil]
  · rcases app_at hx with ⟨a, c⟩ | ⟨a, c⟩
    · simp (disch := omega) only [gd_T, dr_S, nm_v, cl_S, cv_S, bd_S, lk_L, lk_R, zbw_b, isK_e, isPg_3, isPg_4, isPg_6, asV_n, beq_self_eq_true, inb_N, inb_0, le_T, le_F, lt_T, lt_F, eq_F, le_0T, lt_0F, le_0F, eq_0F, nI_1, nI_add, pk_mul, nI_clamp, cl_0, if_true, if_false, of_nI, T_wI, L_wI, R_wI, N_wI, S_wI, T_wR, L_wR, I_wR, N_wR, S_wR, I_same, R_same, I_wIn, I_wIk, R_wRn, R_wRk, T_nwo, T_nwn, L_nwo, L_nwn, I_nwo, I_nwn, R_nwo, R_nwn, N_nw, S_nw, nar_1, nar_0, nar_01, b01_t0, b01_f0, b01_t1, b01_f1, ne_sn, eq_sn, sn_inj, mo_I M (i := 18) (j := 17) (by decide) (by decide) (by decide), mo_I M (i := 13) (j := 17) (by decide) (by decide) (by decide), mo_I M (i := 14) (j := 17) (by decide) (by decide) (by decide), ym_I M (j := 17) (by decide)]
      exact r6 i x c
    · subst a c
      simp (disch := omega) only [gd_T, dr_S, nm_v, cl_S, cv_S, bd_S, lk_L, lk_R, zbw_b, isK_e, isPg_3, isPg_4, isPg_6, asV_n, beq_self_eq_true, inb_N, inb_0, le_T, le_F, lt_T, lt_F, eq_F, le_0T, lt_0F, le_0F, eq_0F, nI_1, nI_add, pk_mul, nI_clamp, cl_0, if_true, if_false, of_nI, T_wI, L_wI, R_wI, N_wI, S_wI, T_wR, L_wR, I_wR, N_wR, S_wR, I_same, R_same, I_wIn, I_wIk, R_wRn, R_wRk, T_nwo, T_nwn, L_nwo, L_nwn, I_nwo, I_nwn, R_nwo, R_nwn, N_nw, S_nw, nar_1, nar_0, nar_01, b01_t0, b01_f0, b01_t1, b01_f1, ne_sn, eq_sn, sn_inj, mo_I M (i := 18) (j := 17) (by decide) (by decide) (by decide), mo_I M (i := 13) (j := 17) (by decide) (by decide) (by decide), mo_I M (i := 14) (j := 17) (by decide) (by decide) (by decide), ym_I M (j := 17) (by decide)]
      exact ⟨trivial, hb⟩
theorem m_write {h : Hp} {y : Nat} {A : Nat → Nat} {cont sett : Nat → Nat × Nat} {free : Nat → Bool} {pend chs : List Nat} {fs np vr : Nat → Nat} {id : Nat} (M : MOK h y A) (R : MF h y A cont sett free pend) (C : MC h y A chs fs np vr) (h1 : id < 2 ^ 20) (hf : fs id + (np id + 1) / 2 ≤ 32) (hp : pend.length + (np id + 1) / 2 ≤ 32) (hc : chs.length < 32) :
    ∃ h', f_M_write y (nI id) (nI (fs id)) (nI (np id)) (nI (vr id)) h = some h' ∧ MOK h' y A ∧ MF h' y A (ups cont (fs id) ((np id + 1) / 2) (fun b => (id, b - fs id))) sett (ups free (fs id) ((np id + 1) / 2) (fun _ => false)) (pend ++ (List.range ((np id + 1) / 2)).map (fs id + ·)) ∧ MC h' y A (chs ++ [id]) fs np vr ∧ hpN h' = hpN h ∧ hpS h' = hpS h := by
  obtain ⟨n, hn⟩ : ∃ n, n = (np id + 1) / 2 := ⟨_, rfl⟩
  obtain ⟨f, hfs⟩ : ∃ f, f = fs id := ⟨_, rfl⟩
  obtain ⟨c1, c2, c3⟩ := C
  obtain ⟨g, hg⟩ : ∃ g, g = wI (wI (wI (wI (wI (wI h (A 20) chs.length (nI id)) (A 21) chs.length (nI (fs id))) (A 22) chs.length (nI ((np id + 1) / 2))) (A 23) chs.length (nI (np id))) (A 24) chs.length (nI (vr id))) y 25 (nI (chs.length + 1)) := ⟨_, rfl⟩
  have Mg : MOK g y A := by rw [hg]; exact M
  have e1 : f_M_write y (nI id) (nI (fs id)) (nI (np id)) (nI (vr id)) h = bd (l_M_write_72 y (nI id) (nI (fs id)) (nI ((np id + 1) / 2)) ((0 : Int32), g)) fun x => some x := by
    rw [hg]
    unfold f_M_write
    simp (disch := omega) only [gd_T, dr_S, nm_v, cl_S, cv_S, bd_S, lk_L, lk_R, zbw_b, isK_e, isPg_3, isPg_4, isPg_6, asV_n, beq_self_eq_true, inb_N, inb_0, le_T, le_F, lt_T, lt_F, eq_F, le_0T, lt_0F, le_0F, eq_0F, nI_1, nI_add, pk_mul, nI_clamp, cl_0, if_true, if_false, of_nI, T_wI, L_wI, R_wI, N_wI, S_wI, T_wR, L_wR, I_wR, N_wR, S_wR, I_same, R_same, I_wIn, I_wIk, R_wRn, R_wRk, T_nwo, T_nwn, L_nwo, L_nwn, I_nwo, I_nwn, R_nwo, R_nwn, N_nw, S_nw, nar_1, nar_0, nar_01, b01_t0, b01_f0, b01_t1, b01_f1, ne_sn, eq_sn, sn_inj, M.1, M.a20.1, M.a20.2.1, M.a20.2.2.1, M.a21.1, M.a21.2.1, M.a21.2.2.1, M.a22.1, M.a22.2.1, M.a22.2.2.1, M.a23.1, M.a23.2.1, M.a23.2.2.1, M.a24.1, M.a24.2.1, M.a24.2.2.1, my_I M (i := 20) (by decide), my_I M (i := 21) (by decide), my_I M (i := 22) (by decide), my_I M (i := 23) (by decide), my_I M (i := 24) (by decide), c1, pk_div]
  have Rg : MF g y A cont sett free pend := by
    rw [hg]
    refine R.ext ((((((Sm.w M ?_ ?_ _ _ _).trans (Sm.w M ?_ ?_ _ _ _)).trans (Sm.w M ?_ ?_ _ _ _)).trans (Sm.w M ?_ ?_ _ _ _)).trans (Sm.w M ?_ ?_ _ _ _)).trans (Sm.wy M ?_ ?_ _ _)) <;> decide
  have Cg : MC g y A (chs ++ [id]) fs np vr := by
    rw [hg]
    refine ⟨?_, by rw [List.length_append]; simp only [List.length_cons, List.length_nil]; omega, fun i x hx => ?_⟩
    · simp (disch := omega) only [gd_T, dr_S, nm_v, cl_S, cv_S, bd_S, lk_L, lk_R, zbw_b, isK_e, isPg_3, isPg_4, isPg_6, asV_n, beq_self_eq_true, inb_N, inb_0, le_T, le_F, lt_T, lt_F, eq_F, le_0T, lt_0F, le_0F, eq_0F, nI_1, nI_add, pk_mul, nI_clamp, cl_0, if_true, if_false, of_nI, T_wI, L_wI, R_wI, N_wI, S_wI, T_wR, L_wR, I_wR, N_wR, S_wR, I_same, R_same, I_wIn, I_wIk, R_wRn, R_wRk, T_nwo, T_nwn, L_nwo, L_nwn, I_nwo, I_nwn, R_nwo, R_nwn, N_nw, S_nw, nar_1, nar_0, nar_01, b01_t0, b01_f0, b01_t1, b01_f1, ne_sn, eq_sn, sn_inj, List.length_append, List.length_cons, List.length_nil]
    · rcases app_at hx with ⟨a, c⟩ | ⟨a, c⟩
      · simp (disch := omega) only [gd_T, dr_S, nm_v, cl_S, cv_S, bd_S, lk_L, lk_R, zbw_b, isK_e, isPg_3, isPg_4, isPg_6, asV_n, beq_self_eq_true, inb_N, inb_0, le_T, le_F, lt_T, lt_F, eq_F, le_0T, lt_0F, le_0F, eq_0F, nI_1, nI_add, pk_mul, nI_clamp, cl_0, if_true, if_false, of_nI, T_wI, L_wI, R_wI, N_wI, S_wI, T_wR, L_wR, I_wR, N_wR, S_wR, I_same, R_same, I_wIn, I_wIk, R_wRn, R_wRk, T_nwo, T_nwn, L_nwo, L_nwn, I_nwo, I_nwn, R_nwo, R_nwn, N_nw, S_nw, nar_1, nar_0, nar_01, b01_t0, b01_f0, b01_t1, b01_f1, ne_sn, eq_sn, sn_inj, mo_I M (i := 20) (j := 21) (by decide) (by decide) (by decide), mo_I M (i := 20) (j := 22) (by decide) (by decide) (by decide), mo_I M (i := 20) (j := 23) (by decide) (by decide) (by decide), mo_I M (i := 20) (j := 24) (by decide) (by decide) (by decide), mo_I M (i := 21) (j := 20) (by decide) (by decide) (by decide), mo_I M (i := 21) (j := 22) (by decide) (by decide) (by decide), mo_I M (i := 21) (j := 23) (by decide) (by decide) (by decide), mo_I M (i := 21) (j := 24) (by decide) (by decide) (by decide), mo_I M (i := 22) (j := 20) (by decide) (by decide) (by decide), mo_I M (i := 22) (j := 21) (by decide) (by decide) (by decide), mo_I M (i := 22) (j := 23) (by decide) (by decide) (by decide), mo_I M (i := 22) (j := 24) (by decide) (by decide) (by decide), mo_I M (i := 23) (j := 20) (by decide) (by decide) (by decide), mo_I M (i := 23) (j := 21) (by decide) (by decide) (by decide), mo_I M (i := 23) (j := 22) (by decide) (by decide) (by decide), mo_I M (i := 23) (j := 24) (by decide) (by decide) (by decide), mo_I M (i := 24) (j := 20) (by decide) (by decide) (by decide), mo_I M (i := 24) (j := 21) (by decide) (by decide) (by decide), mo_I M (i := 24) (j := 22) (by decide) (by decide) (by decide), mo_I M (i := 24) (j := 23) (by decide) (by decide) (by decide), ym_I M (j := 20) (by decide), ym_I M (j := 21) (by decide), ym_I M (j := 22) (by decide), ym_I M (j := 23) (by decide), ym_I M (j := 24) (by decide)]
        exact c3 i x c
      · subst a c
        simp (disch := omega) only [gd_T, dr_S, nm_v, cl_S, cv_S, bd_S, lk_L, lk_R, zbw_b, isK_e, isPg_3, isPg_4, isPg_6, asV_n, beq_self_eq_true, inb_N, inb_0, le_T, le_F, lt_T, lt_F, eq_F, le_0T, lt_0F, le_0F, eq_0F, nI_1, nI_add, pk_mul, nI_clamp, cl_0, if_true, if_false, of_nI, T_wI, L_wI, R_wI, N_wI, S_wI, T_wR, L_wR, I_wR, N_wR, S_wR, I_same, R_same, I_wIn, I_wIk, R_wRn, R_wRk, T_nwo, T_nwn, L_nwo, L_nwn, I_nwo, I_nwn, R_nwo, R_nwn, N_nw, S_nw, nar_1, nar_0, nar_01, b01_t0, b01_f0, b01_t1, b01_f1, ne_sn, eq_sn, sn_inj, mo_I M (i := 20) (j := 21) (by decide) (by decide) (by decide), mo_I M (i := 20) (j := 22) (by decide) (by decide) (by decide), mo_I M (i := 20) (j := 23) (by decide) (by decide) (by decide), mo_I M (i := 20) (j := 24) (by decide) (by decide) (by decide), mo_I M (i := 21) (j := 20) (by decide) (by decide) (by decide), mo_I M (i := 21) (j := 22) (by decide) (by decide) (by decide), mo_I M (i := 21) (j := 23) (by decide) (by decide) (by decide), mo_I M (i := 21) (j := 24) (by decide) (by decide) (by decide), mo_I M (i := 22) (j := 20) (by decide) (by decide) (by decide), mo_I M (i := 22) (j := 21) (by decide) (by decide) (by decide), mo_I M (i := 22) (j := 23) (by decide) (by decide) (by decide), mo_I M (i := 22) (j := 24) (by decide) (by decide) (by decide), mo_I M (i := 23) (j := 20) (by decide) (by decide) (by decide), mo_I M (i := 23) (j := 21) (by decide) (by decide) (by decide), mo_I M (i := 23) (j := 22) (by decide) (by decide) (by decide), mo_I M (i := 23) (j := 24) (by decide) (by decide) (by decide), mo_I M (i := 24) (j := 20) (by decide) (by decide) (by decide), mo_I M (i := 24) (j := 21) (by decide) (by decide) (by decide), mo_I M (i := 24) (j := 22) (by decide) (by decide) (by decide), mo_I M (i := 24) (j := 23) (by decide) (by decide) (by decide), ym_I M (j := 20) (by decide), ym_I M (j := 21) (by decide), ym_I M (j := 22) (by decide), ym_I M (j := 23) (by decide), ym_I M (j := 24) (by decide)]
        exact ⟨trivial, trivial, trivial, trivial, trivial⟩
  have Ng : hpN g = hpN h ∧ hpS g = hpS h := by rw [hg]; exact ⟨rfl, rfl⟩
  rw [← hn] at hf hp e1 ⊢
  rw [← hfs] at hf e1 ⊢
  have key : ∃ r, l_M_write_72 y (nI id) (nI f) (nI n) ((0 : Int32), g) = some r ∧ (MOK r y A ∧ MF r y A (ups cont f n (fun b => (id, b - f))) sett (ups free f n (fun _ => false)) (pend ++ (List.range n).map (f + ·)) ∧ MC r y A (chs ++ [id]) fs np vr ∧ hpN r = hpN h ∧ hpS r = hpS h) := by
    refine lp_up (b := fun s => b_M_write_72 y (nI id) (nI f) (nI n) s.1 s.2) (fun j s => s.1 = nI j ∧ MOK s.2 y A ∧ MF s.2 y A (ups cont f j (fun b => (id, b - f))) sett (ups free f j (fun _ => false)) (pend ++ (List.range j).map (f + ·)) ∧ MC s.2 y A (chs ++ [id]) fs np vr ∧ hpN s.2 = hpN h ∧ hpS s.2 = hpS h) _ n (by omega) ⟨rfl, Mg, by rw [ups_0, ups_0]; simpa using Rg, Cg, Ng⟩ (fun j s hj hs => Or.inl ?_) (fun s hs => ⟨s.2, ?_, hs.2⟩)
    · obtain ⟨a, r⟩ := s
      obtain ⟨b1, b2, b3, b4, b5⟩ := hs
      dsimp only at b1 b2 b3 b4 b5
      subst b1
      have hl : (pend ++ (List.range j).map (f + ·)).length = pend.length + j := by simp
      have P := b3.put b2 (b := f + j) (id := id) (q := j) (by omega) (by rw [hl]; omega) h1 (by omega)
      have e2 : va_up (ups cont f j (fun b => (id, b - f))) (f + j) (id, j) = ups cont f (j + 1) (fun b => (id, b - f)) := by
        rw [ups_s, Nat.add_sub_cancel_left]
      rw [e2, ← ups_s free f j (fun _ => false), show pend ++ (List.range j).map (f + ·) ++ [f + j] = pend ++ (List.range (j + 1)).map (f + ·) by rw [List.range_succ, List.map_append, List.append_assoc]; rfl, hl] at P
      have r4 := b3.2.2.2.1
      rw [hl] at r4
      refine ⟨(nI (j + 1), wI (wI (wI (wI (wI r (A 18) (f + j) 0) (A 13) (f + j) (nI id)) (A 14) (f + j) (nI j)) (A 17) (pend.length + j) (nI (f + j))) y 19 (nI (pend.length + j + 1))), ?_, rfl, b2, P, b4.ext (((((Sm.w b2 ?_ ?_ _ _ _).trans (Sm.w b2 ?_ ?_ _ _ _)).trans (Sm.w b2 ?_ ?_ _ _ _)).trans (Sm.w b2 ?_ ?_ _ _ _)).trans (Sm.wy b2 ?_ ?_ _ _)), b5⟩
      · show b_M_write_72 y (nI id) (nI f) (nI n) (nI j) r = _
        unfold b_M_write_72
        simp (disch := omega) only [gd_T, dr_S, nm_v, cl_S, cv_S, bd_S, lk_L, lk_R, zbw_b, isK_e, isPg_3, isPg_4, isPg_6, asV_n, beq_self_eq_true, inb_N, inb_0, le_T, le_F, lt_T, lt_F, eq_F, le_0T, lt_0F, le_0F, eq_0F, nI_1, nI_add, pk_mul, nI_clamp, cl_0, if_true, if_false, of_nI, T_wI, L_wI, R_wI, N_wI, S_wI, T_wR, L_wR, I_wR, N_wR, S_wR, I_same, R_same, I_wIn, I_wIk, R_wRn, R_wRk, T_nwo, T_nwn, L_nwo, L_nwn, I_nwo, I_nwn, R_nwo, R_nwn, N_nw, S_nw, nar_1, nar_0, nar_01, b01_t0, b01_f0, b01_t1, b01_f1, ne_sn, eq_sn, sn_inj, b2.1, b2.a18.1, b2.a18.2.1, b2.a18.2.2.1, b2.a13.1, b2.a13.2.1, b2.a13.2.2.1, b2.a14.1, b2.a14.2.1, b2.a14.2.2.1, b2.a17.1, b2.a17.2.1, b2.a17.2.2.1, my_I b2 (i := 18) (by decide), my_I b2 (i := 13) (by decide), my_I b2 (i := 14) (by decide), my_I b2 (i := 17) (by decide), r4]
      all_goals decide
    · obtain ⟨a, r⟩ := s
      obtain ⟨b1, b2, b3, b4, b5⟩ := hs
      dsimp only at b1
      subst b1
      show b_M_write_72 y (nI id) (nI f) (nI n) (nI n) r = _
      unfold b_M_write_72
      simp (disch := omega) only [gd_T, dr_S, nm_v, cl_S, cv_S, bd_S, lk_L, lk_R, zbw_b, isK_e, isPg_3, isPg_4, isPg_6, asV_n, beq_self_eq_true, inb_N, inb_0, le_T, le_F, lt_T, lt_F, eq_F, le_0T, lt_0F, le_0F, eq_0F, nI_1, nI_add, pk_mul, nI_clamp, cl_0, if_true, if_false, of_nI, T_wI, L_wI, R_wI, N_wI, S_wI, T_wR, L_wR, I_wR, N_wR, S_wR, I_same, R_same, I_wIn, I_wIk, R_wRn, R_wRk, T_nwo, T_nwn, L_nwo, L_nwn, I_nwo, I_nwn, R_nwo, R_nwn, N_nw, S_nw, nar_1, nar_0, nar_01, b01_t0, b01_f0, b01_t1, b01_f1, ne_sn, eq_sn, sn_inj]
  obtain ⟨r, e, q⟩ := key
  exact ⟨r, by rw [e1, e]; rfl, q⟩
theorem m_keepAll {h : Hp} {y : Nat} {A : Nat → Nat} {cont sett : Nat → Nat × Nat} {free : Nat → Bool} {pend : List Nat} (M : MOK h y A) (R : MF h y A cont sett free pend) :
    ∃ h', f_M_keepAll y h = some h' ∧ MOK h' y A ∧ MF h' y A cont cont free [] ∧ hpN h' = hpN h ∧ hpS h' = hpS h := by
  have key : ∃ r, l_M_keepAll_2 y ((0 : Int32), h) = some r ∧ (MOK r y A ∧ MF r y A cont (fun b => if b < 32 then cont b else sett b) free pend ∧ hpN r = hpN h ∧ hpS r = hpS h) := by
    refine lp_up (b := fun s => b_M_keepAll_2 y s.1 s.2) (fun j s => s.1 = nI j ∧ MOK s.2 y A ∧ MF s.2 y A cont (fun b => if b < j then cont b else sett b) free pend ∧ hpN s.2 = hpN h ∧ hpS s.2 = hpS h) _ 32 (by decide) ⟨rfl, M, ?_, rfl, rfl⟩ (fun j s hj hs => Or.inl ?_) (fun s hs => ⟨s.2, ?_, hs.2⟩)
    · obtain ⟨r1, r2, r3⟩ := R
      refine ⟨r1, fun b hb => ?_, r3⟩
      dsimp only
      rw [if_neg (Nat.not_lt_zero _)]; exact r2 b hb
    · obtain ⟨a, r⟩ := s
      obtain ⟨b1, b2, b3, b5⟩ := hs
      dsimp only at b1 b2 b3 b5
      subst b1
      obtain ⟨r1, r2, r3, r4, r5, r6⟩ := b3
      obtain ⟨q1, q2, q3, q4⟩ := r1 j hj
      refine ⟨(nI (j + 1), wI (wI r (A 15) j (nI (cont j).1)) (A 16) j (nI (cont j).2)), ?_, rfl, b2, ⟨fun b hb => ?_, fun b hb => ?_, fun b hb => ?_, ?_, r5, fun i x hx => ?_⟩, b5⟩
      · show b_M_keepAll_2 y (nI j) r = _
        unfold b_M_keepAll_2
        simp (disch := omega) only [gd_T, dr_S, nm_v, cl_S, cv_S, bd_S, lk_L, lk_R, zbw_b, isK_e, isPg_3, isPg_4, isPg_6, asV_n, beq_self_eq_true, inb_N, inb_0, le_T, le_F, lt_T, lt_F, eq_F, le_0T, lt_0F, le_0F, eq_0F, nI_1, nI_add, pk_mul, nI_clamp, cl_0, if_true, if_false, of_nI, T_wI, L_wI, R_wI, N_wI, S_wI, T_wR, L_wR, I_wR, N_wR, S_wR, I_same, R_same, I_wIn, I_wIk, R_wRn, R_wRk, T_nwo, T_nwn, L_nwo, L_nwn, I_nwo, I_nwn, R_nwo, R_nwn, N_nw, S_nw, nar_1, nar_0, nar_01, b01_t0, b01_f0, b01_t1, b01_f1, ne_sn, eq_sn, sn_inj, b2.1, b2.a13.1, b2.a13.2.1, b2.a13.2.2.1, b2.a14.1, b2.a14.2.1, b2.a14.2.2.1, b2.a15.1, b2.a15.2.1, b2.a15.2.2.1, b2.a16.1, b2.a16.2.1, b2.a16.2.2.1, mo_I b2 (i := 15) (j := 13) (by decide) (by decide) (by decide), mo_I b2 (i := 15) (j := 14) (by decide) (by decide) (by decide), mo_I b2 (i := 16) (j := 13) (by decide) (by decide) (by decide), mo_I b2 (i := 16) (j := 14) (by decide) (by decide) (by decide), q1, q2]
      · simp (disch := omega) only [gd_T, dr_S, nm_v, cl_S, cv_S, bd_S, lk_L, lk_R, zbw_b, isK_e, isPg_3, isPg_4, isPg_6, asV_n, beq_self_eq_true, inb_N, inb_0, le_T, le_F, lt_T, lt_F, eq_F, le_0T, lt_0F, le_0F, eq_0F, nI_1, nI_add, pk_mul, nI_clamp, cl_0, if_true, if_false, of_nI, T_wI, L_wI, R_wI, N_wI, S_wI, T_wR, L_wR, I_wR, N_wR, S_wR, I_same, R_same, I_wIn, I_wIk, R_wRn, R_wRk, T_nwo, T_nwn, L_nwo, L_nwn, I_nwo, I_nwn, R_nwo, R_nwn, N_nw, S_nw, nar_1, nar_0, nar_01, b01_t0, b01_f0, b01_t1, b01_f1, ne_sn, eq_sn, sn_inj, mo_I b2 (i := 15) (j := 13) (by decide) (by decide) (by decide), mo_I b2 (i := 15) (j := 14) (by decide) (by decide) (by decide), mo_I b2 (i := 16) (j := 13) (by decide) (by decide) (by decide), mo_I b2 (i := 16) (j := 14) (by decide) (by decide) (by decide)]
        exact r1 b hb
      · by_cases e : b = j
        · subst e
          dsimp only
          rw [if_pos (Nat.lt_succ_self _)]
          simp (disch := omega) only [gd_T, dr_S, nm_v, cl_S, cv_S, bd_S, lk_L, lk_R, zbw_b, isK_e, isPg_3, isPg_4, isPg_6, asV_n, beq_self_eq_true, inb_N, inb_0, le_T, le_F, lt_T, lt_F, eq_F, le_0T, lt_0F, le_0F, eq_0F, nI_1, nI_add, pk_mul, nI_clamp, cl_0, if_true, if_false, of_nI, T_wI, L_wI, R_wI, N_wI, S_wI, T_wR, L_wR, I_wR, N_wR, S_wR, I_same, R_same, I_wIn, I_wIk, R_wRn, R_wRk, T_nwo, T_nwn, L_nwo, L_nwn, I_nwo, I_nwn, R_nwo, R_nwn, N_nw, S_nw, nar_1, nar_0, nar_01, b01_t0, b01_f0, b01_t1, b01_f1, ne_sn, eq_sn, sn_inj, mo_I b2 (i := 15) (j := 16) (by decide) (by decide) (by decide), mo_I b2 (i := 16) (j := 15) (by decide) (by decide) (by decide)]
          exact ⟨trivial, trivial, q3, q4⟩
        · simp (disch := omega) only [gd_T, dr_S, nm_v, cl_S, cv_S, bd_S, lk_L, lk_R, zbw_b, isK_e, isPg_3, isPg_4, isPg_6, asV_n, beq_self_eq_true, inb_N, inb_0, le_T, le_F, lt_T, lt_F, eq_F, le_0T, lt_0F, le_0F, eq_0F, nI_1, nI_add, pk_mul, nI_clamp, cl_0, if_true, if_false, of_nI, T_wI, L_wI, R_wI, N_wI, S_wI, T_wR, L_wR, I_wR, N_wR, S_wR, I_same, R_same, I_wIn, I_wIk, R_wRn, R_wRk, T_nwo, T_nwn, L_nwo, L_nwn, I_nwo, I_nwn, R_nwo, R_nwn, N_nw, S_nw, nar_1, nar_0, nar_01, b01_t0, b01_f0, b01_t1, b01_f1, ne_sn, eq_sn, sn_inj, mo_I b2 (i := 15) (j := 16) (by decide) (by decide) (by decide), mo_I b2 (i := 16) (j := 15) (by decide) (by decide) (by decide)]
          have := r2 b hb
          dsimp only at this ⊢
          by_cases z : b < j
          · rw [if_pos z] at this; rw [if_pos (by omega)]; exact this
          · rw [if_neg z] at this; rw [if_neg (by omega)]; exact this
      · simp (disch := omega) only [gd_T, dr_S, nm_v, cl_S, cv_S, bd_S, lk_L, lk_R, zbw_b, isK_e, isPg_3, isPg_4, isPg_6, asV_n, beq_self_eq_true, inb_N, inb_0, le_T, le_F, lt_T, lt_F, eq_F, le_0T, lt_0F, le_0F, eq_0F, nI_1, nI_add, pk_mul, nI_clamp, cl_0, if_true, if_false, of_nI, T_wI, L_wI, R_wI, N_wI, S_wI, T_wR, L_wR, I_wR, N_wR, S_wR, I_same, R_same, I_wIn, I_wIk, R_wRn, R_wRk, T_nwo, T_nwn, L_nwo, L_nwn, I_nwo, I_nwn, R_nwo, R_nwn, N_nw, S_nw, nar_1, nar_0, nar_01, b01_t0, b01_f0, b01_t1, b01_f1, ne_sn, eq_sn, sn_inj, mo_I b2 (i := 15) (j := 18) (by decide) (by decide) (by decide), mo_I b2 (i := 16) (j := 18) (by decide) (by decide) (by decide)]
        exact r3 b hb
      · simp (disch := omega) only [gd_T, dr_S, nm_v, cl_S, cv_S, bd_S, lk_L, lk_R, zbw_b, isK_e, isPg_3, isPg_4, isPg_6, asV_n, beq_self_eq_true, inb_N, inb_0, le_T, le_F, lt_T, lt_F, eq_F, le_0T, lt_0F, le_0F, eq_0F, nI_1, nI_add, pk_mul, nI_clamp, cl_0, if_true, if_false, of_nI, T_wI, L_wI, R_wI, N_wI, S_wI, T_wR, L_wR, I_wR, N_wR, S_wR, I_same, R_same, I_wIn, I_wIk, R_wRn, R_wRk, T_nwo, T_nwn, L_nwo, L_nwn, I_nwo, I_nwn, R_nwo, R_nwn, N_nw, S_nw, nar_1, nar_0, nar_01, b01_t0, b01_f0, b01_t1, b01_f1, ne_sn, eq_sn, sn_inj, my_I b2 (i := 15) (by decide), my_I b2 (i := 16) (by decide)]
        exact r4
      · simp (disch := omega) only [gd_T, dr_S, nm_v, cl_S, cv_S, bd_S, lk_L, lk_R, zbw_b, isK_e, isPg_3, isPg_4, isPg_6, asV_n, beq_self_eq_true, inb_N, inb_0, le_T, le_F, lt_T, lt_F, eq_F, le_0T, lt_0F, le_0F, eq_0F, nI_1, nI_add, pk_mul, nI_clamp, cl_0, if_true, if_false, of_nI, T_wI, L_wI, R_wI, N_wI, S_wI, T_wR, L_wR, I_wR, N_wR, S_wR, I_same, R_same, I_wIn, I_wIk, R_wRn, R_wRk, T_nwo, T_nwn, L_nwo, L_nwn, I_nwo, I_nwn, R_nwo, R_nwn, N_nw, S_nw, nar_1, nar_0, nar_01, b01_t0, b01_f0, b01_t1, b01_f1, ne_sn, eq_sn, sn_inj, mo_I b2 (i := 15) (j := 17) (by decide) (by decide) (by decide), mo_I b2 (i := 16) (j := 17) (by decide) (by decide) (by decide)]
        exact r6 i x hx
    · obtain ⟨a, r⟩ := s
      obtain ⟨b1, b2, b3, b5⟩ := hs
      dsimp only at b1
      subst b1
      show b_M_keepAll_2 y (nI 32) r = _
      unfold b_M_keepAll_2
      simp (disch := omega) only [gd_T, dr_S, nm_v, cl_S, cv_S, bd_S, lk_L, lk_R, zbw_b, isK_e, isPg_3, isPg_4, isPg_6, asV_n, beq_self_eq_true, inb_N, inb_0, le_T, le_F, lt_T, lt_F, eq_F, le_0T, lt_0F, le_0F, eq_0F, nI_1, nI_add, pk_mul, nI_clamp, cl_0, if_true, if_false, of_nI, T_wI, L_wI, R_wI, N_wI, S_wI, T_wR, L_wR, I_wR, N_wR, S_wR, I_same, R_same, I_wIn, I_wIk, R_wRn, R_wRk, T_nwo, T_nwn, L_nwo, L_nwn, I_nwo, I_nwn, R_nwo, R_nwn, N_nw, S_nw, nar_1, nar_0, nar_01, b01_t0, b01_f0, b01_t1, b01_f1, ne_sn, eq_sn, sn_inj]
  obtain ⟨r, e, q1, ⟨r1, r2, r3, r4, r5, r6⟩, q3, q4⟩ := key
  refine ⟨wI r y 19 0, ?_, q1, ⟨fun b hb => ?_, fun b hb => ?_, fun b hb => ?_, ?_, by decide, fun i x hx => ?_⟩, q3, q4⟩
  · unfold f_M_keepAll
    simp (disch := omega) only [gd_T, dr_S, nm_v, cl_S, cv_S, bd_S, lk_L, lk_R, zbw_b, isK_e, isPg_3, isPg_4, isPg_6, asV_n, beq_self_eq_true, inb_N, inb_0, le_T, le_F, lt_T, lt_F, eq_F, le_0T, lt_0F, le_0F, eq_0F, nI_1, nI_add, pk_mul, nI_clamp, cl_0, if_true, if_false, of_nI, T_wI, L_wI, R_wI, N_wI, S_wI, T_wR, L_wR, I_wR, N_wR, S_wR, I_same, R_same, I_wIn, I_wIk, R_wRn, R_wRk, T_nwo, T_nwn, L_nwo, L_nwn, I_nwo, I_nwn, R_nwo, R_nwn, N_nw, S_nw, nar_1, nar_0, nar_01, b01_t0, b01_f0, b01_t1, b01_f1, ne_sn, eq_sn, sn_inj, e, q1.1]
  · simp (disch := omega) only [gd_T, dr_S, nm_v, cl_S, cv_S, bd_S, lk_L, lk_R, zbw_b, isK_e, isPg_3, isPg_4, isPg_6, asV_n, beq_self_eq_true, inb_N, inb_0, le_T, le_F, lt_T, lt_F, eq_F, le_0T, lt_0F, le_0F, eq_0F, nI_1, nI_add, pk_mul, nI_clamp, cl_0, if_true, if_false, of_nI, T_wI, L_wI, R_wI, N_wI, S_wI, T_wR, L_wR, I_wR, N_wR, S_wR, I_same, R_same, I_wIn, I_wIk, R_wRn, R_wRk, T_nwo, T_nwn, L_nwo, L_nwn, I_nwo, I_nwn, R_nwo, R_nwn, N_nw, S_nw, nar_1, nar_0, nar_01, b01_t0, b01_f0, b01_t1, b01_f1, ne_sn, eq_sn, sn_inj, ym_I q1 (j := 13) (by decide), ym_I q1 (j := 14) (by decide)]
    exact r1 b hb
  · simp (disch := omega) only [gd_T, dr_S, nm_v, cl_S, cv_S, bd_S, lk_L, lk_R, zbw_b, isK_e, isPg_3, isPg_4, isPg_6, asV_n, beq_self_eq_true, inb_N, inb_0, le_T, le_F, lt_T, lt_F, eq_F, le_0T, lt_0F, le_0F, eq_0F, nI_1, nI_add, pk_mul, nI_clamp, cl_0, if_true, if_false, of_nI, T_wI, L_wI, R_wI, N_wI, S_wI, T_wR, L_wR, I_wR, N_wR, S_wR, I_same, R_same, I_wIn, I_wIk, R_wRn, R_wRk, T_nwo, T_nwn, L_nwo, L_nwn, I_nwo, I_nwn, R_nwo, R_nwn, N_nw, S_nw, nar_1, nar_0, nar_01, b01_t0, b01_f0, b01_t1, b01_f1, ne_sn, eq_sn, sn_inj, ym_I q1 (j := 15) (by decide), ym_I q1 (j := 16) (by decide)]
    have := r2 b hb
    dsimp only at this
    rw [if_pos hb] at this; exact this
  · simp (disch := omega) only [gd_T, dr_S, nm_v, cl_S, cv_S, bd_S, lk_L, lk_R, zbw_b, isK_e, isPg_3, isPg_4, isPg_6, asV_n, beq_self_eq_true, inb_N, inb_0, le_T, le_F, lt_T, lt_F, eq_F, le_0T, lt_0F, le_0F, eq_0F, nI_1, nI_add, pk_mul, nI_clamp, cl_0, if_true, if_false, of_nI, T_wI, L_wI, R_wI, N_wI, S_wI, T_wR, L_wR, I_wR, N_wR, S_wR, I_same, R_same, I_wIn, I_wIk, R_wRn, R_wRk, T_nwo, T_nwn, L_nwo, L_nwn, I_nwo, I_nwn, R_nwo, R_nwn, N_nw, S_nw, nar_1, nar_0, nar_01, b01_t0, b01_f0, b01_t1, b01_f1, ne_sn, eq_sn, sn_inj, ym_I q1 (j := 18) (by decide)]
    exact r3 b hb
  · simp (disch := omega) only [gd_T, dr_S, nm_v, cl_S, cv_S, bd_S, lk_L, lk_R, zbw_b, isK_e, isPg_3, isPg_4, isPg_6, asV_n, beq_self_eq_true, inb_N, inb_0, le_T, le_F, lt_T, lt_F, eq_F, le_0T, lt_0F, le_0F, eq_0F, nI_1, nI_add, pk_mul, nI_clamp, cl_0, if_true, if_false, of_nI, T_wI, L_wI, R_wI, N_wI, S_wI, T_wR, L_wR, I_wR, N_wR, S_wR, I_same, R_same, I_wIn, I_wIk, R_wRn, R_wRk, T_nwo, T_nwn, L_nwo, L_nwn, I_nwo, I_nwn, R_nwo, R_nwn, N_nw, S_nw, nar_1, nar_0, nar_01, b01_t0, b01_f0, b01_t1, b01_f1, ne_sn, eq_sn, sn_inj]; rfl
  · cases hx
theorem m_loseL {h : Hp} {y d : Nat} {A : Nat → Nat} {mask : Int32} {cont sett : Nat → Nat × Nat} {free : Nat → Bool} {pend : List Nat} (M : MOK h y A) (R : MF h y A cont sett free pend) (hd : d ≤ pend.length) :
    ∃ h', l_M_crash_26 y (nI d) mask (nI d, h) = some h' ∧ MOK h' y A ∧ MF h' y A (fun b => bif lsb pend d mask pend.length b then sett b else cont b) sett free pend ∧ Only [A 13, A 14] h h' ∧ hpN h' = hpN h ∧ hpS h' = hpS h := by
  have h60 := R.2.2.2.2.1
  refine lp_for (b := fun s => b_M_crash_26 y (nI d) mask s.1 s.2) (fun j s => d ≤ j ∧ s.1 = nI j ∧ MOK s.2 y A ∧ MF s.2 y A (fun b => bif lsb pend d mask j b then sett b else cont b) sett free pend ∧ Only [A 13, A 14] h s.2 ∧ hpN s.2 = hpN h ∧ hpS s.2 = hpS h) _ pend.length (fun j s hj hs => Or.inl ?_) (fun s hs => ⟨s.2, ?_, hs.2.2⟩) FU d (nI d, h) hd (by show _ < 4096; omega) ⟨Nat.le_refl _, rfl, M, ?_, Only.refl _ _, rfl, rfl⟩
  · obtain ⟨a, r⟩ := s
    obtain ⟨bd, b1, b2, b3, b5⟩ := hs
    dsimp only at b1 b2 b3 b5
    subst b1
    obtain ⟨r1, r2, r3, r4, r5, r6⟩ := b3
    obtain ⟨b, hb⟩ : ∃ b, pend[j]? = some b := ⟨_, List.getElem?_eq_getElem hj⟩
    obtain ⟨q1, q2⟩ := r6 j b hb
    obtain ⟨w1, w2, w3, w4⟩ := r2 b q2
    have eb : b_M_crash_26 y (nI d) mask (nI j) r = bif lst d mask j then some (.inl (nI (j + 1), wI (wI r (A 13) b (nI (sett b).1)) (A 14) b (nI (sett b).2))) else some (.inl (nI (j + 1), r)) := by
      unfold b_M_crash_26 j_M_crash_67_L26 lst
      by_cases c : 16 ≤ j - d
      · simp (disch := omega) only [gd_T, dr_S, nm_v, cl_S, cv_S, bd_S, lk_L, lk_R, zbw_b, isK_e, isPg_3, isPg_4, isPg_6, asV_n, beq_self_eq_true, inb_N, inb_0, le_T, le_F, lt_T, lt_F, eq_F, le_0T, lt_0F, le_0F, eq_0F, nI_1, nI_add, pk_mul, nI_clamp, cl_0, if_true, if_false, of_nI, T_wI, L_wI, R_wI, N_wI, S_wI, T_wR, L_wR, I_wR, N_wR, S_wR, I_same, R_same, I_wIn, I_wIk, R_wRn, R_wRk, T_nwo, T_nwn, L_nwo, L_nwn, I_nwo, I_nwn, R_nwo, R_nwn, N_nw, S_nw, nar_1, nar_0, nar_01, b01_t0, b01_f0, b01_t1, b01_f1, ne_sn, eq_sn, sn_inj, b2.1, b2.a13.1, b2.a13.2.1, b2.a13.2.2.1, b2.a14.1, b2.a14.2.1, b2.a14.2.2.1, b2.a15.1, b2.a15.2.1, b2.a15.2.2.1, b2.a16.1, b2.a16.2.1, b2.a16.2.2.1, b2.a17.1, b2.a17.2.1, b2.a17.2.2.1, mo_I b2 (i := 13) (j := 15) (by decide) (by decide) (by decide), mo_I b2 (i := 13) (j := 16) (by decide) (by decide) (by decide), mo_I b2 (i := 14) (j := 15) (by decide) (by decide) (by decide), mo_I b2 (i := 14) (j := 16) (by decide) (by decide) (by decide), r4, pk_sub, q1, w1, w2]
        rw [decide_eq_true c]; rfl
      · simp (disch := omega) only [gd_T, dr_S, nm_v, cl_S, cv_S, bd_S, lk_L, lk_R, zbw_b, isK_e, isPg_3, isPg_4, isPg_6, asV_n, beq_self_eq_true, inb_N, inb_0, le_T, le_F, lt_T, lt_F, eq_F, le_0T, lt_0F, le_0F, eq_0F, nI_1, nI_add, pk_mul, nI_clamp, cl_0, if_true, if_false, of_nI, T_wI, L_wI, R_wI, N_wI, S_wI, T_wR, L_wR, I_wR, N_wR, S_wR, I_same, R_same, I_wIn, I_wIk, R_wRn, R_wRk, T_nwo, T_nwn, L_nwo, L_nwn, I_nwo, I_nwn, R_nwo, R_nwn, N_nw, S_nw, nar_1, nar_0, nar_01, b01_t0, b01_f0, b01_t1, b01_f1, ne_sn, eq_sn, sn_inj, b2.1, b2.a13.1, b2.a13.2.1, b2.a13.2.2.1, b2.a14.1, b2.a14.2.1, b2.a14.2.2.1, b2.a15.1, b2.a15.2.1, b2.a15.2.2.1, b2.a16.1, b2.a16.2.1, b2.a16.2.2.1, b2.a17.1, b2.a17.2.1, b2.a17.2.2.1, mo_I b2 (i := 13) (j := 15) (by decide) (by decide) (by decide), mo_I b2 (i := 13) (j := 16) (by decide) (by decide) (by decide), mo_I b2 (i := 14) (j := 15) (by decide) (by decide) (by decide), mo_I b2 (i := 14) (j := 16) (by decide) (by decide) (by decide), r4, pk_sub, q1, w1, w2, sshr_1]
        rw [decide_eq_false c, Bool.false_or]
        cases bt mask (j - d) <;> rfl
    show ∃ s', b_M_crash_26 y (nI d) mask (nI j) r = some (.inl s') ∧ _
    rw [eb]
    cases hl : lst d mask j with
    | false =>
      refine ⟨_, rfl, by omega, rfl, b2, ⟨fun i hi => ?_, r2, r3, r4, r5, r6⟩, b5⟩
      have := r1 i hi
      dsimp only at this ⊢
      rw [lsb_s bd, hl, Bool.and_false, Bool.or_false]
      exact this
    | true =>
      refine ⟨(nI (j + 1), wI (wI r (A 13) b (nI (sett b).1)) (A 14) b (nI (sett b).2)), rfl, by omega, rfl, b2, ⟨fun i hi => ?_, fun i hi => ?_, fun i hi => ?_, ?_, r5, fun i x hx => ?_⟩, b5.1.trans ((on_wI (by simp)).trans (on_wI (by simp))), b5.2⟩
      · have := r1 i hi
        dsimp only at this ⊢
        rw [lsb_s bd, hl, Bool.and_true, hb]
        by_cases e : i = b
        · subst e
          rw [decide_eq_true rfl, Bool.or_true]
          simp (disch := omega) only [gd_T, dr_S, nm_v, cl_S, cv_S, bd_S, lk_L, lk_R, zbw_b, isK_e, isPg_3, isPg_4, isPg_6, asV_n, beq_self_eq_true, inb_N, inb_0, le_T, le_F, lt_T, lt_F, eq_F, le_0T, lt_0F, le_0F, eq_0F, nI_1, nI_add, pk_mul, nI_clamp, cl_0, if_true, if_false, of_nI, T_wI, L_wI, R_wI, N_wI, S_wI, T_wR, L_wR, I_wR, N_wR, S_wR, I_same, R_same, I_wIn, I_wIk, R_wRn, R_wRk, T_nwo, T_nwn, L_nwo, L_nwn, I_nwo, I_nwn, R_nwo, R_nwn, N_nw, S_nw, nar_1, nar_0, nar_01, b01_t0, b01_f0, b01_t1, b01_f1, ne_sn, eq_sn, sn_inj, mo_I b2 (i := 13) (j := 14) (by decide) (by decide) (by decide), mo_I b2 (i := 14) (j := 13) (by decide) (by decide) (by decide)]
          exact ⟨rfl, rfl, w3, w4⟩
        · rw [decide_eq_false (fun z => by cases z; exact e rfl), Bool.or_false]
          simp (disch := omega) only [gd_T, dr_S, nm_v, cl_S, cv_S, bd_S, lk_L, lk_R, zbw_b, isK_e, isPg_3, isPg_4, isPg_6, asV_n, beq_self_eq_true, inb_N, inb_0, le_T, le_F, lt_T, lt_F, eq_F, le_0T, lt_0F, le_0F, eq_0F, nI_1, nI_add, pk_mul, nI_clamp, cl_0, if_true, if_false, of_nI, T_wI, L_wI, R_wI, N_wI, S_wI, T_wR, L_wR, I_wR, N_wR, S_wR, I_same, R_same, I_wIn, I_wIk, R_wRn, R_wRk, T_nwo, T_nwn, L_nwo, L_nwn, I_nwo, I_nwn, R_nwo, R_nwn, N_nw, S_nw, nar_1, nar_0, nar_01, b01_t0, b01_f0, b01_t1, b01_f1, ne_sn, eq_sn, sn_inj, mo_I b2 (i := 13) (j := 14) (by decide) (by decide) (by decide), mo_I b2 (i := 14) (j := 13) (by decide) (by decide) (by decide)]
          exact this
      · simp (disch := omega) only [gd_T, dr_S, nm_v, cl_S, cv_S, bd_S, lk_L, lk_R, zbw_b, isK_e, isPg_3, isPg_4, isPg_6, asV_n, beq_self_eq_true, inb_N, inb_0, le_T, le_F, lt_T, lt_F, eq_F, le_0T, lt_0F, le_0F, eq_0F, nI_1, nI_add, pk_mul, nI_clamp, cl_0, if_true, if_false, of_nI, T_wI, L_wI, R_wI, N_wI, S_wI, T_wR, L_wR, I_wR, N_wR, S_wR, I_same, R_same, I_wIn, I_wIk, R_wRn, R_wRk, T_nwo, T_nwn, L_nwo, L_nwn, I_nwo, I_nwn, R_nwo, R_nwn, N_nw, S_nw, nar_1, nar_0, nar_01, b01_t0, b01_f0, b01_t1, b01_f1, ne_sn, eq_sn, sn_inj, mo_I b2 (i := 13) (j := 15) (by decide) (by decide) (by decide), mo_I b2 (i := 13) (j := 16) (by decide) (by decide) (by decide), mo_I b2 (i := 14) (j := 15) (by decide) (by decide) (by decide), mo_I b2 (i := 14) (j := 16) (by decide) (by decide) (by decide)]
        exact r2 i hi
      · simp (disch := omega) only [gd_T, dr_S, nm_v, cl_S, cv_S, bd_S, lk_L, lk_R, zbw_b, isK_e, isPg_3, isPg_4, isPg_6, asV_n, beq_self_eq_true, inb_N, inb_0, le_T, le_F, lt_T, lt_F, eq_F, le_0T, lt_0F, le_0F, eq_0F, nI_1, nI_add, pk_mul, nI_clamp, cl_0, if_true, if_false, of_nI, T_wI, L_wI, R_wI, N_wI, S_wI, T_wR, L_wR, I_wR, N_wR, S_wR, I_same, R_same, I_wIn, I_wIk, R_wRn, R_wRk, T_nwo, T_nwn, L_nwo, L_nwn, I_nwo, I_nwn, R_nwo, R_nwn, N_nw, S_nw, nar_1, nar_0, nar_01, b01_t0, b01_f0, b01_t1, b01_f1, ne_sn, eq_sn, sn_inj, mo_I b2 (i := 13) (j := 18) (by decide) (by decide) (by decide), mo_I b2 (i := 14) (j := 18) (by decide) (by decide) (by decide)]
        exact r3 i hi
      · simp (disch := omega) only [gd_T, dr_S, nm_v, cl_S, cv_S, bd_S, lk_L, lk_R, zbw_b, isK_e, isPg_3, isPg_4, isPg_6, asV_n, beq_self_eq_true, inb_N, inb_0, le_T, le_F, lt_T, lt_F, eq_F, le_0T, lt_0F, le_0F, eq_0F, nI_1, nI_add, pk_mul, nI_clamp, cl_0, if_true, if_false, of_nI, T_wI, L_wI, R_wI, N_wI, S_wI, T_wR, L_wR, I_wR, N_wR, S_wR, I_same, R_same, I_wIn, I_wIk, R_wRn, R_wRk, T_nwo, T_nwn, L_nwo, L_nwn, I_nwo, I_nwn, R_nwo, R_nwn, N_nw, S_nw, nar_1, nar_0, nar_01, b01_t0, b01_f0, b01_t1, b01_f1, ne_sn, eq_sn, sn_inj, my_I b2 (i := 13) (by decide), my_I b2 (i := 14) (by decide)]
        exact r4
      · simp (disch := omega) only [gd_T, dr_S, nm_v, cl_S, cv_S, bd_S, lk_L, lk_R, zbw_b, isK_e, isPg_3, isPg_4, isPg_6, asV_n, beq_self_eq_true, inb_N, inb_0, le_T, le_F, lt_T, lt_F, eq_F, le_0T, lt_0F, le_0F, eq_0F, nI_1, nI_add, pk_mul, nI_clamp, cl_0, if_true, if_false, of_nI, T_wI, L_wI, R_wI, N_wI, S_wI, T_wR, L_wR, I_wR, N_wR, S_wR, I_same, R_same, I_wIn, I_wIk, R_wRn, R_wRk, T_nwo, T_nwn, L_nwo, L_nwn, I_nwo, I_nwn, R_nwo, R_nwn, N_nw, S_nw, nar_1, nar_0, nar_01, b01_t0, b01_f0, b01_t1, b01_f1, ne_sn, eq_sn, sn_inj, mo_I b2 (i := 13) (j := 17) (by decide) (by decide) (by decide), mo_I b2 (i := 14) (j := 17) (by decide) (by decide) (by decide)]
        exact r6 i x hx
  · obtain ⟨a, r⟩ := s
    obtain ⟨bd, b1, b2, b3, b5⟩ := hs
    dsimp only at b1 b2 b3
    subst b1
    show b_M_crash_26 y (nI d) mask (nI pend.length) r = _
    unfold b_M_crash_26
    simp (disch := omega) only [gd_T, dr_S, nm_v, cl_S, cv_S, bd_S, lk_L, lk_R, zbw_b, isK_e, isPg_3, isPg_4, isPg_6, asV_n, beq_self_eq_true, inb_N, inb_0, le_T, le_F, lt_T, lt_F, eq_F, le_0T, lt_0F, le_0F, eq_0F, nI_1, nI_add, pk_mul, nI_clamp, cl_0, if_true, if_false, of_nI, T_wI, L_wI, R_wI, N_wI, S_wI, T_wR, L_wR, I_wR, N_wR, S_wR, I_same, R_same, I_wIn, I_wIk, R_wRn, R_wRk, T_nwo, T_nwn, L_nwo, L_nwn, I_nwo, I_nwn, R_nwo, R_nwn, N_nw, S_nw, nar_1, nar_0, nar_01, b01_t0, b01_f0, b01_t1, b01_f1, ne_sn, eq_sn, sn_inj, b2.1, b3.2.2.2.1]
  · obtain ⟨r1, r2⟩ := R
    refine ⟨fun b hb => ?_, r2⟩
    have := r1 b hb
    dsimp only
    rw [lsb_d]
    exact this
/-- what a block answers -/
def bkA (cont : Nat → Nat × Nat) (free : Nat → Bool) (pend : List Nat) (n : Nat) (w : Int32) : Int32 := if w = (0 : Int32) then b01 (free n) else if w = (1 : Int32) then nI (cont n).1 else if w = nI 2 then nI (cont n).2 else if w = nI 3 then b01 (decide (n ∈ pend)) else -1
theorem if_b01 (b : Bool) (h : Hp) : (if b01 b = 0 then some ((0 : Int32), h) else some ((1 : Int32), h)) = some (b01 b, h) := by cases b <;> rfl
theorem m_block {h : Hp} {y n : Nat} {A : Nat → Nat} {w : Int32} {cont sett : Nat → Nat × Nat} {free : Nat → Bool} {pend : List Nat} (M : MOK h y A) (R : MF h y A cont sett free pend) (hn : n < 32) : f_M_block y (nI n) w h = some (bkA cont free pend n w, h) := by
  obtain ⟨r1, r2, r3, r4, r5, r6⟩ := R
  unfold f_M_block bkA
  rw [cl_s (in_ok hn (by decide) h), if_neg (by decide)]
  by_cases c0 : w = 0
  · rw [if_pos c0, if_pos c0]
    simp (disch := omega) only [gd_T, dr_S, nm_v, cl_S, cv_S, bd_S, lk_L, lk_R, zbw_b, isK_e, isPg_3, isPg_4, isPg_6, asV_n, beq_self_eq_true, inb_N, inb_0, le_T, le_F, lt_T, lt_F, eq_F, le_0T, lt_0F, le_0F, eq_0F, nI_1, nI_add, pk_mul, nI_clamp, cl_0, if_true, if_false, of_nI, T_wI, L_wI, R_wI, N_wI, S_wI, T_wR, L_wR, I_wR, N_wR, S_wR, I_same, R_same, I_wIn, I_wIk, R_wRn, R_wRk, T_nwo, T_nwn, L_nwo, L_nwn, I_nwo, I_nwn, R_nwo, R_nwn, N_nw, S_nw, nar_1, nar_0, nar_01, b01_t0, b01_f0, b01_t1, b01_f1, ne_sn, eq_sn, sn_inj, M.1, M.a18.1, M.a18.2.1, M.a18.2.2.1, r3 n hn]
    exact if_b01 _ _
  rw [if_neg c0, if_neg c0]
  by_cases c1 : w = 1
  · rw [if_pos c1, if_pos c1]
    simp (disch := omega) only [gd_T, dr_S, nm_v, cl_S, cv_S, bd_S, lk_L, lk_R, zbw_b, isK_e, isPg_3, isPg_4, isPg_6, asV_n, beq_self_eq_true, inb_N, inb_0, le_T, le_F, lt_T, lt_F, eq_F, le_0T, lt_0F, le_0F, eq_0F, nI_1, nI_add, pk_mul, nI_clamp, cl_0, if_true, if_false, of_nI, T_wI, L_wI, R_wI, N_wI, S_wI, T_wR, L_wR, I_wR, N_wR, S_wR, I_same, R_same, I_wIn, I_wIk, R_wRn, R_wRk, T_nwo, T_nwn, L_nwo, L_nwn, I_nwo, I_nwn, R_nwo, R_nwn, N_nw, S_nw, nar_1, nar_0, nar_01, b01_t0, b01_f0, b01_t1, b01_f1, ne_sn, eq_sn, sn_inj, M.1, M.a13.1, M.a13.2.1, M.a13.2.2.1, (r1 n hn).1]
  rw [if_neg c1, if_neg c1]
  by_cases c2 : w = nI 2
  · rw [if_pos c2, if_pos c2]
    simp (disch := omega) only [gd_T, dr_S, nm_v, cl_S, cv_S, bd_S, lk_L, lk_R, zbw_b, isK_e, isPg_3, isPg_4, isPg_6, asV_n, beq_self_eq_true, inb_N, inb_0, le_T, le_F, lt_T, lt_F, eq_F, le_0T, lt_0F, le_0F, eq_0F, nI_1, nI_add, pk_mul, nI_clamp, cl_0, if_true, if_false, of_nI, T_wI, L_wI, R_wI, N_wI, S_wI, T_wR, L_wR, I_wR, N_wR, S_wR, I_same, R_same, I_wIn, I_wIk, R_wRn, R_wRk, T_nwo, T_nwn, L_nwo, L_nwn, I_nwo, I_nwn, R_nwo, R_nwn, N_nw, S_nw, nar_1, nar_0, nar_01, b01_t0, b01_f0, b01_t1, b01_f1, ne_sn, eq_sn, sn_inj, M.1, M.a14.1, M.a14.2.1, M.a14.2.2.1, (r1 n hn).2.1]
  rw [if_neg c2, if_neg c2]
  by_cases c3 : w = nI 3
  · rw [if_pos c3, if_pos c3]
    have hy : ∀ j, j < pend.length → pend[j]? = some n → b_M_block_75 y (nI n) (nI j) h = some (.inr (.inr ((1 : Int32), h))) := fun j hj hP => by
      obtain ⟨u1, u2⟩ := r6 j n hP
      unfold b_M_block_75
      simp (disch := omega) only [gd_T, dr_S, nm_v, cl_S, cv_S, bd_S, lk_L, lk_R, zbw_b, isK_e, isPg_3, isPg_4, isPg_6, asV_n, beq_self_eq_true, inb_N, inb_0, le_T, le_F, lt_T, lt_F, eq_F, le_0T, lt_0F, le_0F, eq_0F, nI_1, nI_add, pk_mul, nI_clamp, cl_0, if_true, if_false, of_nI, T_wI, L_wI, R_wI, N_wI, S_wI, T_wR, L_wR, I_wR, N_wR, S_wR, I_same, R_same, I_wIn, I_wIk, R_wRn, R_wRk, T_nwo, T_nwn, L_nwo, L_nwn, I_nwo, I_nwn, R_nwo, R_nwn, N_nw, S_nw, nar_1, nar_0, nar_01, b01_t0, b01_f0, b01_t1, b01_f1, ne_sn, eq_sn, sn_inj, M.1, r4, M.a17.1, M.a17.2.1, M.a17.2.2.1, u1]
    have hz : ∀ j, j < pend.length → ¬ pend[j]? = some n → b_M_block_75 y (nI n) (nI j) h = some (.inl (nI (j + 1), h)) := fun j hj hP => by
      obtain ⟨b, hb⟩ : ∃ b, pend[j]? = some b := ⟨_, List.getElem?_eq_getElem hj⟩
      obtain ⟨u1, u2⟩ := r6 j b hb
      have : b ≠ n := fun z => hP (by rw [← z]; exact hb)
      unfold b_M_block_75
      simp (disch := omega) only [gd_T, dr_S, nm_v, cl_S, cv_S, bd_S, lk_L, lk_R, zbw_b, isK_e, isPg_3, isPg_4, isPg_6, asV_n, beq_self_eq_true, inb_N, inb_0, le_T, le_F, lt_T, lt_F, eq_F, le_0T, lt_0F, le_0F, eq_0F, nI_1, nI_add, pk_mul, nI_clamp, cl_0, if_true, if_false, of_nI, T_wI, L_wI, R_wI, N_wI, S_wI, T_wR, L_wR, I_wR, N_wR, S_wR, I_same, R_same, I_wIn, I_wIk, R_wRn, R_wRk, T_nwo, T_nwn, L_nwo, L_nwn, I_nwo, I_nwn, R_nwo, R_nwn, N_nw, S_nw, nar_1, nar_0, nar_01, b01_t0, b01_f0, b01_t1, b01_f1, ne_sn, eq_sn, sn_inj, M.1, r4, M.a17.1, M.a17.2.1, M.a17.2.2.1, u1]
    have he : b_M_block_75 y (nI n) (nI pend.length) h = some (.inr (.inl h)) := by
      unfold b_M_block_75
      simp (disch := omega) only [gd_T, dr_S, nm_v, cl_S, cv_S, bd_S, lk_L, lk_R, zbw_b, isK_e, isPg_3, isPg_4, isPg_6, asV_n, beq_self_eq_true, inb_N, inb_0, le_T, le_F, lt_T, lt_F, eq_F, le_0T, lt_0F, le_0F, eq_0F, nI_1, nI_add, pk_mul, nI_clamp, cl_0, if_true, if_false, of_nI, T_wI, L_wI, R_wI, N_wI, S_wI, T_wR, L_wR, I_wR, N_wR, S_wR, I_same, R_same, I_wIn, I_wIk, R_wRn, R_wRk, T_nwo, T_nwn, L_nwo, L_nwn, I_nwo, I_nwn, R_nwo, R_nwn, N_nw, S_nw, nar_1, nar_0, nar_01, b01_t0, b01_f0, b01_t1, b01_f1, ne_sn, eq_sn, sn_inj, M.1, r4]
    rcases lp_find (b := fun s => b_M_block_75 y (nI n) s.1 s.2) h pend.length (by omega) (fun j => pend[j]? = some n) (fun _ => (1 : Int32)) hy hz he with ⟨e, q⟩ | ⟨j, hj, q1, q2, e⟩
    · rw [show l_M_block_75 y (nI n) ((0 : Int32), h) = some (.inl h) from e, lk_L, decide_eq_false (fun z => by obtain ⟨i, hi⟩ := List.getElem?_of_mem z; exact q i (by rcases Nat.lt_or_ge i pend.length with u | u; exact u; rw [List.getElem?_eq_none u] at hi; cases hi) hi)]
      rfl
    · rw [show l_M_block_75 y (nI n) ((0 : Int32), h) = _ from e, lk_R, decide_eq_true (List.mem_of_getElem? q1)]
      rfl
  rw [if_neg c3, if_neg c3]
theorem m_block_out {h : Hp} {y : Nat} {b w : Int32} (hb : b < 0 ∨ nI 32 ≤ b) : f_M_block y b w h = some (-1, h) := by
  unfold f_M_block
  rw [cl_s (in_out hb h), if_pos rfl]
theorem x_block_out {h : Hp} {x : Nat} {b w : Int32} (hb : b < 0 ∨ nI 32 ≤ b) : f_X_block x b w h = some (-1, h) := by
  unfold f_X_block
  by_cases c : b < 0
  · rw [if_pos c]
  · rw [if_neg c, if_neg (Int32.not_lt.mpr (hb.resolve_left c))]
/-- a chunk's address by its id -/
def ck (ca : Nat → Nat) (id : Nat) : Option Nat := if id = 0 then none else some (ca id)
theorem ck_0 (ca : Nat → Nat) : ck ca 0 = none := if_pos rfl
theorem ck_s {ca : Nat → Nat} {id : Nat} (h : id ≠ 0) : ck ca id = some (ca id) := if_neg h
theorem x_block {h : Hp} {x p F lc vs c0 c1 c2 c3 c4 n : Nat} {w : Int32} {cont : Nat → Nat × Nat} {ca ka fs np : Nat → Nat} {cs : Nat → Option Nat} {free : Nat → Bool} {pend : List Nat} (X : XO h x p F lc vs) (R : FR h F c0 c1 c2 c3 c4 (fun b => ck ca (cont b).1) cs free (fun b => decide (b ∈ pend)) pend) (hn : n < 32) (h0 : (cont n).1 = 0 → (cont n).2 = 0) (h1 : (cont n).1 ≠ 0 → KO h (ca (cont n).1) (ka (cont n).1) (cont n).1 (fs (cont n).1) (np (cont n).1) ∧ n = fs (cont n).1 + (cont n).2) : f_X_block x (nI n) w h = some (bkA cont free pend n w, h) := by
  obtain ⟨O, r1, r2, r3, r4, r5, r6, r7⟩ := R
  obtain ⟨o1, o2, ⟨p0, p1, p2, p3⟩, ⟨p4, p5, p6, p7⟩, ⟨p8, p9, p10, p11⟩, ⟨p12, p13, p14, p15⟩, ⟨p16, p17, p18, p19⟩⟩ := O
  obtain ⟨x1, x2, x3, x4, x5, x6⟩ := X
  have q := r1 n hn
  dsimp only at q
  unfold f_X_block bkA
  simp (disch := omega) only [gd_T, dr_S, nm_v, cl_S, cv_S, bd_S, lk_L, lk_R, zbw_b, isK_e, isPg_3, isPg_4, isPg_6, asV_n, beq_self_eq_true, inb_N, inb_0, le_T, le_F, lt_T, lt_F, eq_F, le_0T, lt_0F, le_0F, eq_0F, nI_1, nI_add, pk_mul, nI_clamp, cl_0, if_true, if_false, of_nI, T_wI, L_wI, R_wI, N_wI, S_wI, T_wR, L_wR, I_wR, N_wR, S_wR, I_same, R_same, I_wIn, I_wIk, R_wRn, R_wRk, T_nwo, T_nwn, L_nwo, L_nwn, I_nwo, I_nwn, R_nwo, R_nwn, N_nw, S_nw, nar_1, nar_0, nar_01, b01_t0, b01_f0, b01_t1, b01_f1, ne_sn, eq_sn, sn_inj, x1, x4, o1, p0, p1, p2]
  by_cases c0 : w = 0
  · rw [if_pos c0, if_pos c0]
    simp (disch := omega) only [gd_T, dr_S, nm_v, cl_S, cv_S, bd_S, lk_L, lk_R, zbw_b, isK_e, isPg_3, isPg_4, isPg_6, asV_n, beq_self_eq_true, inb_N, inb_0, le_T, le_F, lt_T, lt_F, eq_F, le_0T, lt_0F, le_0F, eq_0F, nI_1, nI_add, pk_mul, nI_clamp, cl_0, if_true, if_false, of_nI, T_wI, L_wI, R_wI, N_wI, S_wI, T_wR, L_wR, I_wR, N_wR, S_wR, I_same, R_same, I_wIn, I_wIk, R_wRn, R_wRk, T_nwo, T_nwn, L_nwo, L_nwn, I_nwo, I_nwn, R_nwo, R_nwn, N_nw, S_nw, nar_1, nar_0, nar_01, b01_t0, b01_f0, b01_t1, b01_f1, ne_sn, eq_sn, sn_inj, p8, p9, p10, r3 n hn]
    exact if_b01 _ _
  rw [if_neg c0, if_neg c0]
  by_cases c1 : w = 1
  · rw [if_pos c1, if_pos c1]
    by_cases z : (cont n).1 = 0
    · rw [q, z, ck_0, if_pos rfl]; rfl
    · obtain ⟨K, e⟩ := h1 z
      rw [q, ck_s z]
      simp (disch := omega) only [gd_T, dr_S, nm_v, cl_S, cv_S, bd_S, lk_L, lk_R, zbw_b, isK_e, isPg_3, isPg_4, isPg_6, asV_n, beq_self_eq_true, inb_N, inb_0, le_T, le_F, lt_T, lt_F, eq_F, le_0T, lt_0F, le_0F, eq_0F, nI_1, nI_add, pk_mul, nI_clamp, cl_0, if_true, if_false, of_nI, T_wI, L_wI, R_wI, N_wI, S_wI, T_wR, L_wR, I_wR, N_wR, S_wR, I_same, R_same, I_wIn, I_wIk, R_wRn, R_wRk, T_nwo, T_nwn, L_nwo, L_nwn, I_nwo, I_nwn, R_nwo, R_nwn, N_nw, S_nw, nar_1, nar_0, nar_01, b01_t0, b01_f0, b01_t1, b01_f1, ne_sn, eq_sn, sn_inj, K.1, K.2.2.1]
  rw [if_neg c1, if_neg c1]
  by_cases c2 : w = nI 2
  · rw [if_pos c2, if_pos c2]
    by_cases z : (cont n).1 = 0
    · rw [q, z, ck_0, if_pos rfl, h0 z]; rfl
    · obtain ⟨K, e⟩ := h1 z
      rw [q, ck_s z]
      simp (disch := omega) only [gd_T, dr_S, nm_v, cl_S, cv_S, bd_S, lk_L, lk_R, zbw_b, isK_e, isPg_3, isPg_4, isPg_6, asV_n, beq_self_eq_true, inb_N, inb_0, le_T, le_F, lt_T, lt_F, eq_F, le_0T, lt_0F, le_0F, eq_0F, nI_1, nI_add, pk_mul, nI_clamp, cl_0, if_true, if_false, of_nI, T_wI, L_wI, R_wI, N_wI, S_wI, T_wR, L_wR, I_wR, N_wR, S_wR, I_same, R_same, I_wIn, I_wIk, R_wRn, R_wRk, T_nwo, T_nwn, L_nwo, L_nwn, I_nwo, I_nwn, R_nwo, R_nwn, N_nw, S_nw, nar_1, nar_0, nar_01, b01_t0, b01_f0, b01_t1, b01_f1, ne_sn, eq_sn, sn_inj, K.1, K.2.2.2.1, pk_sub]
      rw [show n - fs (cont n).1 = (cont n).2 by omega]
  rw [if_neg c2, if_neg c2]
  by_cases c3 : w = nI 3
  · rw [if_pos c3, if_pos c3]
    simp (disch := omega) only [gd_T, dr_S, nm_v, cl_S, cv_S, bd_S, lk_L, lk_R, zbw_b, isK_e, isPg_3, isPg_4, isPg_6, asV_n, beq_self_eq_true, inb_N, inb_0, le_T, le_F, lt_T, lt_F, eq_F, le_0T, lt_0F, le_0F, eq_0F, nI_1, nI_add, pk_mul, nI_clamp, cl_0, if_true, if_false, of_nI, T_wI, L_wI, R_wI, N_wI, S_wI, T_wR, L_wR, I_wR, N_wR, S_wR, I_same, R_same, I_wIn, I_wIk, R_wRn, R_wRk, T_nwo, T_nwn, L_nwo, L_nwn, I_nwo, I_nwn, R_nwo, R_nwn, N_nw, S_nw, nar_1, nar_0, nar_01, b01_t0, b01_f0, b01_t1, b01_f1, ne_sn, eq_sn, sn_inj, p12, p13, p14, r4 n hn]
    exact if_b01 _ _
  rw [if_neg c3, if_neg c3]

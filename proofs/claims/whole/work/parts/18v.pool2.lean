/-! the reference's pool against the store -/
def ky (pid pat : Nat → Nat) (i : Nat) : Nat := 32 * pid i + pat i
def PR (h : Hp) (A : Nat → Nat) (pid pat : Nat → Nat) (st : Nat → Pg) (np : Nat → Nat) (nxt : Nat) : Prop := PgR h A pid pat ∧ (∀ i, i < 160 → pat i < 32) ∧ (∀ i j, i < 160 → j < 160 → pid i ≠ 0 → pid i = pid j → pat i = pat j → i = j) ∧
  ∀ i, i < 160 → pid i ≠ 0 → vk np nxt (ky pid pat i) ∧ hpI h (A 6) i = nI (kd st (ky pid pat i)) ∧ hpI h (A 7) i = nI (pmp st (ky pid pat i)) ∧ hpI h (A 8) i = nI (pwh st (ky pid pat i)) ∧ (∀ m, m < 4 → hpI h (A 11) (4 * i + m) = nI (ld st (ky pid pat i) m)) ∧ ∀ x, x < 8 → bt (hpI h (A 9) i) x = (lfv st (ky pid pat i) x).isSome ∧ ∀ w, lfv st (ky pid pat i) x = some w → hpI h (A 10) (8 * i + x) = w
theorem PR.ext {h h' : Hp} {y : Nat} {A : Nat → Nat} {pid pat : Nat → Nat} {st : Nat → Pg} {np : Nat → Nat} {nxt : Nat} (P : PR h A pid pat st np nxt) (s : Sm h h' y A [4, 5, 6, 7, 8, 9, 10, 11] []) : PR h' A pid pat st np nxt := by
  unfold PR PgR at *
  rw [s.1 4 (by decide), s.1 5 (by decide), s.1 6 (by decide), s.1 7 (by decide), s.1 8 (by decide), s.1 9 (by decide), s.1 10 (by decide), s.1 11 (by decide)]
  exact P
def inP (pid pat : Nat → Nat) (k : Nat) : Prop := ∃ i, i < 160 ∧ pid i = k / 32 ∧ pat i = k % 32
theorem m_pg {h : Hp} {y k : Nat} {A : Nat → Nat} {pid pat : Nat → Nat} (M : MOK h y A) (P : PgR h A pid pat) (hk : k < 2 ^ 25) (h32 : 32 ≤ k) (hi : inP pid pat k) : ∃ i, i < 160 ∧ ky pid pat i = k ∧ pid i ≠ 0 ∧ f_M_page y (nI k) h = some (nI i, h) := by
  obtain ⟨o, p, e⟩ := m_page M P hk
  cases o with
  | none =>
    exfalso
    obtain ⟨i, q1, q2, q3⟩ := hi
    rcases p with p | p
    · omega
    · exact p i q1 ⟨q2, q3⟩
  | some i =>
    obtain ⟨p1, p2, ⟨p3, p4⟩, p5⟩ := p
    exact ⟨i, p2, by unfold ky; rw [p3, p4]; omega, by omega, e⟩
theorem m_pg0 {h : Hp} {y : Nat} {A : Nat → Nat} {pid pat : Nat → Nat} (M : MOK h y A) (P : PgR h A pid pat) : f_M_page y (nI 0) h = some (-1, h) := by
  obtain ⟨o, p, e⟩ := m_page M P (key := 0) (by decide)
  cases o with
  | none => exact e
  | some i => exact absurd p.1 (Nat.lt_irrefl _)
theorem m_pgn {h : Hp} {y k : Nat} {A : Nat → Nat} {pid pat : Nat → Nat} (M : MOK h y A) (P : PgR h A pid pat) (hk : k < 2 ^ 25) (hi : ¬ inP pid pat k) : f_M_page y (nI k) h = some (-1, h) := by
  obtain ⟨o, p, e⟩ := m_page M P hk
  cases o with
  | none => exact e
  | some i => exact absurd ⟨i, p.2.1, p.2.2.1.1, p.2.2.1.2⟩ hi
theorem le_m1 : ((0 : Int32) ≤ -1) = False := eq_false (by decide)
theorem lt_m1 : ((-1 : Int32) < 0) = True := eq_true (by decide)
/-- all that a meta leads to is there -/
def inR (pid pat : Nat → Nat) (st : Nat → Pg) (k : Nat) : Prop := ∀ x, rcb st k x = true → inP pid pat x
theorem md8s (x : Nat) : nI x - nI (x / 8 * 8) = nI (x % 8) := by
  rw [pk_sub (by omega)]
  congr 1
  omega
theorem m_read {h : Hp} {y k m x : Nat} {A : Nat → Nat} {pid pat : Nat → Nat} {st : Nat → Pg} {fs np : Nat → Nat} {nxt : Nat} (M : MOK h y A) (P : PR h A pid pat st np nxt) (S : SW st fs np nxt) (hv : k ≠ 0 → vk np nxt k ∧ kd st k = 2 ∧ inR pid pat st k) (hm : m < 4) (hx : x < 32) : f_M_read y (nI k) (nI m) (nI x) h = some (gv (rdv st k m x), h) := by
  unfold f_M_read rdv
  have P0 := P
  obtain ⟨P1, P2, P3, P4⟩ := P
  by_cases c : k = 0
  · rw [c, gd_t (isK_of M.1), cl_s (m_pg0 M P1), if_neg (by decide), if_pos rfl]
    unfold j_M_read_31_M j_M_read_60_M
    simp (disch := omega) only [gd_T, dr_S, nm_v, cl_S, cv_S, bd_S, lk_L, lk_R, zbw_b, isK_e, isPg_3, isPg_4, isPg_6, asV_n, beq_self_eq_true, inb_N, inb_0, le_T, le_F, lt_T, lt_F, eq_F, le_0T, lt_0F, le_0F, eq_0F, nI_1, nI_add, pk_mul, nI_clamp, cl_0, if_true, if_false, of_nI, T_wI, L_wI, R_wI, N_wI, S_wI, T_wR, L_wR, I_wR, N_wR, S_wR, I_same, R_same, I_wIn, I_wIk, R_wRn, R_wRk, T_nwo, T_nwn, L_nwo, L_nwn, I_nwo, I_nwn, R_nwo, R_nwn, N_nw, S_nw, nar_1, nar_0, nar_01, b01_t0, b01_f0, b01_t1, b01_f1, ne_sn, eq_sn, sn_inj, le_m1, lt_m1]
    rfl
  obtain ⟨v, h2, hr⟩ := hv c
  have hlt := S.lt v
  obtain ⟨i, i1, i2, i3, i4⟩ := m_pg M P1 (by omega) v.pos (hr k (rcb_t.mpr (Or.inl rfl)))
  obtain ⟨p1, p2, p3, p4, p5, p6⟩ := P4 i i1 i3
  rw [i2] at p5
  rw [if_neg c]
  simp (disch := omega) only [gd_T, dr_S, nm_v, cl_S, cv_S, bd_S, lk_L, lk_R, zbw_b, isK_e, isPg_3, isPg_4, isPg_6, asV_n, beq_self_eq_true, inb_N, inb_0, le_T, le_F, lt_T, lt_F, eq_F, le_0T, lt_0F, le_0F, eq_0F, nI_1, nI_add, pk_mul, nI_clamp, cl_0, if_true, if_false, of_nI, T_wI, L_wI, R_wI, N_wI, S_wI, T_wR, L_wR, I_wR, N_wR, S_wR, I_same, R_same, I_wIn, I_wIk, R_wRn, R_wRk, T_nwo, T_nwn, L_nwo, L_nwn, I_nwo, I_nwn, R_nwo, R_nwn, N_nw, S_nw, nar_1, nar_0, nar_01, b01_t0, b01_f0, b01_t1, b01_f1, ne_sn, eq_sn, sn_inj, M.1, i4, M.a11.1, M.a11.2.1, M.a11.2.2.1, p5 m hm]
  unfold lk2
  by_cases c1 : ld st k m = 0
  · rw [c1, m_pg0 M P1, if_pos rfl, if_pos rfl]
    unfold j_M_read_31_M j_M_read_60_M
    simp (disch := omega) only [gd_T, dr_S, nm_v, cl_S, cv_S, bd_S, lk_L, lk_R, zbw_b, isK_e, isPg_3, isPg_4, isPg_6, asV_n, beq_self_eq_true, inb_N, inb_0, le_T, le_F, lt_T, lt_F, eq_F, le_0T, lt_0F, le_0F, eq_0F, nI_1, nI_add, pk_mul, nI_clamp, cl_0, if_true, if_false, of_nI, T_wI, L_wI, R_wI, N_wI, S_wI, T_wR, L_wR, I_wR, N_wR, S_wR, I_same, R_same, I_wIn, I_wIk, R_wRn, R_wRk, T_nwo, T_nwn, L_nwo, L_nwn, I_nwo, I_nwn, R_nwo, R_nwn, N_nw, S_nw, nar_1, nar_0, nar_01, b01_t0, b01_f0, b01_t1, b01_f1, ne_sn, eq_sn, sn_inj, le_m1, lt_m1]
    rfl
  obtain ⟨r1, r2, r3, r4⟩ := S.root v h2 hm c1
  have hlt1 := S.lt r1
  obtain ⟨j, j1, j2, j3, j4⟩ := m_pg M P1 (k := ld st k m) (by omega) r1.pos (hr _ (rcb_t.mpr (Or.inr (Or.inl ⟨m, hm, c1, rfl⟩))))
  obtain ⟨-, -, -, -, q5, -⟩ := P4 j j1 j3
  rw [j2] at q5
  rw [j4, if_neg c1]
  unfold j_M_read_31_M
  simp (disch := omega) only [gd_T, dr_S, nm_v, cl_S, cv_S, bd_S, lk_L, lk_R, zbw_b, isK_e, isPg_3, isPg_4, isPg_6, asV_n, beq_self_eq_true, inb_N, inb_0, le_T, le_F, lt_T, lt_F, eq_F, le_0T, lt_0F, le_0F, eq_0F, nI_1, nI_add, pk_mul, nI_clamp, cl_0, if_true, if_false, of_nI, T_wI, L_wI, R_wI, N_wI, S_wI, T_wR, L_wR, I_wR, N_wR, S_wR, I_same, R_same, I_wIn, I_wIk, R_wRn, R_wRk, T_nwo, T_nwn, L_nwo, L_nwn, I_nwo, I_nwn, R_nwo, R_nwn, N_nw, S_nw, nar_1, nar_0, nar_01, b01_t0, b01_f0, b01_t1, b01_f1, ne_sn, eq_sn, sn_inj, M.1, M.a11.1, M.a11.2.1, M.a11.2.2.1, ix_d8, q5 (x / 8) (by omega)]
  by_cases c2 : ld st (ld st k m) (x / 8) = 0
  · rw [c2, m_pg0 M P1, if_pos rfl]
    unfold j_M_read_60_M
    simp (disch := omega) only [gd_T, dr_S, nm_v, cl_S, cv_S, bd_S, lk_L, lk_R, zbw_b, isK_e, isPg_3, isPg_4, isPg_6, asV_n, beq_self_eq_true, inb_N, inb_0, le_T, le_F, lt_T, lt_F, eq_F, le_0T, lt_0F, le_0F, eq_0F, nI_1, nI_add, pk_mul, nI_clamp, cl_0, if_true, if_false, of_nI, T_wI, L_wI, R_wI, N_wI, S_wI, T_wR, L_wR, I_wR, N_wR, S_wR, I_same, R_same, I_wIn, I_wIk, R_wRn, R_wRk, T_nwo, T_nwn, L_nwo, L_nwn, I_nwo, I_nwn, R_nwo, R_nwn, N_nw, S_nw, nar_1, nar_0, nar_01, b01_t0, b01_f0, b01_t1, b01_f1, ne_sn, eq_sn, sn_inj, le_m1, lt_m1]
    rfl
  obtain ⟨s1, s2, s3, s4, s5⟩ := S.leaf r1 r2 (j := x / 8) (by omega) c2
  have hlt2 := S.lt s1
  have e2 : lk2 st k m (x / 8) = ld st (ld st k m) (x / 8) := by unfold lk2; rw [if_neg c1]
  obtain ⟨n, n1, n2, n3, n4⟩ := m_pg M P1 (k := ld st (ld st k m) (x / 8)) (by omega) s1.pos (hr _ (rcb_t.mpr (Or.inr (Or.inr ⟨m, x / 8, hm, by omega, by rw [e2]; exact c2, e2.symm⟩))))
  obtain ⟨-, -, -, -, -, u⟩ := P4 n n1 n3
  rw [n2] at u
  obtain ⟨u1, u2⟩ := u (x % 8) (by omega)
  rw [n4, if_neg c2]
  unfold j_M_read_60_M
  simp (disch := omega) only [gd_T, dr_S, nm_v, cl_S, cv_S, bd_S, lk_L, lk_R, zbw_b, isK_e, isPg_3, isPg_4, isPg_6, asV_n, beq_self_eq_true, inb_N, inb_0, le_T, le_F, lt_T, lt_F, eq_F, le_0T, lt_0F, le_0F, eq_0F, nI_1, nI_add, pk_mul, nI_clamp, cl_0, if_true, if_false, of_nI, T_wI, L_wI, R_wI, N_wI, S_wI, T_wR, L_wR, I_wR, N_wR, S_wR, I_same, R_same, I_wIn, I_wIk, R_wRn, R_wRk, T_nwo, T_nwn, L_nwo, L_nwn, I_nwo, I_nwn, R_nwo, R_nwn, N_nw, S_nw, nar_1, nar_0, nar_01, b01_t0, b01_f0, b01_t1, b01_f1, ne_sn, eq_sn, sn_inj, M.1, M.a9.1, M.a9.2.1, M.a9.2.2.1, M.a10.1, M.a10.2.1, M.a10.2.2.1, ix_d8, md8s, sshr_1, u1]
  cases e : lfv st (ld st (ld st k m) (x / 8)) (x % 8) with
  | none => rfl
  | some w =>
    simp (disch := omega) only [gd_T, dr_S, nm_v, cl_S, cv_S, bd_S, lk_L, lk_R, zbw_b, isK_e, isPg_3, isPg_4, isPg_6, asV_n, beq_self_eq_true, inb_N, inb_0, le_T, le_F, lt_T, lt_F, eq_F, le_0T, lt_0F, le_0F, eq_0F, nI_1, nI_add, pk_mul, nI_clamp, cl_0, if_true, if_false, of_nI, T_wI, L_wI, R_wI, N_wI, S_wI, T_wR, L_wR, I_wR, N_wR, S_wR, I_same, R_same, I_wIn, I_wIk, R_wRn, R_wRk, T_nwo, T_nwn, L_nwo, L_nwn, I_nwo, I_nwn, R_nwo, R_nwn, N_nw, S_nw, nar_1, nar_0, nar_01, b01_t0, b01_f0, b01_t1, b01_f1, ne_sn, eq_sn, sn_inj, Option.isSome, u2 w e]
    rfl
/-! marks -/
def MM (h : Hp) (A : Nat → Nat) (f : Nat → Bool) : Prop := ∀ i, i < 160 → hpI h (A 12) i = b01 (f i)
theorem MM.set {h : Hp} {A : Nat → Nat} {f : Nat → Bool} {pid pat : Nat → Nat} {i k : Nat} (Q : MM h A f) (P2 : ∀ i, i < 160 → pat i < 32) (P3 : ∀ i j, i < 160 → j < 160 → pid i ≠ 0 → pid i = pid j → pat i = pat j → i = j) (hi : i < 160) (h0 : pid i ≠ 0) (e : ky pid pat i = k) : MM (wI h (A 12) i 1) A (fun j => f j || decide (ky pid pat j = k)) := by
  intro j hj
  dsimp only
  by_cases c : j = i
  · subst c
    rw [I_same, decide_eq_true e, Bool.or_true]; rfl
  · rw [I_wIk c, Q j hj, decide_eq_false (fun z => c (by
      unfold ky at e z
      have := P2 i hi
      have := P2 j hj
      exact (P3 i j hi hj h0 (by omega) (by omega)).symm)), Bool.or_false]
theorem m_mark {h : Hp} {y k : Nat} {A : Nat → Nat} {pid pat : Nat → Nat} {st : Nat → Pg} {fs np : Nat → Nat} {nxt : Nat} {f : Nat → Bool} (M : MOK h y A) (P : PR h A pid pat st np nxt) (S : SW st fs np nxt) (hv : k ≠ 0 → vk np nxt k ∧ kd st k = 2 ∧ inR pid pat st k) (Q : MM h A f) :
    ∃ h', f_M_mark y (nI k) h = some h' ∧ MM h' A (fun i => f i || (decide (k ≠ 0) && rcb st k (ky pid pat i))) ∧ hpN h' = hpN h ∧ hpS h' = hpS h := by
  by_cases c : k = 0
  · refine ⟨h, ?_, fun i hi => ?_, rfl, rfl⟩
    · unfold f_M_mark
      rw [c, gd_t (isK_of M.1), cl_s (m_pg0 M P.1), if_neg (by decide)]
    · dsimp only
      rw [dec_n c, Bool.false_and, Bool.or_false]; exact Q i hi
  obtain ⟨v, h2, hr⟩ := hv c
  have hlt := S.lt v
  obtain ⟨P1, P2, P3, P4⟩ := P
  obtain ⟨i, i1, i2, i3, i4⟩ := m_pg M P1 (by omega) v.pos (hr k (rcb_t.mpr (Or.inl rfl)))
  obtain ⟨p1, p2, p3, p4, p5, p6⟩ := P4 i i1 i3
  rw [i2] at p5
  have PgW : ∀ (g : Hp) (n : Nat) (w : Int32), PgR g A pid pat → PgR (wI g (A 12) n w) A pid pat := fun g n w q z hz => by
    simp (disch := omega) only [gd_T, dr_S, nm_v, cl_S, cv_S, bd_S, lk_L, lk_R, zbw_b, isK_e, isPg_3, isPg_4, isPg_6, asV_n, beq_self_eq_true, inb_N, inb_0, le_T, le_F, lt_T, lt_F, eq_F, le_0T, lt_0F, le_0F, eq_0F, nI_1, nI_add, pk_mul, nI_clamp, cl_0, if_true, if_false, of_nI, T_wI, L_wI, R_wI, N_wI, S_wI, T_wR, L_wR, I_wR, N_wR, S_wR, I_same, R_same, I_wIn, I_wIk, R_wRn, R_wRk, T_nwo, T_nwn, L_nwo, L_nwn, I_nwo, I_nwn, R_nwo, R_nwn, N_nw, S_nw, nar_1, nar_0, nar_01, b01_t0, b01_f0, b01_t1, b01_f1, ne_sn, eq_sn, sn_inj, mo_I M (i := 12) (j := 4) (by decide) (by decide) (by decide), mo_I M (i := 12) (j := 5) (by decide) (by decide) (by decide)]
    exact q z hz
  have inner : ∀ (r n : Nat) (f : Nat → Bool) (g : Hp), MOK g y A → PgR g A pid pat → hpI g (A 11) = hpI h (A 11) → MM g A f → n < 160 → pid n ≠ 0 → ky pid pat n = r → vk np nxt r → kd st r = 1 → (∀ j, j < 4 → ld st r j ≠ 0 → inP pid pat (ld st r j)) → ∀ y2 y3 : Int32,
      ∃ g', l_M_mark_60 y y2 y3 (nI n) ((0 : Int32), g) = some g' ∧ (MOK g' y A ∧ PgR g' A pid pat ∧ hpI g' (A 11) = hpI h (A 11) ∧ MM g' A (fun i => f i || rl st r 4 (ky pid pat i)) ∧ hpN g' = hpN g ∧ hpS g' = hpS g) := by
    intro r n f g Mg Gg eg Qg n1 n2 n3 rv r1 rin y2 y3
    obtain ⟨-, -, -, -, z5, -⟩ := P4 n n1 n2
    rw [n3] at z5
    refine lp_up (b := fun s => b_M_mark_60 y y2 y3 (nI n) s.1 s.2) (fun j s => s.1 = nI j ∧ MOK s.2 y A ∧ PgR s.2 A pid pat ∧ hpI s.2 (A 11) = hpI h (A 11) ∧ MM s.2 A (fun i => f i || rl st r j (ky pid pat i)) ∧ hpN s.2 = hpN g ∧ hpS s.2 = hpS g) _ 4 (by decide) ⟨rfl, Mg, Gg, eg, fun i hi => by dsimp only; rw [show rl st r 0 (ky pid pat i) = false from rfl, Bool.or_false]; exact Qg i hi, rfl, rfl⟩ (fun j s hj hs => Or.inl ?_) (fun s hs => ⟨s.2, ?_, hs.2⟩)
    · obtain ⟨a, q⟩ := s
      obtain ⟨b1, b2, b3, b4, b5, b6⟩ := hs
      dsimp only at b1 b2 b3 b4 b5 b6
      subst b1
      have e11 : hpI q (A 11) (4 * n + j) = nI (ld st r j) := by rw [b4]; exact z5 j hj
      by_cases c : ld st r j = 0
      · refine ⟨(nI (j + 1), q), ?_, rfl, b2, b3, b4, fun i hi => ?_, b6⟩
        · show b_M_mark_60 y y2 y3 (nI n) (nI j) q = _
          unfold b_M_mark_60
          rw [c] at e11
          simp (disch := omega) only [gd_T, dr_S, nm_v, cl_S, cv_S, bd_S, lk_L, lk_R, zbw_b, isK_e, isPg_3, isPg_4, isPg_6, asV_n, beq_self_eq_true, inb_N, inb_0, le_T, le_F, lt_T, lt_F, eq_F, le_0T, lt_0F, le_0F, eq_0F, nI_1, nI_add, pk_mul, nI_clamp, cl_0, if_true, if_false, of_nI, T_wI, L_wI, R_wI, N_wI, S_wI, T_wR, L_wR, I_wR, N_wR, S_wR, I_same, R_same, I_wIn, I_wIk, R_wRn, R_wRk, T_nwo, T_nwn, L_nwo, L_nwn, I_nwo, I_nwn, R_nwo, R_nwn, N_nw, S_nw, nar_1, nar_0, nar_01, b01_t0, b01_f0, b01_t1, b01_f1, ne_sn, eq_sn, sn_inj, b2.1, b2.a11.1, b2.a11.2.1, b2.a11.2.2.1, e11, m_pg0 b2 b3, lt_m1]
        · dsimp only
          rw [rl_s, dec_n c, Bool.false_and, Bool.or_false]; exact b5 i hi
      · obtain ⟨d1, d2, -⟩ := S.leaf rv r1 hj c
        have := S.lt d1
        obtain ⟨t, t1, t2, t3, t4⟩ := m_pg b2 b3 (k := ld st r j) (by omega) d1.pos (rin j hj c)
        refine ⟨(nI (j + 1), wI q (A 12) t 1), ?_, rfl, b2, PgW q t 1 b3, ?_, fun i hi => ?_, b6⟩
        · show b_M_mark_60 y y2 y3 (nI n) (nI j) q = _
          unfold b_M_mark_60
          simp (disch := omega) only [gd_T, dr_S, nm_v, cl_S, cv_S, bd_S, lk_L, lk_R, zbw_b, isK_e, isPg_3, isPg_4, isPg_6, asV_n, beq_self_eq_true, inb_N, inb_0, le_T, le_F, lt_T, lt_F, eq_F, le_0T, lt_0F, le_0F, eq_0F, nI_1, nI_add, pk_mul, nI_clamp, cl_0, if_true, if_false, of_nI, T_wI, L_wI, R_wI, N_wI, S_wI, T_wR, L_wR, I_wR, N_wR, S_wR, I_same, R_same, I_wIn, I_wIk, R_wRn, R_wRk, T_nwo, T_nwn, L_nwo, L_nwn, I_nwo, I_nwn, R_nwo, R_nwn, N_nw, S_nw, nar_1, nar_0, nar_01, b01_t0, b01_f0, b01_t1, b01_f1, ne_sn, eq_sn, sn_inj, b2.1, b2.a11.1, b2.a11.2.1, b2.a11.2.2.1, b2.a12.1, b2.a12.2.1, b2.a12.2.2.1, e11, t4]
        · rw [← b4]; funext z; exact mo_I M (by decide) (by decide) (by decide) _ _ _ _
        · have := b5.set P2 P3 t1 t3 t2 i hi
          dsimp only at this ⊢
          rw [this, rl_s, dec_p c, Bool.true_and, Bool.or_assoc]
    · obtain ⟨a, q⟩ := s
      obtain ⟨b1, -⟩ := hs
      dsimp only at b1
      subst b1
      show b_M_mark_60 y y2 y3 (nI n) (nI 4) q = _
      unfold b_M_mark_60
      simp (disch := omega) only [gd_T, dr_S, nm_v, cl_S, cv_S, bd_S, lk_L, lk_R, zbw_b, isK_e, isPg_3, isPg_4, isPg_6, asV_n, beq_self_eq_true, inb_N, inb_0, le_T, le_F, lt_T, lt_F, eq_F, le_0T, lt_0F, le_0F, eq_0F, nI_1, nI_add, pk_mul, nI_clamp, cl_0, if_true, if_false, of_nI, T_wI, L_wI, R_wI, N_wI, S_wI, T_wR, L_wR, I_wR, N_wR, S_wR, I_same, R_same, I_wIn, I_wIk, R_wRn, R_wRk, T_nwo, T_nwn, L_nwo, L_nwn, I_nwo, I_nwn, R_nwo, R_nwn, N_nw, S_nw, nar_1, nar_0, nar_01, b01_t0, b01_f0, b01_t1, b01_f1, ne_sn, eq_sn, sn_inj]
  have outer : ∃ g', l_M_mark_20 y (nI i) ((0 : Int32), wI h (A 12) i 1) = some g' ∧ (MOK g' y A ∧ PgR g' A pid pat ∧ hpI g' (A 11) = hpI h (A 11) ∧ MM g' A (fun z => f z || (decide (ky pid pat z = k) || rr st k 4 (ky pid pat z))) ∧ hpN g' = hpN h ∧ hpS g' = hpS h) := by
    refine lp_up (b := fun s => b_M_mark_20 y (nI i) s.1 s.2) (fun j s => s.1 = nI j ∧ MOK s.2 y A ∧ PgR s.2 A pid pat ∧ hpI s.2 (A 11) = hpI h (A 11) ∧ MM s.2 A (fun z => f z || (decide (ky pid pat z = k) || rr st k j (ky pid pat z))) ∧ hpN s.2 = hpN h ∧ hpS s.2 = hpS h) _ 4 (by decide) ⟨rfl, M, PgW h i 1 P1, by funext z; exact mo_I M (by decide) (by decide) (by decide) _ _ _ _, fun z hz => ?_, rfl, rfl⟩ (fun j s hj hs => Or.inl ?_) (fun s hs => ⟨s.2, ?_, hs.2⟩)
    · have := Q.set P2 P3 i1 i3 i2 z hz
      dsimp only at this ⊢
      rw [this, show rr st k 0 (ky pid pat z) = false from rfl, Bool.or_false]
    · obtain ⟨a, q⟩ := s
      obtain ⟨b1, b2, b3, b4, b5, b6⟩ := hs
      dsimp only at b1 b2 b3 b4 b5 b6
      subst b1
      have e11 : hpI q (A 11) (4 * i + j) = nI (ld st k j) := by rw [b4]; exact p5 j hj
      by_cases c : ld st k j = 0
      · refine ⟨(nI (j + 1), q), ?_, rfl, b2, b3, b4, fun z hz => ?_, b6⟩
        · show b_M_mark_20 y (nI i) (nI j) q = _
          unfold b_M_mark_20
          rw [c] at e11
          simp (disch := omega) only [gd_T, dr_S, nm_v, cl_S, cv_S, bd_S, lk_L, lk_R, zbw_b, isK_e, isPg_3, isPg_4, isPg_6, asV_n, beq_self_eq_true, inb_N, inb_0, le_T, le_F, lt_T, lt_F, eq_F, le_0T, lt_0F, le_0F, eq_0F, nI_1, nI_add, pk_mul, nI_clamp, cl_0, if_true, if_false, of_nI, T_wI, L_wI, R_wI, N_wI, S_wI, T_wR, L_wR, I_wR, N_wR, S_wR, I_same, R_same, I_wIn, I_wIk, R_wRn, R_wRk, T_nwo, T_nwn, L_nwo, L_nwn, I_nwo, I_nwn, R_nwo, R_nwn, N_nw, S_nw, nar_1, nar_0, nar_01, b01_t0, b01_f0, b01_t1, b01_f1, ne_sn, eq_sn, sn_inj, b2.1, b2.a11.1, b2.a11.2.1, b2.a11.2.2.1, e11, m_pg0 b2 b3, le_m1]
        · dsimp only
          rw [rr_s, dec_n c, Bool.false_and, Bool.or_false]; exact b5 z hz
      · obtain ⟨d1, d2, -⟩ := S.root v h2 hj c
        have := S.lt d1
        obtain ⟨t, t1, t2, t3, t4⟩ := m_pg b2 b3 (k := ld st k j) (by omega) d1.pos (hr _ (rcb_t.mpr (Or.inr (Or.inl ⟨j, hj, c, rfl⟩))))
        obtain ⟨g', w1, w2, w3, w4, w5, w6⟩ := inner (ld st k j) t _ (wI q (A 12) t 1) b2 (PgW q t 1 b3) (by rw [← b4]; funext z; exact mo_I M (by decide) (by decide) (by decide) _ _ _ _) (b5.set P2 P3 t1 t3 t2) t1 t3 t2 d1 d2 (fun j' hj' c' => hr _ (rcb_t.mpr (Or.inr (Or.inr ⟨j, j', hj, hj', by unfold lk2; rw [if_neg c]; exact c', by unfold lk2; rw [if_neg c]⟩)))) (nI i) (nI j)
        refine ⟨(nI (j + 1), g'), ?_, rfl, w2, w3, w4, fun z hz => ?_, w6.1.trans b6.1, w6.2.trans b6.2⟩
        · show b_M_mark_20 y (nI i) (nI j) q = _
          unfold b_M_mark_20
          simp (disch := omega) only [gd_T, dr_S, nm_v, cl_S, cv_S, bd_S, lk_L, lk_R, zbw_b, isK_e, isPg_3, isPg_4, isPg_6, asV_n, beq_self_eq_true, inb_N, inb_0, le_T, le_F, lt_T, lt_F, eq_F, le_0T, lt_0F, le_0F, eq_0F, nI_1, nI_add, pk_mul, nI_clamp, cl_0, if_true, if_false, of_nI, T_wI, L_wI, R_wI, N_wI, S_wI, T_wR, L_wR, I_wR, N_wR, S_wR, I_same, R_same, I_wIn, I_wIk, R_wRn, R_wRk, T_nwo, T_nwn, L_nwo, L_nwn, I_nwo, I_nwn, R_nwo, R_nwn, N_nw, S_nw, nar_1, nar_0, nar_01, b01_t0, b01_f0, b01_t1, b01_f1, ne_sn, eq_sn, sn_inj, b2.1, b2.a11.1, b2.a11.2.1, b2.a11.2.2.1, b2.a12.1, b2.a12.2.1, b2.a12.2.2.1, e11, t4, w1]
        · have := w5 z hz
          dsimp only at this ⊢
          rw [this, rr_s, dec_p c, Bool.true_and]
          simp only [Bool.or_assoc]
    · obtain ⟨a, q⟩ := s
      obtain ⟨b1, -⟩ := hs
      dsimp only at b1
      subst b1
      show b_M_mark_20 y (nI i) (nI 4) q = _
      unfold b_M_mark_20
      simp (disch := omega) only [gd_T, dr_S, nm_v, cl_S, cv_S, bd_S, lk_L, lk_R, zbw_b, isK_e, isPg_3, isPg_4, isPg_6, asV_n, beq_self_eq_true, inb_N, inb_0, le_T, le_F, lt_T, lt_F, eq_F, le_0T, lt_0F, le_0F, eq_0F, nI_1, nI_add, pk_mul, nI_clamp, cl_0, if_true, if_false, of_nI, T_wI, L_wI, R_wI, N_wI, S_wI, T_wR, L_wR, I_wR, N_wR, S_wR, I_same, R_same, I_wIn, I_wIk, R_wRn, R_wRk, T_nwo, T_nwn, L_nwo, L_nwn, I_nwo, I_nwn, R_nwo, R_nwn, N_nw, S_nw, nar_1, nar_0, nar_01, b01_t0, b01_f0, b01_t1, b01_f1, ne_sn, eq_sn, sn_inj]
  obtain ⟨g', w1, w2, w3, w4, w5, w6⟩ := outer
  refine ⟨g', ?_, fun z hz => ?_, w6⟩
  · unfold f_M_mark
    simp (disch := omega) only [gd_T, dr_S, nm_v, cl_S, cv_S, bd_S, lk_L, lk_R, zbw_b, isK_e, isPg_3, isPg_4, isPg_6, asV_n, beq_self_eq_true, inb_N, inb_0, le_T, le_F, lt_T, lt_F, eq_F, le_0T, lt_0F, le_0F, eq_0F, nI_1, nI_add, pk_mul, nI_clamp, cl_0, if_true, if_false, of_nI, T_wI, L_wI, R_wI, N_wI, S_wI, T_wR, L_wR, I_wR, N_wR, S_wR, I_same, R_same, I_wIn, I_wIk, R_wRn, R_wRk, T_nwo, T_nwn, L_nwo, L_nwn, I_nwo, I_nwn, R_nwo, R_nwn, N_nw, S_nw, nar_1, nar_0, nar_01, b01_t0, b01_f0, b01_t1, b01_f1, ne_sn, eq_sn, sn_inj, M.1, i4, M.a12.1, M.a12.2.1, M.a12.2.2.1, w1]
  · have := w5 z hz
    dsimp only at this ⊢
    rw [this, dec_p c, Bool.true_and]
    unfold rcb
    rfl
theorem m_markNone {h : Hp} {y : Nat} {A : Nat → Nat} (M : MOK h y A) : ∃ h', f_M_markNone y h = some h' ∧ MM h' A (fun _ => false) ∧ hpN h' = hpN h ∧ hpS h' = hpS h := by
  have key : ∃ r, l_M_markNone_2 y ((0 : Int32), h) = some r ∧ (∀ i, i < 160 → hpI r (A 12) i = 0) ∧ hpN r = hpN h ∧ hpS r = hpS h := by
    refine lp_up (b := fun s => b_M_markNone_2 y s.1 s.2) (fun j s => s.1 = nI j ∧ MOK s.2 y A ∧ (∀ i, i < j → hpI s.2 (A 12) i = 0) ∧ hpN s.2 = hpN h ∧ hpS s.2 = hpS h) _ 160 (by decide) ⟨rfl, M, fun i hi => absurd hi (Nat.not_lt_zero _), rfl, rfl⟩ (fun j s hj hs => Or.inl ?_) (fun s hs => ⟨s.2, ?_, hs.2.2⟩)
    · obtain ⟨a, q⟩ := s
      obtain ⟨b1, b2, b3, b4⟩ := hs
      dsimp only at b1 b2 b3 b4
      subst b1
      refine ⟨(nI (j + 1), wI q (A 12) j 0), ?_, rfl, b2, fun i hi => ?_, b4⟩
      · show b_M_markNone_2 y (nI j) q = _
        unfold b_M_markNone_2
        simp (disch := omega) only [gd_T, dr_S, nm_v, cl_S, cv_S, bd_S, lk_L, lk_R, zbw_b, isK_e, isPg_3, isPg_4, isPg_6, asV_n, beq_self_eq_true, inb_N, inb_0, le_T, le_F, lt_T, lt_F, eq_F, le_0T, lt_0F, le_0F, eq_0F, nI_1, nI_add, pk_mul, nI_clamp, cl_0, if_true, if_false, of_nI, T_wI, L_wI, R_wI, N_wI, S_wI, T_wR, L_wR, I_wR, N_wR, S_wR, I_same, R_same, I_wIn, I_wIk, R_wRn, R_wRk, T_nwo, T_nwn, L_nwo, L_nwn, I_nwo, I_nwn, R_nwo, R_nwn, N_nw, S_nw, nar_1, nar_0, nar_01, b01_t0, b01_f0, b01_t1, b01_f1, ne_sn, eq_sn, sn_inj, b2.1, b2.a12.1, b2.a12.2.1, b2.a12.2.2.1]
      · by_cases e : i = j
        · subst e; exact I_same
        · dsimp only
          rw [I_wIk e]; exact b3 i (by omega)
    · obtain ⟨a, q⟩ := s
      obtain ⟨b1, -⟩ := hs
      dsimp only at b1
      subst b1
      show b_M_markNone_2 y (nI 160) q = _
      unfold b_M_markNone_2
      simp (disch := omega) only [gd_T, dr_S, nm_v, cl_S, cv_S, bd_S, lk_L, lk_R, zbw_b, isK_e, isPg_3, isPg_4, isPg_6, asV_n, beq_self_eq_true, inb_N, inb_0, le_T, le_F, lt_T, lt_F, eq_F, le_0T, lt_0F, le_0F, eq_0F, nI_1, nI_add, pk_mul, nI_clamp, cl_0, if_true, if_false, of_nI, T_wI, L_wI, R_wI, N_wI, S_wI, T_wR, L_wR, I_wR, N_wR, S_wR, I_same, R_same, I_wIn, I_wIk, R_wRn, R_wRk, T_nwo, T_nwn, L_nwo, L_nwn, I_nwo, I_nwn, R_nwo, R_nwn, N_nw, S_nw, nar_1, nar_0, nar_01, b01_t0, b01_f0, b01_t1, b01_f1, ne_sn, eq_sn, sn_inj]
  obtain ⟨r, e, q1, q2⟩ := key
  refine ⟨r, ?_, q1, q2⟩
  unfold f_M_markNone
  simp (disch := omega) only [gd_T, dr_S, nm_v, cl_S, cv_S, bd_S, lk_L, lk_R, zbw_b, isK_e, isPg_3, isPg_4, isPg_6, asV_n, beq_self_eq_true, inb_N, inb_0, le_T, le_F, lt_T, lt_F, eq_F, le_0T, lt_0F, le_0F, eq_0F, nI_1, nI_add, pk_mul, nI_clamp, cl_0, if_true, if_false, of_nI, T_wI, L_wI, R_wI, N_wI, S_wI, T_wR, L_wR, I_wR, N_wR, S_wR, I_same, R_same, I_wIn, I_wIk, R_wRn, R_wRk, T_nwo, T_nwn, L_nwo, L_nwn, I_nwo, I_nwn, R_nwo, R_nwn, N_nw, S_nw, nar_1, nar_0, nar_01, b01_t0, b01_f0, b01_t1, b01_f1, ne_sn, eq_sn, sn_inj, e]
theorem MV.exS {h h' : Hp} {y : Nat} {A : Nat → Nat} {vers : List Vt} (V : MV h y A vers) (s : Sm h h' y A [27, 28, 29] [30]) : MV h' y A vers := by
  unfold MV at *
  rw [s.1 27 (by decide), s.1 28 (by decide), s.1 29 (by decide), s.2 30 (by decide)]
  exact V
/-- all that is live is there -/
def inV (pid pat : Nat → Nat) (st : Nat → Pg) (np : Nat → Nat) (nxt : Nat) (vers : List Vt) : Prop := ∀ t ∈ vers, t.2.2 ≠ 0 → vk np nxt t.2.2 ∧ kd st t.2.2 = 2 ∧ inR pid pat st t.2.2
theorem m_markKept {h : Hp} {y : Nat} {A : Nat → Nat} {pid pat : Nat → Nat} {st : Nat → Pg} {fs np : Nat → Nat} {nxt : Nat} {vers : List Vt} (M : MOK h y A) (P : PR h A pid pat st np nxt) (S : SW st fs np nxt) (V : MV h y A vers) (hv : inV pid pat st np nxt vers) :
    ∃ h', f_M_markKept y h = some h' ∧ Keep W_M_markKept h h' ∧ MM h' A (fun i => lvb st vers (ky pid pat i)) ∧ hpN h' = hpN h ∧ hpS h' = hpS h := by
  obtain ⟨g, e0, Q0, n0, s0⟩ := m_markNone M
  have K0 := fr_M_markNone (C := cT) (mi := 0) e0
  have key : ∃ r, l_M_markKept_6 y ((0 : Int32), g) = some r ∧ (MM r A (fun i => lvb st (vers.take vers.length) (ky pid pat i)) ∧ hpN r = hpN g ∧ hpS r = hpS g) := by
    refine lp_up (b := fun s => b_M_markKept_6 y s.1 s.2) (fun j s => s.1 = nI j ∧ Keep W_M_mark h s.2 ∧ MM s.2 A (fun i => lvb st (vers.take j) (ky pid pat i)) ∧ hpN s.2 = hpN g ∧ hpS s.2 = hpS g) _ vers.length (by have := V.2.1; omega) ⟨rfl, K0.mono (by decide) (by decide), fun i hi => by dsimp only; rw [List.take_zero]; exact Q0 i hi, rfl, rfl⟩ (fun j s hj hs => Or.inl ?_) (fun s hs => ⟨s.2, ?_, hs.2.2⟩)
    · obtain ⟨a, q⟩ := s
      obtain ⟨b1, b2, b3, b4⟩ := hs
      dsimp only at b1 b2 b3 b4
      subst b1
      obtain ⟨t, ht⟩ : ∃ t, vers[j]? = some t := ⟨_, List.getElem?_eq_getElem hj⟩
      have Mq := M.kw b2 (by decide)
      have Pq := P.ext (y := y) (Sm.k M b2 (by decide) (by decide))
      have Vq := V.exS (Sm.k M b2 (by decide) (by decide))
      obtain ⟨r', f1, f2, f3⟩ := m_mark Mq Pq S (k := t.2.2) (hv t (List.mem_of_getElem? ht)) b3
      have l48 := V.2.1
      refine ⟨(nI (j + 1), r'), ?_, rfl, b2.trans (fr_M_mark (C := cT) (mi := 0) f1), fun i hi => ?_, f3.1.trans b4.1, f3.2.trans b4.2⟩
      · show b_M_markKept_6 y (nI j) q = _
        unfold b_M_markKept_6
        simp (disch := omega) only [gd_T, dr_S, nm_v, cl_S, cv_S, bd_S, lk_L, lk_R, zbw_b, isK_e, isPg_3, isPg_4, isPg_6, asV_n, beq_self_eq_true, inb_N, inb_0, le_T, le_F, lt_T, lt_F, eq_F, le_0T, lt_0F, le_0F, eq_0F, nI_1, nI_add, pk_mul, nI_clamp, cl_0, if_true, if_false, of_nI, T_wI, L_wI, R_wI, N_wI, S_wI, T_wR, L_wR, I_wR, N_wR, S_wR, I_same, R_same, I_wIn, I_wIk, R_wRn, R_wRk, T_nwo, T_nwn, L_nwo, L_nwn, I_nwo, I_nwn, R_nwo, R_nwn, N_nw, S_nw, nar_1, nar_0, nar_01, b01_t0, b01_f0, b01_t1, b01_f1, ne_sn, eq_sn, sn_inj, Mq.1, Mq.a29.1, Mq.a29.2.1, Mq.a29.2.2.1, Vq.1, (Vq.2.2 j t ht).2.2, f1]
      · have := f2 i hi
        dsimp only at this ⊢
        rw [this, lvb_s ht]
    · obtain ⟨a, q⟩ := s
      obtain ⟨b1, b2, b3, b4⟩ := hs
      dsimp only at b1 b2
      subst b1
      have Mq := M.kw b2 (by decide)
      have Vq := V.exS (Sm.k M b2 (by decide) (by decide))
      have l48 := V.2.1
      show b_M_markKept_6 y (nI vers.length) q = _
      unfold b_M_markKept_6
      simp (disch := omega) only [gd_T, dr_S, nm_v, cl_S, cv_S, bd_S, lk_L, lk_R, zbw_b, isK_e, isPg_3, isPg_4, isPg_6, asV_n, beq_self_eq_true, inb_N, inb_0, le_T, le_F, lt_T, lt_F, eq_F, le_0T, lt_0F, le_0F, eq_0F, nI_1, nI_add, pk_mul, nI_clamp, cl_0, if_true, if_false, of_nI, T_wI, L_wI, R_wI, N_wI, S_wI, T_wR, L_wR, I_wR, N_wR, S_wR, I_same, R_same, I_wIn, I_wIk, R_wRn, R_wRk, T_nwo, T_nwn, L_nwo, L_nwn, I_nwo, I_nwn, R_nwo, R_nwn, N_nw, S_nw, nar_1, nar_0, nar_01, b01_t0, b01_f0, b01_t1, b01_f1, ne_sn, eq_sn, sn_inj, Mq.1, Vq.1]
  obtain ⟨r, e, q1, q2, q3⟩ := key
  have ef : f_M_markKept y h = some r := by
    unfold f_M_markKept
    simp (disch := omega) only [gd_T, dr_S, nm_v, cl_S, cv_S, bd_S, lk_L, lk_R, zbw_b, isK_e, isPg_3, isPg_4, isPg_6, asV_n, beq_self_eq_true, inb_N, inb_0, le_T, le_F, lt_T, lt_F, eq_F, le_0T, lt_0F, le_0F, eq_0F, nI_1, nI_add, pk_mul, nI_clamp, cl_0, if_true, if_false, of_nI, T_wI, L_wI, R_wI, N_wI, S_wI, T_wR, L_wR, I_wR, N_wR, S_wR, I_same, R_same, I_wIn, I_wIk, R_wRn, R_wRk, T_nwo, T_nwn, L_nwo, L_nwn, I_nwo, I_nwn, R_nwo, R_nwn, N_nw, S_nw, nar_1, nar_0, nar_01, b01_t0, b01_f0, b01_t1, b01_f1, ne_sn, eq_sn, sn_inj, M.1, e0, e]
  rw [List.take_length] at q1
  exact ⟨r, ef, fr_M_markKept (C := cT) (mi := 0) ef, q1, q2.trans n0, q3.trans s0⟩

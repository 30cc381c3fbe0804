/-! what can be read, reference -/
theorem hb_iff {g : Nat → Nat × Nat} {fs np : Nat → Nat} {nxt id q : Nat} {st : Nat → Pg} (S : SW st fs np nxt) (hg : ∀ b, b < 32 → bOK g fs np nxt b) (h1 : 1 ≤ id) (h2 : id < nxt) (hq : q < nbk np id) : hb g id q = true ↔ g (fs id + q) = (id, q) := by
  rw [hb_t]
  constructor
  · rintro ⟨b, b1, b2⟩
    rcases hg b b1 with w | ⟨w1, w2, w3, w4⟩
    · rw [b2] at w
      have := w.1
      dsimp only at this
      omega
    · rw [b2] at w3
      dsimp only at w3
      rw [← w3]; exact b2
  · intro z
    have := (S.2.1 id h1 h2).2.2
    unfold nbk at hq
    exact ⟨fs id + q, by omega, z⟩
/-- the pool holds what the blocks hold -/
def Ex (pid pat : Nat → Nat) (g : Nat → Nat × Nat) (fs np : Nat → Nat) (nxt : Nat) : Prop := ∀ k, vk np nxt k → (inP pid pat k ↔ hdk g fs k)
theorem m_pgx {h : Hp} {y k : Nat} {A pid pat : Nat → Nat} {st : Nat → Pg} {g : Nat → Nat × Nat} {fs np : Nat → Nat} {nxt : Nat} (M : MOK h y A) (P : PR h A pid pat st np nxt) (S : SW st fs np nxt) (X : Ex pid pat g fs np nxt) (v : vk np nxt k) : (hdk g fs k ∧ ∃ t, t < 160 ∧ ky pid pat t = k ∧ pid t ≠ 0 ∧ f_M_page y (nI k) h = some (nI t, h)) ∨ (¬ hdk g fs k ∧ f_M_page y (nI k) h = some (-1, h)) := by
  have := S.lt v
  by_cases c : inP pid pat k
  · obtain ⟨t, t1, t2, t3, t4⟩ := m_pg M P.1 (by omega) v.pos c
    exact Or.inl ⟨(X k v).mp c, t, t1, t2, t3, t4⟩
  · exact Or.inr ⟨fun z => c ((X k v).mpr z), m_pgn M P.1 (by omega) c⟩
theorem m_isSound {h : Hp} {y i : Nat} {A pid pat : Nat → Nat} {st : Nat → Pg} {g sg : Nat → Nat × Nat} {fs np : Nat → Nat} {nxt : Nat} (M : MOK h y A) (P : PR h A pid pat st np nxt) (S : SW st fs np nxt) (hg : ∀ b, b < 32 → bOK g fs np nxt b) (C : Bp h (A 13) (A 14) g) (C2 : Bp h (A 15) (A 16) sg) (X : Ex pid pat g fs np nxt) (hi : i < 160) (h0 : pid i ≠ 0) (h2 : kd st (ky pid pat i) = 2) : ∃ b, f_M_isSound y (nI i) h = some (b01 b, h) ∧ (b = true ↔ Rd st g fs np (pid i)) := by
  obtain ⟨P1, P2, P3, P4⟩ := P
  have P0 : PR h A pid pat st np nxt := ⟨P1, P2, P3, P4⟩
  obtain ⟨v, p2, p3, p4, p5, p6⟩ := P4 i hi h0
  have pl := P2 i hi
  obtain ⟨id, hid⟩ : ∃ id, id = pid i := ⟨_, rfl⟩
  have kk : ky pid pat i = 32 * id + pat i := by unfold ky; rw [hid]
  have i1 : 1 ≤ id := by omega
  have i2 : id < nxt := by have := v.2.1; rw [kk] at this; omega
  have pn : pat i + 1 = np id := by
    have := ((S.2.2 _ v).1.2.1).mp h2
    rw [kk, show (32 * id + pat i) / 32 = id by omega] at this
    omega
  have km : ky pid pat i = mkk np id := by rw [kk]; unfold mkk; omega
  obtain ⟨n1, n2, n3⟩ := S.2.1 id i1 i2
  have sx := S.1
  rw [← hid, Rd_iff S i1 i2]
  have a4 := (P1 i hi).1
  have a5 := (P1 i hi).2.1
  rw [← hid] at a4
  have d2 : nI (pat i) / nI 2 = nI (pat i / 2) := pk_div (by omega) (by decide) (by decide)
  have nbe : nbk np id = pat i / 2 + 1 := by unfold nbk; omega
  -- blocks
  have hy : ∀ j, j < pat i / 2 + 1 → ¬ g (fs id + j) = (id, j) → b_M_isSound_9 y (nI i) (nI id) (nI j) h = some (.inr (.inr ((0 : Int32), h))) := fun j hj hP => by
    have hh := m_holds M C C2 (id := id) (q := j) (by omega) (by omega) false
    have hf : hb g id j = false := by
      cases e : hb g id j with
      | false => rfl
      | true => exact absurd ((hb_iff S hg i1 i2 (by omega)).mp e) hP
    rw [show (bif false then sg else g) = g from rfl, hf] at hh
    unfold b_M_isSound_9
    simp (disch := omega) only [gd_T, dr_S, nm_v, cl_S, cv_S, bd_S, lk_L, lk_R, zbw_b, isK_e, isPg_3, isPg_4, isPg_6, asV_n, beq_self_eq_true, inb_N, inb_0, le_T, le_F, lt_T, lt_F, eq_F, le_0T, lt_0F, le_0F, eq_0F, nI_1, nI_add, pk_mul, nI_clamp, cl_0, if_true, if_false, of_nI, T_wI, L_wI, R_wI, N_wI, S_wI, T_wR, L_wR, I_wR, N_wR, S_wR, I_same, R_same, I_wIn, I_wIk, R_wRn, R_wRk, T_nwo, T_nwn, L_nwo, L_nwn, I_nwo, I_nwn, R_nwo, R_nwn, N_nw, S_nw, nar_1, nar_0, nar_01, b01_t0, b01_f0, b01_t1, b01_f1, ne_sn, eq_sn, sn_inj, M.1, M.a5.1, M.a5.2.1, M.a5.2.2.1, a5, d2, show f_M_holds y (nI id) (nI j) (0 : Int32) h = _ from hh]
  have hz : ∀ j, j < pat i / 2 + 1 → ¬ ¬ g (fs id + j) = (id, j) → b_M_isSound_9 y (nI i) (nI id) (nI j) h = some (.inl (nI (j + 1), h)) := fun j hj hP => by
    have hh := m_holds M C C2 (id := id) (q := j) (by omega) (by omega) false
    rw [show (bif false then sg else g) = g from rfl, (hb_iff S hg i1 i2 (by omega)).mpr (Classical.not_not.mp hP)] at hh
    unfold b_M_isSound_9
    simp (disch := omega) only [gd_T, dr_S, nm_v, cl_S, cv_S, bd_S, lk_L, lk_R, zbw_b, isK_e, isPg_3, isPg_4, isPg_6, asV_n, beq_self_eq_true, inb_N, inb_0, le_T, le_F, lt_T, lt_F, eq_F, le_0T, lt_0F, le_0F, eq_0F, nI_1, nI_add, pk_mul, nI_clamp, cl_0, if_true, if_false, of_nI, T_wI, L_wI, R_wI, N_wI, S_wI, T_wR, L_wR, I_wR, N_wR, S_wR, I_same, R_same, I_wIn, I_wIk, R_wRn, R_wRk, T_nwo, T_nwn, L_nwo, L_nwn, I_nwo, I_nwn, R_nwo, R_nwn, N_nw, S_nw, nar_1, nar_0, nar_01, b01_t0, b01_f0, b01_t1, b01_f1, ne_sn, eq_sn, sn_inj, M.1, M.a5.1, M.a5.2.1, M.a5.2.2.1, a5, d2, show f_M_holds y (nI id) (nI j) (0 : Int32) h = _ from hh]
  have he : b_M_isSound_9 y (nI i) (nI id) (nI (pat i / 2 + 1)) h = some (.inr (.inl h)) := by
    unfold b_M_isSound_9
    simp (disch := omega) only [gd_T, dr_S, nm_v, cl_S, cv_S, bd_S, lk_L, lk_R, zbw_b, isK_e, isPg_3, isPg_4, isPg_6, asV_n, beq_self_eq_true, inb_N, inb_0, le_T, le_F, lt_T, lt_F, eq_F, le_0T, lt_0F, le_0F, eq_0F, nI_1, nI_add, pk_mul, nI_clamp, cl_0, if_true, if_false, of_nI, T_wI, L_wI, R_wI, N_wI, S_wI, T_wR, L_wR, I_wR, N_wR, S_wR, I_same, R_same, I_wIn, I_wIk, R_wRn, R_wRk, T_nwo, T_nwn, L_nwo, L_nwn, I_nwo, I_nwn, R_nwo, R_nwn, N_nw, S_nw, nar_1, nar_0, nar_01, b01_t0, b01_f0, b01_t1, b01_f1, ne_sn, eq_sn, sn_inj, M.1, M.a5.1, M.a5.2.1, M.a5.2.2.1, a5, d2]
  -- leaves
  rw [km] at p5 h2 v
  have inner : ∀ m, m < 4 → ∀ t, t < 160 → pid t ≠ 0 → ky pid pat t = ld st (mkk np id) m → ld st (mkk np id) m ≠ 0 → (l_M_isSound_88 y (nI i) (nI m) (nI t) ((0 : Int32), h) = some (.inl h) ∧ ∀ j, j < 4 → ¬ (lk2 st (mkk np id) m j ≠ 0 ∧ ¬ hdk g fs (lk2 st (mkk np id) m j))) ∨ (l_M_isSound_88 y (nI i) (nI m) (nI t) ((0 : Int32), h) = some (.inr ((0 : Int32), h)) ∧ ∃ j, j < 4 ∧ lk2 st (mkk np id) m j ≠ 0 ∧ ¬ hdk g fs (lk2 st (mkk np id) m j)) := fun m hm t t1 t2 t3 t4 => by
    have l11 : ∀ j, j < 4 → hpI h (A 11) (4 * t + j) = nI (lk2 st (mkk np id) m j) := fun j hj => by
      have := (P4 t t1 t2).2.2.2.2.1 j hj
      rw [t3] at this
      unfold lk2
      rw [if_neg t4]; exact this
    have hy : ∀ j, j < 4 → (lk2 st (mkk np id) m j ≠ 0 ∧ ¬ hdk g fs (lk2 st (mkk np id) m j)) → b_M_isSound_88 y (nI i) (nI m) (nI t) (nI j) h = some (.inr (.inr ((0 : Int32), h))) := fun j hj hP => by
      obtain ⟨l1, -⟩ := S.lkk v h2 hm hj hP.1
      have e := (m_pgx M P0 S X l1).resolve_left (fun z => hP.2 z.1)
      have lt := S.lt l1
      have pos : 0 < lk2 st (mkk np id) m j := by omega
      unfold b_M_isSound_88
      simp (disch := omega) only [gd_T, dr_S, nm_v, cl_S, cv_S, bd_S, lk_L, lk_R, zbw_b, isK_e, isPg_3, isPg_4, isPg_6, asV_n, beq_self_eq_true, inb_N, inb_0, le_T, le_F, lt_T, lt_F, eq_F, le_0T, lt_0F, le_0F, eq_0F, nI_1, nI_add, pk_mul, nI_clamp, cl_0, if_true, if_false, of_nI, T_wI, L_wI, R_wI, N_wI, S_wI, T_wR, L_wR, I_wR, N_wR, S_wR, I_same, R_same, I_wIn, I_wIk, R_wRn, R_wRk, T_nwo, T_nwn, L_nwo, L_nwn, I_nwo, I_nwn, R_nwo, R_nwn, N_nw, S_nw, nar_1, nar_0, nar_01, b01_t0, b01_f0, b01_t1, b01_f1, ne_sn, eq_sn, sn_inj, M.1, M.a11.1, M.a11.2.1, M.a11.2.2.1, l11 j hj, e.2, le_m1]
    have hz : ∀ j, j < 4 → ¬ (lk2 st (mkk np id) m j ≠ 0 ∧ ¬ hdk g fs (lk2 st (mkk np id) m j)) → b_M_isSound_88 y (nI i) (nI m) (nI t) (nI j) h = some (.inl (nI (j + 1), h)) := fun j hj hP => by
      by_cases c : lk2 st (mkk np id) m j = 0
      · have e := l11 j hj
        rw [c] at e
        have le0 : (nI 0 ≤ (0 : Int32)) = True := eq_true (by decide)
        unfold b_M_isSound_88
        simp (disch := omega) only [gd_T, dr_S, nm_v, cl_S, cv_S, bd_S, lk_L, lk_R, zbw_b, isK_e, isPg_3, isPg_4, isPg_6, asV_n, beq_self_eq_true, inb_N, inb_0, le_T, le_F, lt_T, lt_F, eq_F, le_0T, lt_0F, le_0F, eq_0F, nI_1, nI_add, pk_mul, nI_clamp, cl_0, if_true, if_false, of_nI, T_wI, L_wI, R_wI, N_wI, S_wI, T_wR, L_wR, I_wR, N_wR, S_wR, I_same, R_same, I_wIn, I_wIk, R_wRn, R_wRk, T_nwo, T_nwn, L_nwo, L_nwn, I_nwo, I_nwn, R_nwo, R_nwn, N_nw, S_nw, nar_1, nar_0, nar_01, b01_t0, b01_f0, b01_t1, b01_f1, ne_sn, eq_sn, sn_inj, M.1, M.a11.1, M.a11.2.1, M.a11.2.2.1, e, le0]
      · obtain ⟨l1, -⟩ := S.lkk v h2 hm hj c
        obtain ⟨-, u, u1, u2, u3, u4⟩ := (m_pgx M P0 S X l1).resolve_right (fun z => hP ⟨c, z.1⟩)
        have lt := S.lt l1
        have pos : 0 < lk2 st (mkk np id) m j := by omega
        unfold b_M_isSound_88
        simp (disch := omega) only [gd_T, dr_S, nm_v, cl_S, cv_S, bd_S, lk_L, lk_R, zbw_b, isK_e, isPg_3, isPg_4, isPg_6, asV_n, beq_self_eq_true, inb_N, inb_0, le_T, le_F, lt_T, lt_F, eq_F, le_0T, lt_0F, le_0F, eq_0F, nI_1, nI_add, pk_mul, nI_clamp, cl_0, if_true, if_false, of_nI, T_wI, L_wI, R_wI, N_wI, S_wI, T_wR, L_wR, I_wR, N_wR, S_wR, I_same, R_same, I_wIn, I_wIk, R_wRn, R_wRk, T_nwo, T_nwn, L_nwo, L_nwn, I_nwo, I_nwn, R_nwo, R_nwn, N_nw, S_nw, nar_1, nar_0, nar_01, b01_t0, b01_f0, b01_t1, b01_f1, ne_sn, eq_sn, sn_inj, M.1, M.a11.1, M.a11.2.1, M.a11.2.2.1, l11 j hj, u4]
    have he : b_M_isSound_88 y (nI i) (nI m) (nI t) (nI 4) h = some (.inr (.inl h)) := by
      unfold b_M_isSound_88
      simp (disch := omega) only [gd_T, dr_S, nm_v, cl_S, cv_S, bd_S, lk_L, lk_R, zbw_b, isK_e, isPg_3, isPg_4, isPg_6, asV_n, beq_self_eq_true, inb_N, inb_0, le_T, le_F, lt_T, lt_F, eq_F, le_0T, lt_0F, le_0F, eq_0F, nI_1, nI_add, pk_mul, nI_clamp, cl_0, if_true, if_false, of_nI, T_wI, L_wI, R_wI, N_wI, S_wI, T_wR, L_wR, I_wR, N_wR, S_wR, I_same, R_same, I_wIn, I_wIk, R_wRn, R_wRk, T_nwo, T_nwn, L_nwo, L_nwn, I_nwo, I_nwn, R_nwo, R_nwn, N_nw, S_nw, nar_1, nar_0, nar_01, b01_t0, b01_f0, b01_t1, b01_f1, ne_sn, eq_sn, sn_inj]
    rcases lp_find (b := fun s => b_M_isSound_88 y (nI i) (nI m) (nI t) s.1 s.2) h 4 (by decide) (fun j => lk2 st (mkk np id) m j ≠ 0 ∧ ¬ hdk g fs (lk2 st (mkk np id) m j)) (fun _ => (0 : Int32)) hy hz he with ⟨e, q⟩ | ⟨j, hj, q1, q2, e⟩
    · exact Or.inl ⟨e, q⟩
    · exact Or.inr ⟨e, j, hj, q1⟩
  -- roots
  have hy2 : ∀ m, m < 4 → ((ld st (mkk np id) m ≠ 0 ∧ ¬ hdk g fs (ld st (mkk np id) m)) ∨ (ld st (mkk np id) m ≠ 0 ∧ ∃ j, j < 4 ∧ lk2 st (mkk np id) m j ≠ 0 ∧ ¬ hdk g fs (lk2 st (mkk np id) m j))) → b_M_isSound_45 y (nI i) (nI m) h = some (.inr (.inr ((0 : Int32), h))) := fun m hm hP => by
    have c : ld st (mkk np id) m ≠ 0 := hP.elim (fun z => z.1) (fun z => z.1)
    obtain ⟨l1, -⟩ := S.root v h2 hm c
    have lt := S.lt l1
    have pos : 0 < ld st (mkk np id) m := by omega
    rcases m_pgx M P0 S X l1 with ⟨z, t, t1, t2, t3, t4⟩ | ⟨z, e⟩
    · have w := (hP.resolve_left (fun q => q.2 z)).2
      rcases inner m hm t t1 t3 t2 c with ⟨-, q⟩ | ⟨e, -⟩
      · obtain ⟨j, hj, w⟩ := w
        exact absurd w (q j hj)
      · unfold b_M_isSound_45
        simp (disch := omega) only [gd_T, dr_S, nm_v, cl_S, cv_S, bd_S, lk_L, lk_R, zbw_b, isK_e, isPg_3, isPg_4, isPg_6, asV_n, beq_self_eq_true, inb_N, inb_0, le_T, le_F, lt_T, lt_F, eq_F, le_0T, lt_0F, le_0F, eq_0F, nI_1, nI_add, pk_mul, nI_clamp, cl_0, if_true, if_false, of_nI, T_wI, L_wI, R_wI, N_wI, S_wI, T_wR, L_wR, I_wR, N_wR, S_wR, I_same, R_same, I_wIn, I_wIk, R_wRn, R_wRk, T_nwo, T_nwn, L_nwo, L_nwn, I_nwo, I_nwn, R_nwo, R_nwn, N_nw, S_nw, nar_1, nar_0, nar_01, b01_t0, b01_f0, b01_t1, b01_f1, ne_sn, eq_sn, sn_inj, M.1, M.a11.1, M.a11.2.1, M.a11.2.2.1, p5 m hm, t4, e]
    · unfold b_M_isSound_45
      simp (disch := omega) only [gd_T, dr_S, nm_v, cl_S, cv_S, bd_S, lk_L, lk_R, zbw_b, isK_e, isPg_3, isPg_4, isPg_6, asV_n, beq_self_eq_true, inb_N, inb_0, le_T, le_F, lt_T, lt_F, eq_F, le_0T, lt_0F, le_0F, eq_0F, nI_1, nI_add, pk_mul, nI_clamp, cl_0, if_true, if_false, of_nI, T_wI, L_wI, R_wI, N_wI, S_wI, T_wR, L_wR, I_wR, N_wR, S_wR, I_same, R_same, I_wIn, I_wIk, R_wRn, R_wRk, T_nwo, T_nwn, L_nwo, L_nwn, I_nwo, I_nwn, R_nwo, R_nwn, N_nw, S_nw, nar_1, nar_0, nar_01, b01_t0, b01_f0, b01_t1, b01_f1, ne_sn, eq_sn, sn_inj, M.1, M.a11.1, M.a11.2.1, M.a11.2.2.1, p5 m hm, e, le_m1]
  have hz2 : ∀ m, m < 4 → ¬ ((ld st (mkk np id) m ≠ 0 ∧ ¬ hdk g fs (ld st (mkk np id) m)) ∨ (ld st (mkk np id) m ≠ 0 ∧ ∃ j, j < 4 ∧ lk2 st (mkk np id) m j ≠ 0 ∧ ¬ hdk g fs (lk2 st (mkk np id) m j))) → b_M_isSound_45 y (nI i) (nI m) h = some (.inl (nI (m + 1), h)) := fun m hm hP => by
    by_cases c : ld st (mkk np id) m = 0
    · have e := p5 m hm
      rw [c] at e
      unfold b_M_isSound_45
      simp (disch := omega) only [gd_T, dr_S, nm_v, cl_S, cv_S, bd_S, lk_L, lk_R, zbw_b, isK_e, isPg_3, isPg_4, isPg_6, asV_n, beq_self_eq_true, inb_N, inb_0, le_T, le_F, lt_T, lt_F, eq_F, le_0T, lt_0F, le_0F, eq_0F, nI_1, nI_add, pk_mul, nI_clamp, cl_0, if_true, if_false, of_nI, T_wI, L_wI, R_wI, N_wI, S_wI, T_wR, L_wR, I_wR, N_wR, S_wR, I_same, R_same, I_wIn, I_wIk, R_wRn, R_wRk, T_nwo, T_nwn, L_nwo, L_nwn, I_nwo, I_nwn, R_nwo, R_nwn, N_nw, S_nw, nar_1, nar_0, nar_01, b01_t0, b01_f0, b01_t1, b01_f1, ne_sn, eq_sn, sn_inj, M.1, M.a11.1, M.a11.2.1, M.a11.2.2.1, e, m_pg0 M P1, nz0]
    · obtain ⟨l1, -⟩ := S.root v h2 hm c
      have lt := S.lt l1
      have pos : 0 < ld st (mkk np id) m := by omega
      obtain ⟨-, t, t1, t2, t3, t4⟩ := (m_pgx M P0 S X l1).resolve_right (fun z => hP (Or.inl ⟨c, z.1⟩))
      rcases inner m hm t t1 t3 t2 c with ⟨e, -⟩ | ⟨-, w⟩
      · unfold b_M_isSound_45
        simp (disch := omega) only [gd_T, dr_S, nm_v, cl_S, cv_S, bd_S, lk_L, lk_R, zbw_b, isK_e, isPg_3, isPg_4, isPg_6, asV_n, beq_self_eq_true, inb_N, inb_0, le_T, le_F, lt_T, lt_F, eq_F, le_0T, lt_0F, le_0F, eq_0F, nI_1, nI_add, pk_mul, nI_clamp, cl_0, if_true, if_false, of_nI, T_wI, L_wI, R_wI, N_wI, S_wI, T_wR, L_wR, I_wR, N_wR, S_wR, I_same, R_same, I_wIn, I_wIk, R_wRn, R_wRk, T_nwo, T_nwn, L_nwo, L_nwn, I_nwo, I_nwn, R_nwo, R_nwn, N_nw, S_nw, nar_1, nar_0, nar_01, b01_t0, b01_f0, b01_t1, b01_f1, ne_sn, eq_sn, sn_inj, M.1, M.a11.1, M.a11.2.1, M.a11.2.2.1, p5 m hm, t4, e]
      · exact absurd (Or.inr ⟨c, w⟩) hP
  have he2 : b_M_isSound_45 y (nI i) (nI 4) h = some (.inr (.inl h)) := by
    unfold b_M_isSound_45
    simp (disch := omega) only [gd_T, dr_S, nm_v, cl_S, cv_S, bd_S, lk_L, lk_R, zbw_b, isK_e, isPg_3, isPg_4, isPg_6, asV_n, beq_self_eq_true, inb_N, inb_0, le_T, le_F, lt_T, lt_F, eq_F, le_0T, lt_0F, le_0F, eq_0F, nI_1, nI_add, pk_mul, nI_clamp, cl_0, if_true, if_false, of_nI, T_wI, L_wI, R_wI, N_wI, S_wI, T_wR, L_wR, I_wR, N_wR, S_wR, I_same, R_same, I_wIn, I_wIk, R_wRn, R_wRk, T_nwo, T_nwn, L_nwo, L_nwn, I_nwo, I_nwn, R_nwo, R_nwn, N_nw, S_nw, nar_1, nar_0, nar_01, b01_t0, b01_f0, b01_t1, b01_f1, ne_sn, eq_sn, sn_inj]
  have lk0 : ∀ m j, lk2 st (mkk np id) m j ≠ 0 → ld st (mkk np id) m ≠ 0 := fun m j z w => by
    unfold lk2 at z
    rw [if_pos w] at z; exact z rfl
  have pre : ∀ (o : Option ((Hp) ⊕ (Int32 × Hp))) (b : Bool), l_M_isSound_9 y (nI i) (nI id) ((0 : Int32), h) = o → (lk o (fun x17 => lk (l_M_isSound_45 y (nI i) ((0 : Int32), x17)) (fun x48 => some ((1 : Int32), x48)) some) some) = some (b01 b, h) → f_M_isSound y (nI i) h = some (b01 b, h) := fun o b e1 e2 => by
    refine zbw_s ?_ (zb_b _)
    unfold f0_M_isSound
    simp (disch := omega) only [gd_T, dr_S, nm_v, cl_S, cv_S, bd_S, lk_L, lk_R, zbw_b, isK_e, isPg_3, isPg_4, isPg_6, asV_n, beq_self_eq_true, inb_N, inb_0, le_T, le_F, lt_T, lt_F, eq_F, le_0T, lt_0F, le_0F, eq_0F, nI_1, nI_add, pk_mul, nI_clamp, cl_0, if_true, if_false, of_nI, T_wI, L_wI, R_wI, N_wI, S_wI, T_wR, L_wR, I_wR, N_wR, S_wR, I_same, R_same, I_wIn, I_wIk, R_wRn, R_wRk, T_nwo, T_nwn, L_nwo, L_nwn, I_nwo, I_nwn, R_nwo, R_nwn, N_nw, S_nw, nar_1, nar_0, nar_01, b01_t0, b01_f0, b01_t1, b01_f1, ne_sn, eq_sn, sn_inj, M.1, M.a4.1, M.a4.2.1, M.a4.2.2.1, a4]
    rw [e1]; exact e2
  rcases lp_find (b := fun s => b_M_isSound_9 y (nI i) (nI id) s.1 s.2) h (pat i / 2 + 1) (by omega) (fun j => ¬ g (fs id + j) = (id, j)) (fun _ => (0 : Int32)) hy hz he with ⟨e, q⟩ | ⟨j, hj, q1, q2, e⟩
  · have wh : whl g fs np id := fun t ht => Classical.not_not.mp (q t (by omega))
    rcases lp_find (b := fun s => b_M_isSound_45 y (nI i) s.1 s.2) h 4 (by decide) (fun m => (ld st (mkk np id) m ≠ 0 ∧ ¬ hdk g fs (ld st (mkk np id) m)) ∨ (ld st (mkk np id) m ≠ 0 ∧ ∃ j, j < 4 ∧ lk2 st (mkk np id) m j ≠ 0 ∧ ¬ hdk g fs (lk2 st (mkk np id) m j))) (fun _ => (0 : Int32)) hy2 hz2 he2 with ⟨e', q'⟩ | ⟨m, hm, q1', q2', e'⟩
    · refine ⟨true, pre _ _ e ?_, ⟨fun _ => ⟨wh, fun m hm => ⟨fun z => Classical.not_not.mp fun w => q' m hm (Or.inl ⟨z, w⟩), fun j hj z => Classical.not_not.mp fun w => q' m hm (Or.inr ⟨lk0 m j z, j, hj, z, w⟩)⟩⟩, fun _ => rfl⟩⟩
      rw [lk_L, show l_M_isSound_45 y (nI i) ((0 : Int32), h) = _ from e']
      rfl
    · refine ⟨false, pre _ _ e ?_, ⟨fun z => (by cases z), fun z => ?_⟩⟩
      · rw [lk_L, show l_M_isSound_45 y (nI i) ((0 : Int32), h) = _ from e']
        rfl
      · exfalso
        rcases q1' with w | ⟨-, j, hj, w⟩
        · exact w.2 ((z.2 m hm).1 w.1)
        · exact w.2 ((z.2 m hm).2 j hj w.1)
  · refine ⟨false, pre _ _ e rfl, ⟨fun z => (by cases z), fun z => absurd (z.1 j (by omega)) q1⟩⟩
theorem m_newest {h : Hp} {y : Nat} {A pid pat : Nat → Nat} {st : Nat → Pg} {g sg : Nat → Nat × Nat} {fs np : Nat → Nat} {nxt : Nat} (M : MOK h y A) (P : PR h A pid pat st np nxt) (S : SW st fs np nxt) (hg : ∀ b, b < 32 → bOK g fs np nxt b) (C : Bp h (A 13) (A 14) g) (C2 : Bp h (A 15) (A 16) sg) (X : Ex pid pat g fs np nxt) : ∃ n q, NWd st g fs np nxt n ∧ l_M_crash_114 y ((-1 : Int32), (0 : Int32), h) = some (q, h) ∧ ((n = 0 ∧ q = -1) ∨ ∃ i, i < 160 ∧ q = nI i ∧ pid i = n ∧ n ≠ 0 ∧ ky pid pat i = mkk np n) := by
  have P0 := P
  obtain ⟨P1, P2, P3, P4⟩ := P
  have sx := S.1
  have mky : ∀ i, i < 160 → pid i ≠ 0 → kd st (ky pid pat i) = 2 → ky pid pat i = mkk np (pid i) := fun i hi h0 h2 => by
    obtain ⟨v, -⟩ := P4 i hi h0
    have pl := P2 i hi
    have e := mkk_of S v h2
    rw [← e]
    unfold ky
    rw [show (32 * pid i + pat i) / 32 = pid i by omega]
  have key : ∃ r, l_M_crash_114 y ((-1 : Int32), (0 : Int32), h) = some r ∧ ∃ n q, r = (q, h) ∧ ((n = 0 ∧ q = -1) ∨ ∃ i, i < 160 ∧ q = nI i ∧ pid i = n ∧ n ≠ 0 ∧ ky pid pat i = mkk np n) ∧ (n = 0 ∨ (1 ≤ n ∧ n < nxt ∧ Rd st g fs np n)) ∧ ∀ i, i < 160 → pid i ≠ 0 → kd st (ky pid pat i) = 2 → Rd st g fs np (pid i) → pid i ≤ n := by
    refine lp_up (b := fun s => b_M_crash_114 y s.1 s.2.1 s.2.2) (fun j s => ∃ n q, s = (q, nI j, h) ∧ ((n = 0 ∧ q = -1) ∨ ∃ i, i < 160 ∧ q = nI i ∧ pid i = n ∧ n ≠ 0 ∧ ky pid pat i = mkk np n) ∧ (n = 0 ∨ (1 ≤ n ∧ n < nxt ∧ Rd st g fs np n)) ∧ ∀ i, i < j → pid i ≠ 0 → kd st (ky pid pat i) = 2 → Rd st g fs np (pid i) → pid i ≤ n) _ 160 (by decide) ⟨0, -1, rfl, Or.inl ⟨rfl, rfl⟩, Or.inl rfl, fun i hi => absurd hi (Nat.not_lt_zero _)⟩ (fun j s hj hs => Or.inl ?_) (fun s hs => ?_)
    · obtain ⟨n, q, rfl, hq, hn, hbest⟩ := hs
      have a4 := (P1 j hj).1
      have b4 := (P1 j hj).2.2.1
      have stay : (∀ (hr : pid j ≠ 0 → kd st (ky pid pat j) = 2 → Rd st g fs np (pid j) → pid j ≤ n), ∃ n' q', ((q, nI (j + 1), h) : Int32 × Int32 × Hp) = (q', nI (j + 1), h) ∧ ((n' = 0 ∧ q' = -1) ∨ ∃ i, i < 160 ∧ q' = nI i ∧ pid i = n' ∧ n' ≠ 0 ∧ ky pid pat i = mkk np n') ∧ (n' = 0 ∨ (1 ≤ n' ∧ n' < nxt ∧ Rd st g fs np n')) ∧ ∀ i, i < j + 1 → pid i ≠ 0 → kd st (ky pid pat i) = 2 → Rd st g fs np (pid i) → pid i ≤ n') := fun hr => ⟨n, q, rfl, hq, hn, fun i hi h0 h2 h3 => by
        by_cases e : i = j
        · subst e; exact hr h0 h2 h3
        · exact hbest i (by omega) h0 h2 h3⟩
      by_cases c0 : pid j = 0
      · refine ⟨(q, nI (j + 1), h), ?_, stay (fun z => absurd c0 z)⟩
        rw [c0] at a4
        have le0 : (nI 0 ≤ (0 : Int32)) = True := eq_true (by decide)
        show b_M_crash_114 y q (nI j) h = _
        unfold b_M_crash_114
        simp (disch := omega) only [gd_T, dr_S, nm_v, cl_S, cv_S, bd_S, lk_L, lk_R, zbw_b, isK_e, isPg_3, isPg_4, isPg_6, asV_n, beq_self_eq_true, inb_N, inb_0, le_T, le_F, lt_T, lt_F, eq_F, le_0T, lt_0F, le_0F, eq_0F, nI_1, nI_add, pk_mul, nI_clamp, cl_0, if_true, if_false, of_nI, T_wI, L_wI, R_wI, N_wI, S_wI, T_wR, L_wR, I_wR, N_wR, S_wR, I_same, R_same, I_wIn, I_wIk, R_wRn, R_wRk, T_nwo, T_nwn, L_nwo, L_nwn, I_nwo, I_nwn, R_nwo, R_nwn, N_nw, S_nw, nar_1, nar_0, nar_01, b01_t0, b01_f0, b01_t1, b01_f1, ne_sn, eq_sn, sn_inj, M.1, M.a4.1, M.a4.2.1, M.a4.2.2.1, a4, le0]
      · obtain ⟨v, p6, -⟩ := P4 j hj c0
        have pos : 0 < pid j := by omega
        have kl : kd st (ky pid pat j) ≤ 2 := (S.2.2 _ v).1.1
        by_cases c2 : kd st (ky pid pat j) = 2
        · rw [c2] at p6
          obtain ⟨b, es, i⟩ := m_isSound M P0 S hg C C2 X hj c0 c2
          have pin : pid j < nxt := by
            have := v.2.1
            unfold ky at this
            have := P2 j hj
            omega
          have go : (n < pid j ∨ n = 0) → b_M_crash_114 y q (nI j) h = j_M_crash_163_L114 y q (nI j) h → ∃ s', b_M_crash_114 y q (nI j) h = some (.inl s') ∧ ∃ n' q', s' = (q', nI (j + 1), h) ∧ ((n' = 0 ∧ q' = -1) ∨ ∃ i, i < 160 ∧ q' = nI i ∧ pid i = n' ∧ n' ≠ 0 ∧ ky pid pat i = mkk np n') ∧ (n' = 0 ∨ (1 ≤ n' ∧ n' < nxt ∧ Rd st g fs np n')) ∧ ∀ i, i < j + 1 → pid i ≠ 0 → kd st (ky pid pat i) = 2 → Rd st g fs np (pid i) → pid i ≤ n' := fun hlt hjj => by
            rw [hjj]
            unfold j_M_crash_163_L114
            cases b with
            | false =>
              refine ⟨(q, nI (j + 1), h), ?_, stay (fun _ _ z => by have := i.mpr z; cases this)⟩
              simp (disch := omega) only [gd_T, dr_S, nm_v, cl_S, cv_S, bd_S, lk_L, lk_R, zbw_b, isK_e, isPg_3, isPg_4, isPg_6, asV_n, beq_self_eq_true, inb_N, inb_0, le_T, le_F, lt_T, lt_F, eq_F, le_0T, lt_0F, le_0F, eq_0F, nI_1, nI_add, pk_mul, nI_clamp, cl_0, if_true, if_false, of_nI, T_wI, L_wI, R_wI, N_wI, S_wI, T_wR, L_wR, I_wR, N_wR, S_wR, I_same, R_same, I_wIn, I_wIk, R_wRn, R_wRk, T_nwo, T_nwn, L_nwo, L_nwn, I_nwo, I_nwn, R_nwo, R_nwn, N_nw, S_nw, nar_1, nar_0, nar_01, b01_t0, b01_f0, b01_t1, b01_f1, ne_sn, eq_sn, sn_inj, M.1, es]
            | true =>
              refine ⟨(nI j, nI (j + 1), h), ?_, pid j, nI j, rfl, Or.inr ⟨j, hj, rfl, rfl, c0, mky j hj c0 c2⟩, Or.inr ⟨by omega, pin, i.mp rfl⟩, fun i' hi' h0 h2 h3 => ?_⟩
              · simp (disch := omega) only [gd_T, dr_S, nm_v, cl_S, cv_S, bd_S, lk_L, lk_R, zbw_b, isK_e, isPg_3, isPg_4, isPg_6, asV_n, beq_self_eq_true, inb_N, inb_0, le_T, le_F, lt_T, lt_F, eq_F, le_0T, lt_0F, le_0F, eq_0F, nI_1, nI_add, pk_mul, nI_clamp, cl_0, if_true, if_false, of_nI, T_wI, L_wI, R_wI, N_wI, S_wI, T_wR, L_wR, I_wR, N_wR, S_wR, I_same, R_same, I_wIn, I_wIk, R_wRn, R_wRk, T_nwo, T_nwn, L_nwo, L_nwn, I_nwo, I_nwn, R_nwo, R_nwn, N_nw, S_nw, nar_1, nar_0, nar_01, b01_t0, b01_f0, b01_t1, b01_f1, ne_sn, eq_sn, sn_inj, M.1, es]
              · by_cases e : i' = j
                · subst e; exact Nat.le_refl _
                · have := hbest i' (by omega) h0 h2 h3
                  omega
          rcases hq with ⟨z1, z2⟩ | ⟨i', w1, w2, w3, w4, w5⟩
          · refine go (Or.inr z1) ?_
            rw [z2]
            unfold b_M_crash_114
            simp (disch := omega) only [gd_T, dr_S, nm_v, cl_S, cv_S, bd_S, lk_L, lk_R, zbw_b, isK_e, isPg_3, isPg_4, isPg_6, asV_n, beq_self_eq_true, inb_N, inb_0, le_T, le_F, lt_T, lt_F, eq_F, le_0T, lt_0F, le_0F, eq_0F, nI_1, nI_add, pk_mul, nI_clamp, cl_0, if_true, if_false, of_nI, T_wI, L_wI, R_wI, N_wI, S_wI, T_wR, L_wR, I_wR, N_wR, S_wR, I_same, R_same, I_wIn, I_wIk, R_wRn, R_wRk, T_nwo, T_nwn, L_nwo, L_nwn, I_nwo, I_nwn, R_nwo, R_nwn, N_nw, S_nw, nar_1, nar_0, nar_01, b01_t0, b01_f0, b01_t1, b01_f1, ne_sn, eq_sn, sn_inj, M.1, M.a4.1, M.a4.2.1, M.a4.2.2.1, M.a6.1, M.a6.2.1, M.a6.2.2.1, a4, p6, lt_m1]
          · have a4' := (P1 i' w1).1
            rw [w3] at a4'
            have b4' := (P1 i' w1).2.2.1
            by_cases c3 : pid j ≤ n
            · refine ⟨(q, nI (j + 1), h), ?_, stay (fun _ _ _ => c3)⟩
              show b_M_crash_114 y q (nI j) h = _
              rw [w2]
              unfold b_M_crash_114
              simp (disch := omega) only [gd_T, dr_S, nm_v, cl_S, cv_S, bd_S, lk_L, lk_R, zbw_b, isK_e, isPg_3, isPg_4, isPg_6, asV_n, beq_self_eq_true, inb_N, inb_0, le_T, le_F, lt_T, lt_F, eq_F, le_0T, lt_0F, le_0F, eq_0F, nI_1, nI_add, pk_mul, nI_clamp, cl_0, if_true, if_false, of_nI, T_wI, L_wI, R_wI, N_wI, S_wI, T_wR, L_wR, I_wR, N_wR, S_wR, I_same, R_same, I_wIn, I_wIk, R_wRn, R_wRk, T_nwo, T_nwn, L_nwo, L_nwn, I_nwo, I_nwn, R_nwo, R_nwn, N_nw, S_nw, nar_1, nar_0, nar_01, b01_t0, b01_f0, b01_t1, b01_f1, ne_sn, eq_sn, sn_inj, M.1, M.a4.1, M.a4.2.1, M.a4.2.2.1, M.a6.1, M.a6.2.1, M.a6.2.2.1, a4, p6, a4']
            · refine go (Or.inl (by omega)) ?_
              rw [w2]
              unfold b_M_crash_114
              simp (disch := omega) only [gd_T, dr_S, nm_v, cl_S, cv_S, bd_S, lk_L, lk_R, zbw_b, isK_e, isPg_3, isPg_4, isPg_6, asV_n, beq_self_eq_true, inb_N, inb_0, le_T, le_F, lt_T, lt_F, eq_F, le_0T, lt_0F, le_0F, eq_0F, nI_1, nI_add, pk_mul, nI_clamp, cl_0, if_true, if_false, of_nI, T_wI, L_wI, R_wI, N_wI, S_wI, T_wR, L_wR, I_wR, N_wR, S_wR, I_same, R_same, I_wIn, I_wIk, R_wRn, R_wRk, T_nwo, T_nwn, L_nwo, L_nwn, I_nwo, I_nwn, R_nwo, R_nwn, N_nw, S_nw, nar_1, nar_0, nar_01, b01_t0, b01_f0, b01_t1, b01_f1, ne_sn, eq_sn, sn_inj, M.1, M.a4.1, M.a4.2.1, M.a4.2.2.1, M.a6.1, M.a6.2.1, M.a6.2.2.1, a4, p6, a4']
        · refine ⟨(q, nI (j + 1), h), ?_, stay (fun _ z => absurd z c2)⟩
          show b_M_crash_114 y q (nI j) h = _
          unfold b_M_crash_114
          simp (disch := omega) only [gd_T, dr_S, nm_v, cl_S, cv_S, bd_S, lk_L, lk_R, zbw_b, isK_e, isPg_3, isPg_4, isPg_6, asV_n, beq_self_eq_true, inb_N, inb_0, le_T, le_F, lt_T, lt_F, eq_F, le_0T, lt_0F, le_0F, eq_0F, nI_1, nI_add, pk_mul, nI_clamp, cl_0, if_true, if_false, of_nI, T_wI, L_wI, R_wI, N_wI, S_wI, T_wR, L_wR, I_wR, N_wR, S_wR, I_same, R_same, I_wIn, I_wIk, R_wRn, R_wRk, T_nwo, T_nwn, L_nwo, L_nwn, I_nwo, I_nwn, R_nwo, R_nwn, N_nw, S_nw, nar_1, nar_0, nar_01, b01_t0, b01_f0, b01_t1, b01_f1, ne_sn, eq_sn, sn_inj, M.1, M.a4.1, M.a4.2.1, M.a4.2.2.1, M.a6.1, M.a6.2.1, M.a6.2.2.1, a4, p6]
    · obtain ⟨n, q, rfl, hq, hn, hbest⟩ := hs
      refine ⟨(q, h), ?_, n, q, rfl, hq, hn, hbest⟩
      show b_M_crash_114 y q (nI 160) h = _
      unfold b_M_crash_114
      simp (disch := omega) only [gd_T, dr_S, nm_v, cl_S, cv_S, bd_S, lk_L, lk_R, zbw_b, isK_e, isPg_3, isPg_4, isPg_6, asV_n, beq_self_eq_true, inb_N, inb_0, le_T, le_F, lt_T, lt_F, eq_F, le_0T, lt_0F, le_0F, eq_0F, nI_1, nI_add, pk_mul, nI_clamp, cl_0, if_true, if_false, of_nI, T_wI, L_wI, R_wI, N_wI, S_wI, T_wR, L_wR, I_wR, N_wR, S_wR, I_same, R_same, I_wIn, I_wIk, R_wRn, R_wRk, T_nwo, T_nwn, L_nwo, L_nwn, I_nwo, I_nwn, R_nwo, R_nwn, N_nw, S_nw, nar_1, nar_0, nar_01, b01_t0, b01_f0, b01_t1, b01_f1, ne_sn, eq_sn, sn_inj]
  obtain ⟨r, e, n, q, rfl, hq, hn, hbest⟩ := key
  refine ⟨n, q, ⟨hn, fun id z1 z2 z3 => ?_⟩, e, hq⟩
  have i1 : 1 ≤ id := by omega
  obtain ⟨v, k2, e32⟩ := mkk_vk S i1 z2
  obtain ⟨i, w1, w2, w3⟩ := (X _ v).mpr (z3.2 _ (rcb_t.mpr (Or.inl rfl)))
  have kk : ky pid pat i = mkk np id := by unfold ky; omega
  have pe : pid i = id := by rw [w2, e32]
  have := hbest i w1 (by omega) (by rw [kk]; exact k2) (by rw [pe]; exact z3)
  omega

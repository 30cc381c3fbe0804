/-! reading a version into what is present -/
theorem lgc0 (x y : Int64) : lg_cmp x y = 0 ↔ x = y := by
  constructor
  · intro h
    unfold lg_cmp at h
    split at h
    · exact absurd h (by decide)
    · split at h
      · assumption
      · exact absurd h (by decide)
  · intro h
    subst h
    unfold lg_cmp
    rw [if_neg Int64.lt_irrefl, if_pos rfl]
theorem gv_ne (v : Int32) : ¬ v.toInt64 = (1099511627776 : Int64) := fun h => by
  have := congrArg Int64.toInt h
  rw [Int32.toInt_toInt64] at this
  have a := Int32.toInt_lt v
  have b : (1099511627776 : Int64).toInt = 1099511627776 := by decide
  omega
theorem nNow_at (st : Nat → Pg) (k m x : Nat) (hx : x < 32) : nNow st k (32 * m + x) = rdv st k m x := by
  unfold nNow
  rw [show (32 * m + x) / 32 = m by omega, show (32 * m + x) % 32 = x by omega]
theorem m_load {h : Hp} {y k : Nat} {A : Nat → Nat} {pid pat : Nat → Nat} {st : Nat → Pg} {fs np : Nat → Nat} {nxt : Nat} (M : MOK h y A) (P : PR h A pid pat st np nxt) (S : SW st fs np nxt) (hv : k ≠ 0 → vk np nxt k ∧ kd st k = 2 ∧ inR pid pat st k) :
    ∃ h', f_M_load y (nI k) h = some h' ∧ MOK h' y A ∧ MNow h' A (nNow st k) ∧ MTl h' A (fun _ => false) ∧ MTm h' A (fun _ => false) ∧ hpN h' = hpN h ∧ hpS h' = hpS h := by
  have key : ∃ r, l_M_load_2 y (nI k) ((0 : Int32), h) = some r ∧ (MOK r y A ∧ (∀ i, i < 128 → hpI r (A 0) i = b01 (nNow st k i).isSome ∧ ∀ v, nNow st k i = some v → hpI r (A 3) i = v) ∧ hpN r = hpN h ∧ hpS r = hpS h) := by
    refine lp_up (b := fun s => b_M_load_2 y (nI k) s.1 s.2) (fun j s => s.1 = nI j ∧ MOK s.2 y A ∧ Keep W_M_load h s.2 ∧ (∀ i, i < j → hpI s.2 (A 0) i = b01 (nNow st k i).isSome ∧ ∀ v, nNow st k i = some v → hpI s.2 (A 3) i = v) ∧ hpN s.2 = hpN h ∧ hpS s.2 = hpS h) _ 128 (by decide) ⟨rfl, M, Keep.refl _ _, fun i hi => absurd hi (Nat.not_lt_zero _), rfl, rfl⟩ (fun j s hj hs => Or.inl ?_) (fun s hs => ⟨s.2, ?_, hs.2.1, hs.2.2.2⟩)
    · obtain ⟨a, r⟩ := s
      obtain ⟨b1, b2, b3, b4, b5⟩ := hs
      dsimp only at b1 b2 b3 b4 b5
      subst b1
      have Pr := P.ext (y := y) (Sm.k M b3 (by decide) (by decide))
      have rd := m_read (k := k) (m := j / 32) (x := j % 32) b2 Pr S hv (by omega) (by omega)
      have ej : rdv st k (j / 32) (j % 32) = nNow st k j := rfl
      rw [ej] at rd
      have d32 : nI j / nI 32 = nI (j / 32) := pk_div (by omega) (by decide) (by decide)
      have m32 : nI j - nI (j / 32 * 32) = nI (j % 32) := by
        rw [pk_sub (by omega)]
        congr 1
        omega
      cases e : nNow st k j with
      | none =>
        rw [e] at rd
        have c0 : lg_cmp (gv none) (1099511627776 : Int64) = 0 := (lgc0 _ _).mpr rfl
        have eb : b_M_load_2 y (nI k) (nI j) r = some (.inl (nI (j + 1), wI (wI r (A 0) j 0) (A 3) j 0)) := by
          unfold b_M_load_2 j_M_load_41_L2
          simp (disch := omega) only [gd_T, dr_S, nm_v, cl_S, cv_S, bd_S, lk_L, lk_R, zbw_b, isK_e, isPg_3, isPg_4, isPg_6, asV_n, beq_self_eq_true, inb_N, inb_0, le_T, le_F, lt_T, lt_F, eq_F, le_0T, lt_0F, le_0F, eq_0F, nI_1, nI_add, pk_mul, nI_clamp, cl_0, if_true, if_false, of_nI, T_wI, L_wI, R_wI, N_wI, S_wI, T_wR, L_wR, I_wR, N_wR, S_wR, I_same, R_same, I_wIn, I_wIk, R_wRn, R_wRk, T_nwo, T_nwn, L_nwo, L_nwn, I_nwo, I_nwn, R_nwo, R_nwn, N_nw, S_nw, nar_1, nar_0, nar_01, b01_t0, b01_f0, b01_t1, b01_f1, ne_sn, eq_sn, sn_inj, b2.1, d32, m32, rd, c0, b2.a0.1, b2.a0.2.1, b2.a0.2.2.1, b2.a3.1, b2.a3.2.1, b2.a3.2.2.1]
        refine ⟨_, eb, rfl, b2, b3.trans (kb_M_load_2 (C := cT) (mi := 0) eb), fun i hi => ?_, b5⟩
        dsimp only
        rw [mo_I b2 (i := 3) (j := 0) (by decide) (by decide) (by decide)]
        by_cases c : i = j
        · subst c
          rw [I_same, e]
          exact ⟨rfl, fun v hv => by cases hv⟩
        · rw [I_wIk c, I_wIk c, mo_I b2 (i := 0) (j := 3) (by decide) (by decide) (by decide)]
          exact b4 i (by omega)
      | some v =>
        rw [e] at rd
        have c0 : ¬ lg_cmp (gv (some v)) (1099511627776 : Int64) = 0 := fun z => gv_ne v ((lgc0 _ _).mp z)
        have eb : b_M_load_2 y (nI k) (nI j) r = some (.inl (nI (j + 1), wI (wI r (A 0) j 1) (A 3) j v)) := by
          unfold b_M_load_2 j_M_load_41_L2
          simp (disch := omega) only [gd_T, dr_S, nm_v, cl_S, cv_S, bd_S, lk_L, lk_R, zbw_b, isK_e, isPg_3, isPg_4, isPg_6, asV_n, beq_self_eq_true, inb_N, inb_0, le_T, le_F, lt_T, lt_F, eq_F, le_0T, lt_0F, le_0F, eq_0F, nI_1, nI_add, pk_mul, nI_clamp, cl_0, if_true, if_false, of_nI, T_wI, L_wI, R_wI, N_wI, S_wI, T_wR, L_wR, I_wR, N_wR, S_wR, I_same, R_same, I_wIn, I_wIk, R_wRn, R_wRk, T_nwo, T_nwn, L_nwo, L_nwn, I_nwo, I_nwn, R_nwo, R_nwn, N_nw, S_nw, nar_1, nar_0, nar_01, b01_t0, b01_f0, b01_t1, b01_f1, ne_sn, eq_sn, sn_inj, b2.1, d32, m32, rd]
          rw [if_neg c0]
          have e1 : ((1 : Int32) = 0) = False := eq_false (by decide)
          have e2 : (nI 1 = (0 : Int32)) = False := eq_false (by decide)
          have e3 : (gv (some v)).toInt32 = v := Int32.toInt32_toInt64 v
          have e4 : vp_nar .boolean (nI 1) = 1 := rfl
          simp (disch := omega) only [gd_T, dr_S, nm_v, cl_S, cv_S, bd_S, lk_L, lk_R, zbw_b, isK_e, isPg_3, isPg_4, isPg_6, asV_n, beq_self_eq_true, inb_N, inb_0, le_T, le_F, lt_T, lt_F, eq_F, le_0T, lt_0F, le_0F, eq_0F, nI_1, nI_add, pk_mul, nI_clamp, cl_0, if_true, if_false, of_nI, T_wI, L_wI, R_wI, N_wI, S_wI, T_wR, L_wR, I_wR, N_wR, S_wR, I_same, R_same, I_wIn, I_wIk, R_wRn, R_wRk, T_nwo, T_nwn, L_nwo, L_nwn, I_nwo, I_nwn, R_nwo, R_nwn, N_nw, S_nw, nar_1, nar_0, nar_01, b01_t0, b01_f0, b01_t1, b01_f1, ne_sn, eq_sn, sn_inj, b2.1, b2.a0.1, b2.a0.2.1, b2.a0.2.2.1, b2.a3.1, b2.a3.2.1, b2.a3.2.2.1, e1, e2, e3, e4]
        refine ⟨_, eb, rfl, b2, b3.trans (kb_M_load_2 (C := cT) (mi := 0) eb), fun i hi => ?_, b5⟩
        dsimp only
        rw [mo_I b2 (i := 3) (j := 0) (by decide) (by decide) (by decide)]
        by_cases c : i = j
        · subst c
          rw [I_same, I_same, e]
          exact ⟨rfl, fun w hw => by cases hw; rfl⟩
        · rw [I_wIk c, I_wIk c, mo_I b2 (i := 0) (j := 3) (by decide) (by decide) (by decide)]
          exact b4 i (by omega)
    · obtain ⟨a, r⟩ := s
      obtain ⟨b1, -⟩ := hs
      dsimp only at b1
      subst b1
      show b_M_load_2 y (nI k) (nI 128) r = _
      unfold b_M_load_2
      simp (disch := omega) only [gd_T, dr_S, nm_v, cl_S, cv_S, bd_S, lk_L, lk_R, zbw_b, isK_e, isPg_3, isPg_4, isPg_6, asV_n, beq_self_eq_true, inb_N, inb_0, le_T, le_F, lt_T, lt_F, eq_F, le_0T, lt_0F, le_0F, eq_0F, nI_1, nI_add, pk_mul, nI_clamp, cl_0, if_true, if_false, of_nI, T_wI, L_wI, R_wI, N_wI, S_wI, T_wR, L_wR, I_wR, N_wR, S_wR, I_same, R_same, I_wIn, I_wIk, R_wRn, R_wRk, T_nwo, T_nwn, L_nwo, L_nwn, I_nwo, I_nwn, R_nwo, R_nwn, N_nw, S_nw, nar_1, nar_0, nar_01, b01_t0, b01_f0, b01_t1, b01_f1, ne_sn, eq_sn, sn_inj]
  obtain ⟨r, e, q1, q2, q3, q4⟩ := key
  obtain ⟨h', f1, f2, f3, f4, f5, f6⟩ := m_settle q1
  have K := fr_M_settle (C := cT) (mi := 0) f1
  refine ⟨h', ?_, f2, MNow.exS (y := y) q2 (Sm.k q1 K (by decide) (by decide)), f3, f4, f5.trans q3, f6.trans q4⟩
  unfold f_M_load
  simp (disch := omega) only [gd_T, dr_S, nm_v, cl_S, cv_S, bd_S, lk_L, lk_R, zbw_b, isK_e, isPg_3, isPg_4, isPg_6, asV_n, beq_self_eq_true, inb_N, inb_0, le_T, le_F, lt_T, lt_F, eq_F, le_0T, lt_0F, le_0F, eq_0F, nI_1, nI_add, pk_mul, nI_clamp, cl_0, if_true, if_false, of_nI, T_wI, L_wI, R_wI, N_wI, S_wI, T_wR, L_wR, I_wR, N_wR, S_wR, I_same, R_same, I_wIn, I_wIk, R_wRn, R_wRk, T_nwo, T_nwn, L_nwo, L_nwn, I_nwo, I_nwn, R_nwo, R_nwn, N_nw, S_nw, nar_1, nar_0, nar_01, b01_t0, b01_f0, b01_t1, b01_f1, ne_sn, eq_sn, sn_inj, e, q1.1, f1]
theorem rdv_l {st : Nat → Pg} {k m x j : Nat} (h1 : 8 * j ≤ x) (h2 : x < 8 * j + 8) : rdv st k m x = if k = 0 then none else if lk2 st k m j = 0 then none else lfv st (lk2 st k m j) (x - 8 * j) := by
  unfold rdv
  rw [show x / 8 = j by omega, show x % 8 = x - 8 * j by omega]
theorem p_load {h : Hp} {p a0 a1 k : Nat} {now : Nat → Option Int32} {ca ka pa : Nat → Nat} {st : Nat → Pg} {fs np : Nat → Nat} {nxt : Nat} (N : PN h p a0 a1 now) (G : XG h ca ka pa st fs np nxt) (S : SW st fs np nxt) (hv : k ≠ 0 → vk np nxt k ∧ kd st k = 2) :
    ∃ h', f_P_load p (ck pa k) h = some h' ∧ PN h' p a0 a1 (nNow st k) ∧ PT h' p (fun _ => false) (fun _ => false) ∧ hpN h' = hpN h ∧ hpS h' = hpS h := by
  obtain ⟨n1, n2, n3, n4, n5, n6, n7, n8, n9, n10⟩ := N.1
  obtain ⟨ft, pt⟩ := p_forget (h := h) n1
  obtain ⟨g, hg⟩ : ∃ g, g = wI (wI h p 2 0) p 3 0 := ⟨_, rfl⟩
  rw [← hg] at ft pt
  have Kg := fr_P_forgetTouched (C := cT) (mi := 0) ft
  have Kg' : Keep W_P_load h g := Kg.mono (by decide) (by decide)
  have n01 : a0 ≠ a1 := ne_T (h := h) (by rw [n4, n8]; decide)
  have np0 : p ≠ a0 := ne_T (h := h) (by rw [n1, n4]; decide)
  have np1 : p ≠ a1 := ne_T (h := h) (by rw [n1, n8]; decide)
  have base : ∀ r, Keep W_P_load h r → hpT r p = 5 ∧ hpR r p 0 = some a0 ∧ hpT r a0 = 66 ∧ hpL r a0 = 128 ∧ hpR r p 1 = some a1 ∧ hpT r a1 = 67 ∧ hpL r a1 = 4 := fun r K => by
    have t := K.2.2.1
    exact ⟨by rw [(t _ n2).1]; exact n1, by rw [(K.I n2 n1 (by decide)).2]; exact n3, by rw [(t _ n6).1]; exact n4, by rw [(t _ n6).2]; exact n5, by rw [(K.I n2 n1 (by decide)).2]; exact n7, by rw [(t _ n10).1]; exact n8, by rw [(t _ n10).2]; exact n9⟩
  have inner : ∀ (m : Nat) (q : Hp), m < 4 → Keep W_P_load h q → hpI q a1 m = 0 → ∃ r, l_P_load_20 p (ck pa k) (nI m) ((0 : Int32), q) = some r ∧ (Keep W_P_load h r ∧ (∀ z, z ≠ m → hpI r a1 z = hpI q a1 z) ∧ (∀ z, z < 32 * m ∨ 32 * m + 32 ≤ z → hpI r a0 z = hpI q a0 z) ∧ hpI r p = hpI q p ∧ (∀ x, x < 32 → bt (hpI r a1 m) x = (decide (x < 8 * 4) && (rdv st k m x).isSome)) ∧ (∀ x, x < 8 * 4 → ∀ w, rdv st k m x = some w → hpI r a0 (32 * m + x) = w) ∧ hpN r = hpN q ∧ hpS r = hpS q) := by
    intro m q hm Kq q0
    refine lp_up (b := fun s => b_P_load_20 p (ck pa k) (nI m) s.1 s.2) (fun j s => s.1 = nI j ∧ Keep W_P_load h s.2 ∧ (∀ z, z ≠ m → hpI s.2 a1 z = hpI q a1 z) ∧ (∀ z, z < 32 * m ∨ 32 * m + 32 ≤ z → hpI s.2 a0 z = hpI q a0 z) ∧ hpI s.2 p = hpI q p ∧ (∀ x, x < 32 → bt (hpI s.2 a1 m) x = (decide (x < 8 * j) && (rdv st k m x).isSome)) ∧ (∀ x, x < 8 * j → ∀ w, rdv st k m x = some w → hpI s.2 a0 (32 * m + x) = w) ∧ hpN s.2 = hpN q ∧ hpS s.2 = hpS q) _ 4 (by decide) ⟨rfl, Kq, fun _ _ => rfl, fun _ _ => rfl, rfl, fun x hx => ?_, fun x hx => absurd hx (Nat.not_lt_zero _), rfl, rfl⟩ (fun j s hj hs => Or.inl ?_) (fun s hs => ⟨s.2, ?_, hs.2⟩)
    · show bt (hpI q a1 m) x = _
      rw [q0, b_0, decide_eq_false (by omega), Bool.false_and]
    · obtain ⟨a, r⟩ := s
      obtain ⟨b1, b2, b3, b4, b5, b6, b7, b8⟩ := hs
      dsimp only at b1 b2 b3 b4 b5 b6 b7 b8
      subst b1
      obtain ⟨p1, p2, p3, p4, p5, p6, p7⟩ := base r b2
      have Gr := G.ext (Sx.k b2 (by decide))
      have none_case : (∀ x, 8 * j ≤ x → x < 8 * j + 8 → rdv st k m x = none) → ∀ x, x < 32 → bt (hpI r a1 m) x = (decide (x < 8 * (j + 1)) && (rdv st k m x).isSome) := fun hn x hx => by
        rw [b6 x hx]
        by_cases c : x < 8 * j
        · rw [decide_eq_true c, decide_eq_true (show x < 8 * (j + 1) by omega)]
        · by_cases d : x < 8 * j + 8
          · rw [hn x (by omega) d]; simp
          · rw [decide_eq_false c, decide_eq_false (show ¬ x < 8 * (j + 1) by omega)]
      have none_val : (∀ x, 8 * j ≤ x → x < 8 * j + 8 → rdv st k m x = none) → ∀ x, x < 8 * (j + 1) → ∀ w, rdv st k m x = some w → hpI r a0 (32 * m + x) = w := fun hn x hx w hw => by
        by_cases c : x < 8 * j
        · exact b7 x c w hw
        · rw [hn x (by omega) (by omega)] at hw; cases hw
      by_cases c : k = 0
      · have hn : ∀ x, 8 * j ≤ x → x < 8 * j + 8 → rdv st k m x = none := fun x h1 h2 => by rw [rdv_l h1 h2, if_pos c]
        refine ⟨(nI (j + 1), r), ?_, rfl, b2, b3, b4, b5, none_case hn, none_val hn, b8⟩
        show b_P_load_20 p (ck pa k) (nI m) (nI j) r = _
        unfold b_P_load_20 j_P_load_39_L20
        rw [c, ck_0]
        simp (disch := omega) only [gd_T, dr_S, nm_v, cl_S, cv_S, bd_S, lk_L, lk_R, zbw_b, isK_e, isPg_3, isPg_4, isPg_6, asV_n, beq_self_eq_true, inb_N, inb_0, le_T, le_F, lt_T, lt_F, eq_F, le_0T, lt_0F, le_0F, eq_0F, nI_1, nI_add, pk_mul, nI_clamp, cl_0, if_true, if_false, of_nI, T_wI, L_wI, R_wI, N_wI, S_wI, T_wR, L_wR, I_wR, N_wR, S_wR, I_same, R_same, I_wIn, I_wIk, R_wRn, R_wRk, T_nwo, T_nwn, L_nwo, L_nwn, I_nwo, I_nwn, R_nwo, R_nwn, N_nw, S_nw, nar_1, nar_0, nar_01, b01_t0, b01_f0, b01_t1, b01_f1, ne_sn, eq_sn, sn_inj]
      · obtain ⟨v, k2⟩ := hv c
        have lo2 := e_leafOf Gr S v k2 hm hj
        have mt := ((Gr.po v).meta k2).1
        by_cases z : lk2 st k m j = 0
        · have hn : ∀ x, 8 * j ≤ x → x < 8 * j + 8 → rdv st k m x = none := fun x h1 h2 => by rw [rdv_l h1 h2, if_neg c, if_pos z]
          refine ⟨(nI (j + 1), r), ?_, rfl, b2, b3, b4, b5, none_case hn, none_val hn, b8⟩
          show b_P_load_20 p (ck pa k) (nI m) (nI j) r = _
          rw [z, ck_0] at lo2
          unfold b_P_load_20 j_P_load_39_L20
          rw [ck_s c]
          simp (disch := omega) only [gd_T, dr_S, nm_v, cl_S, cv_S, bd_S, lk_L, lk_R, zbw_b, isK_e, isPg_3, isPg_4, isPg_6, asV_n, beq_self_eq_true, inb_N, inb_0, le_T, le_F, lt_T, lt_F, eq_F, le_0T, lt_0F, le_0F, eq_0F, nI_1, nI_add, pk_mul, nI_clamp, cl_0, if_true, if_false, of_nI, T_wI, L_wI, R_wI, N_wI, S_wI, T_wR, L_wR, I_wR, N_wR, S_wR, I_same, R_same, I_wIn, I_wIk, R_wRn, R_wRk, T_nwo, T_nwn, L_nwo, L_nwn, I_nwo, I_nwn, R_nwo, R_nwn, N_nw, S_nw, nar_1, nar_0, nar_01, b01_t0, b01_f0, b01_t1, b01_f1, ne_sn, eq_sn, sn_inj, mt, lo2]
        · obtain ⟨l1, l2, -⟩ := S.lkk v k2 hm hj z
          obtain ⟨f1, f2, f3, f4, f5, f6, f7⟩ := (Gr.po l1).leaf l2
          have pn := (Gr.po l1).1
          obtain ⟨la, hla⟩ : ∃ la, la = pa (lk2 st k m j) := ⟨_, rfl⟩
          rw [← hla] at f1 f2 f3 f4 f5 f6 f7 pn
          rw [ck_s z, ← hla] at lo2
          have hx : ∀ x, 8 * j ≤ x → x < 8 * j + 8 → rdv st k m x = lfv st (lk2 st k m j) (x - 8 * j) := fun x h1 h2 => by rw [rdv_l h1 h2, if_neg c, if_neg z]
          have la1 : la ≠ a1 := ne_T (h := r) (by rw [f1, p6]; decide)
          have lb0 : la + 1 ≠ a0 := ne_T (h := r) (by rw [f3, p3]; decide)
          have lb1 : la + 1 ≠ a1 := ne_T (h := r) (by rw [f3, p6]; decide)
          obtain ⟨g1, hg1⟩ : ∃ g1, g1 = wI r a1 m (hpI r a1 m ||| (hpI r la 4 <<< (nI (8 * j) &&& 31))) := ⟨_, rfl⟩
          have cb : cpB g1 (la + 1) a0 (nI 0) (nI (32 * m + 8 * j)) (nI 8) = true := by
            rw [hg1]
            exact cp_T (by show _ ≤ hpL r _; rw [f4]; omega) (by show _ ≤ hpL r _; rw [p4]; omega) (by show hpL r _ < _; rw [f4]; decide) (by show hpL r _ < _; rw [p4]; decide)
          have eb : b_P_load_20 p (ck pa k) (nI m) (nI j) r = some (.inl (nI (j + 1), cpI g1 (la + 1) 0 a0 (32 * m + 8 * j) 8)) := by
            unfold b_P_load_20 j_P_load_39_L20
            rw [ck_s c]
            simp (disch := omega) only [gd_T, dr_S, nm_v, cl_S, cv_S, bd_S, lk_L, lk_R, zbw_b, isK_e, isPg_3, isPg_4, isPg_6, asV_n, beq_self_eq_true, inb_N, inb_0, le_T, le_F, lt_T, lt_F, eq_F, le_0T, lt_0F, le_0F, eq_0F, nI_1, nI_add, pk_mul, nI_clamp, cl_0, if_true, if_false, of_nI, T_wI, L_wI, R_wI, N_wI, S_wI, T_wR, L_wR, I_wR, N_wR, S_wR, I_same, R_same, I_wIn, I_wIk, R_wRn, R_wRk, T_nwo, T_nwn, L_nwo, L_nwn, I_nwo, I_nwn, R_nwo, R_nwn, N_nw, S_nw, nar_1, nar_0, nar_01, b01_t0, b01_f0, b01_t1, b01_f1, ne_sn, eq_sn, sn_inj, mt, lo2, p1, p5, p6, p7, f1, f2, p2, f3, p3]
            rw [← hg1]
            rw [show ((0 : Int32)) = nI 0 from rfl, gd_t cb]
          refine ⟨_, eb, rfl, b2.trans (kb_P_load_20 (C := cT) (mi := 0) eb), fun y hy => ?_, fun y hy => ?_, ?_, fun x hx2 => ?_, fun x hx2 w hw => ?_, by show hpN g1 = _; rw [hg1]; exact b8.1, by show hpS g1 = _; rw [hg1]; exact b8.2⟩
          · dsimp only
            rw [I_cIn (Ne.symm n01), hg1, I_wIk hy]; exact b3 y hy
          · dsimp only
            have : hpI (cpI g1 (la + 1) 0 a0 (32 * m + 8 * j) 8) a0 y = hpI g1 a0 y := if_neg (by omega)
            rw [this, hg1, I_wIn n01]; exact b4 y hy
          · dsimp only
            rw [← b5]
            funext y
            rw [I_cIn np0, hg1, I_wIn np1]
          · dsimp only
            rw [I_cIn (Ne.symm n01), hg1, I_same, b_or, b6 x hx2, b_shl (8 * j) (by omega) _ hx2]
            by_cases d : x < 8 * j
            · rw [decide_eq_true d, decide_eq_true (show x < 8 * (j + 1) by omega), decide_eq_false (show ¬ 8 * j ≤ x by omega), Bool.false_and, Bool.or_false]
            · rw [decide_eq_false d, decide_eq_true (show 8 * j ≤ x by omega), Bool.false_and, Bool.false_or, Bool.true_and]
              by_cases d2 : x < 8 * j + 8
              · rw [decide_eq_true (show x < 8 * (j + 1) by omega), Bool.true_and, hx x (by omega) d2]
                exact (f6 (x - 8 * j) (by omega)).1
              · rw [decide_eq_false (show ¬ x < 8 * (j + 1) by omega), Bool.false_and]
                exact f7 _ (by omega)
          · dsimp only
            by_cases d : x < 8 * j
            · have : hpI (cpI g1 (la + 1) 0 a0 (32 * m + 8 * j) 8) a0 (32 * m + x) = hpI g1 a0 (32 * m + x) := if_neg (by omega)
              rw [this, hg1, I_wIn n01]; exact b7 x d w hw
            · rw [I_cIb (by omega) (by omega), hg1, I_wIn lb1]
              rw [hx x (by omega) (by omega)] at hw
              have := (f6 (x - 8 * j) (by omega)).2 w hw
              rw [show 0 + (32 * m + x - (32 * m + 8 * j)) = x - 8 * j by omega]; exact this
    · obtain ⟨a, r⟩ := s
      obtain ⟨b1, -⟩ := hs
      dsimp only at b1
      subst b1
      show b_P_load_20 p (ck pa k) (nI m) (nI 4) r = _
      unfold b_P_load_20
      simp (disch := omega) only [gd_T, dr_S, nm_v, cl_S, cv_S, bd_S, lk_L, lk_R, zbw_b, isK_e, isPg_3, isPg_4, isPg_6, asV_n, beq_self_eq_true, inb_N, inb_0, le_T, le_F, lt_T, lt_F, eq_F, le_0T, lt_0F, le_0F, eq_0F, nI_1, nI_add, pk_mul, nI_clamp, cl_0, if_true, if_false, of_nI, T_wI, L_wI, R_wI, N_wI, S_wI, T_wR, L_wR, I_wR, N_wR, S_wR, I_same, R_same, I_wIn, I_wIk, R_wRn, R_wRk, T_nwo, T_nwn, L_nwo, L_nwn, I_nwo, I_nwn, R_nwo, R_nwn, N_nw, S_nw, nar_1, nar_0, nar_01, b01_t0, b01_f0, b01_t1, b01_f1, ne_sn, eq_sn, sn_inj]
  have outer : ∃ r, l_P_load_6 p (ck pa k) ((0 : Int32), g) = some r ∧ (Keep W_P_load h r ∧ hpI r p = hpI g p ∧ (∀ m x, m < 4 → x < 32 → bt (hpI r a1 m) x = (rdv st k m x).isSome ∧ ∀ w, rdv st k m x = some w → hpI r a0 (32 * m + x) = w) ∧ hpN r = hpN h ∧ hpS r = hpS h) := by
    refine lp_up (b := fun s => b_P_load_6 p (ck pa k) s.1 s.2) (fun m s => s.1 = nI m ∧ Keep W_P_load h s.2 ∧ hpI s.2 p = hpI g p ∧ (∀ m' x, m' < m → x < 32 → bt (hpI s.2 a1 m') x = (rdv st k m' x).isSome ∧ ∀ w, rdv st k m' x = some w → hpI s.2 a0 (32 * m' + x) = w) ∧ hpN s.2 = hpN h ∧ hpS s.2 = hpS h) _ 4 (by decide) ⟨rfl, Kg', rfl, fun m' x hm' => absurd hm' (Nat.not_lt_zero _), by rw [hg]; rfl, by rw [hg]; rfl⟩ (fun m s hm hs => Or.inl ?_) (fun s hs => ⟨s.2, ?_, hs.2⟩)
    · obtain ⟨a, r⟩ := s
      obtain ⟨b1, b2, b3, b4, b5⟩ := hs
      dsimp only at b1 b2 b3 b4 b5
      subst b1
      obtain ⟨p1, p2, p3, p4, p5, p6, p7⟩ := base r b2
      have K1 : Keep W_P_load h (wI r a1 m 0) := b2.trans (kw_I rfl p6 (Or.inr (by decide)))
      obtain ⟨r', e, c1, c2, c3, c4, c5, c6, c7, c8⟩ := inner m (wI r a1 m 0) hm K1 I_same
      refine ⟨(nI (m + 1), r'), ?_, rfl, c1, ?_, fun m' x hm' hx => ?_, c7.trans b5.1, c8.trans b5.2⟩
      · show b_P_load_6 p (ck pa k) (nI m) r = _
        unfold b_P_load_6
        simp (disch := omega) only [gd_T, dr_S, nm_v, cl_S, cv_S, bd_S, lk_L, lk_R, zbw_b, isK_e, isPg_3, isPg_4, isPg_6, asV_n, beq_self_eq_true, inb_N, inb_0, le_T, le_F, lt_T, lt_F, eq_F, le_0T, lt_0F, le_0F, eq_0F, nI_1, nI_add, pk_mul, nI_clamp, cl_0, if_true, if_false, of_nI, T_wI, L_wI, R_wI, N_wI, S_wI, T_wR, L_wR, I_wR, N_wR, S_wR, I_same, R_same, I_wIn, I_wIk, R_wRn, R_wRk, T_nwo, T_nwn, L_nwo, L_nwn, I_nwo, I_nwn, R_nwo, R_nwn, N_nw, S_nw, nar_1, nar_0, nar_01, b01_t0, b01_f0, b01_t1, b01_f1, ne_sn, eq_sn, sn_inj, p1, p5, p6, p7, e]
      · dsimp only
        rw [c4, ← b3]
        funext z
        rw [I_wIn np1]
      · dsimp only
        by_cases d : m' = m
        · subst d
          refine ⟨?_, fun w hw => c6 x (by omega) w hw⟩
          rw [c5 x hx, decide_eq_true (by omega), Bool.true_and]
        · rw [c2 m' d, I_wIk d, c3 _ (by omega), I_wIn n01]
          exact b4 m' x (by omega) hx
    · obtain ⟨a, r⟩ := s
      obtain ⟨b1, -⟩ := hs
      dsimp only at b1
      subst b1
      show b_P_load_6 p (ck pa k) (nI 4) r = _
      unfold b_P_load_6
      simp (disch := omega) only [gd_T, dr_S, nm_v, cl_S, cv_S, bd_S, lk_L, lk_R, zbw_b, isK_e, isPg_3, isPg_4, isPg_6, asV_n, beq_self_eq_true, inb_N, inb_0, le_T, le_F, lt_T, lt_F, eq_F, le_0T, lt_0F, le_0F, eq_0F, nI_1, nI_add, pk_mul, nI_clamp, cl_0, if_true, if_false, of_nI, T_wI, L_wI, R_wI, N_wI, S_wI, T_wR, L_wR, I_wR, N_wR, S_wR, I_same, R_same, I_wIn, I_wIk, R_wRn, R_wRk, T_nwo, T_nwn, L_nwo, L_nwn, I_nwo, I_nwn, R_nwo, R_nwn, N_nw, S_nw, nar_1, nar_0, nar_01, b01_t0, b01_f0, b01_t1, b01_f1, ne_sn, eq_sn, sn_inj]
  obtain ⟨r, e, K, q1, q2, q3, q4⟩ := outer
  obtain ⟨p1, p2, p3, p4, p5, p6, p7⟩ := base r K
  have l := K.1
  refine ⟨r, ?_, ⟨⟨p1, by omega, p2, p3, p4, by omega, p5, p6, p7, by omega⟩, fun m x hm hx => ?_⟩, ?_, q3, q4⟩
  · unfold f_P_load
    simp (disch := omega) only [gd_T, dr_S, nm_v, cl_S, cv_S, bd_S, lk_L, lk_R, zbw_b, isK_e, isPg_3, isPg_4, isPg_6, asV_n, beq_self_eq_true, inb_N, inb_0, le_T, le_F, lt_T, lt_F, eq_F, le_0T, lt_0F, le_0F, eq_0F, nI_1, nI_add, pk_mul, nI_clamp, cl_0, if_true, if_false, of_nI, T_wI, L_wI, R_wI, N_wI, S_wI, T_wR, L_wR, I_wR, N_wR, S_wR, I_same, R_same, I_wIn, I_wIk, R_wRn, R_wRk, T_nwo, T_nwn, L_nwo, L_nwn, I_nwo, I_nwn, R_nwo, R_nwn, N_nw, S_nw, nar_1, nar_0, nar_01, b01_t0, b01_f0, b01_t1, b01_f1, ne_sn, eq_sn, sn_inj, n1, ft, e]
  · rw [nNow_at st k m x hx]; exact q2 m x hm hx
  · unfold PT
    rw [q1]; exact pt

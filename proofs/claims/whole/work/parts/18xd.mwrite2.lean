def bld (st : Nat → Pg) (bm m j : Nat) : Nat := if bm = 0 then 0 else lk2 st bm m j
def brt (st : Nat → Pg) (bm m : Nat) : Nat := if bm = 0 then 0 else ld st bm m
theorem bld_rt (st : Nat → Pg) (bm m j : Nat) : bld st bm m j = if brt st bm m = 0 then 0 else ld st (brt st bm m) j := by
  unfold bld brt lk2
  by_cases c : bm = 0
  · rw [if_pos c, if_pos c, if_pos rfl]
  · rw [if_neg c, if_neg c]
theorem m_leads {h : Hp} {y m id i bm : Nat} {A : Nat → Nat} {now : Nat → Option Int32} {tl : Nat → Bool} {st : Nat → Pg} {L : List Pg} {y5 q6 : Int32} (M : MOK h y A) (N : MNow h A now) (T : MTl h A tl) (hm : m < 4) (hi : i < 160) (hid2 : id < 2 ^ 14) (hl : L.length + 4 < 100) (h0 : ∀ z, 4 * i ≤ z → z < 4 * i + 4 → hpI h (A 11) z = 0)
    (hq : (q6 = -1 ∧ ∀ j, j < 4 → bld st bm m j = 0) ∨ ∃ t, t < 160 ∧ t ≠ i ∧ q6 = nI t ∧ ∀ j, j < 4 → hpI h (A 11) (4 * t + j) = nI (bld st bm m j)) :
    ∃ h', l_M_writeMap_200 y (nI m) (nI id) y5 q6 (nI i) (nI L.length, (0 : Int32), h) = some h' ∧ (MOK h' y A ∧ Only [A 11] h h' ∧ (∀ z, z < 4 * i ∨ 4 * i + 4 ≤ z → hpI h' (A 11) z = hpI h (A 11) z) ∧ (∀ j, j < 4 → hpI h' (A 11) (4 * i + j) = if j < 4 then nI (rld now tl st bm id m L j) else 0) ∧ hpN h' = hpN h ∧ hpS h' = hpS h) := by
  refine lp_up (b := fun s => b_M_writeMap_200 y (nI m) (nI id) y5 q6 (nI i) s.1 s.2.1 s.2.2) (fun j s => s.1 = nI (wls now tl m L j).length ∧ s.2.1 = nI j ∧ MOK s.2.2 y A ∧ Only [A 11] h s.2.2 ∧ (∀ z, z < 4 * i ∨ 4 * i + 4 ≤ z → hpI s.2.2 (A 11) z = hpI h (A 11) z) ∧ (∀ z, z < 4 → hpI s.2.2 (A 11) (4 * i + z) = if z < j then nI (rld now tl st bm id m L z) else 0) ∧ hpN s.2.2 = hpN h ∧ hpS s.2.2 = hpS h) _ 4 (by decide) ⟨rfl, rfl, M, Only.refl _ _, fun _ _ => rfl, fun z hz => by rw [if_neg (Nat.not_lt_zero _)]; exact h0 _ (by omega) (by omega), rfl, rfl⟩ (fun j s hj hs => Or.inl ?_) (fun s hs => ⟨s.2.2, ?_, hs.2.2⟩)
  · obtain ⟨a, b, r⟩ := s
    obtain ⟨b1, b2, b3, b4, b5, b6, b7⟩ := hs
    dsimp only at b1 b2 b3 b4 b5 b6 b7
    subst b1 b2
    have o1 : ∀ q, 66 ≤ mk q → q ≠ 11 → hpI r (A q) = hpI h (A q) := fun q h1 h2 => (b4.at1 (M.2.2 q h1).2.2.2 (M.ne h1 (by decide) h2)).1
    have Nr := N.exS (y := y) (h' := r) ⟨fun q hq => by
      simp only [List.mem_cons, List.not_mem_nil, or_false] at hq
      rcases hq with e | e <;> subst e <;> exact o1 _ (by decide) (by decide), fun _ hq => by cases hq⟩
    have e1 : hpI r (A 1) (4 * m + j) = b01 (tl (4 * m + j)) := by rw [o1 1 (by decide) (by decide)]; exact T _ (by omega)
    have e2 := m_leafHas b3 Nr hm hj
    have wl : (wls now tl m L j).length ≤ L.length + 4 := by
      rw [wls_len]
      have := cn_le (nl now tl m) j
      omega
    have fin : ∀ (v : Nat), rld now tl st bm id m L j = v → ∀ z, z < 4 → hpI (wI r (A 11) (4 * i + j) (nI v)) (A 11) (4 * i + z) = if z < j + 1 then nI (rld now tl st bm id m L z) else 0 := fun v hv z hz => by
      by_cases e : z = j
      · subst e; rw [I_same, if_pos (Nat.lt_succ_self _), hv]
      · rw [I_wIk (by omega), b6 z hz]
        by_cases c : z < j
        · rw [if_pos c, if_pos (by omega)]
        · rw [if_neg c, if_neg (by omega)]
    have out : ∀ (v : Int32) z, z < 4 * i ∨ 4 * i + 4 ≤ z → hpI (wI r (A 11) (4 * i + j) v) (A 11) z = hpI h (A 11) z := fun v z hz => by
      rw [I_wIk (by omega)]; exact b5 z hz
    cases c1 : tl (4 * m + j) with
    | false =>
      rw [c1] at e1
      have Le : wls now tl m L (j + 1) = wls now tl m L j := by
        show wls now tl m L j ++ _ = _
        unfold nl; rw [c1]; exact List.append_nil _
      have rl2 : rld now tl st bm id m L j = bld st bm m j := by unfold rld bld; rw [c1]; rfl
      have eb : b_M_writeMap_200 y (nI m) (nI id) y5 q6 (nI i) (nI (wls now tl m L j).length) (nI j) r = some (.inl (nI (wls now tl m L j).length, nI (j + 1), wI r (A 11) (4 * i + j) (nI (bld st bm m j)))) := by
        unfold b_M_writeMap_200
        rcases hq with ⟨q1, q2⟩ | ⟨t, t1, t2, t3, t4⟩
        · rw [q1, q2 j hj]
          simp (disch := omega) only [gd_T, dr_S, nm_v, cl_S, cv_S, bd_S, lk_L, lk_R, zbw_b, isK_e, isPg_3, isPg_4, isPg_6, asV_n, beq_self_eq_true, inb_N, inb_0, le_T, le_F, lt_T, lt_F, eq_F, le_0T, lt_0F, le_0F, eq_0F, nI_1, nI_add, pk_mul, nI_clamp, cl_0, if_true, if_false, of_nI, T_wI, L_wI, R_wI, N_wI, S_wI, T_wR, L_wR, I_wR, N_wR, S_wR, I_same, R_same, I_wIn, I_wIk, R_wRn, R_wRk, T_nwo, T_nwn, L_nwo, L_nwn, I_nwo, I_nwn, R_nwo, R_nwn, N_nw, S_nw, nar_1, nar_0, nar_01, b01_t0, b01_f0, b01_t1, b01_f1, ne_sn, eq_sn, sn_inj, b3.1, b3.a1.1, b3.a1.2.1, b3.a1.2.2.1, b3.a11.1, b3.a11.2.1, b3.a11.2.2.1, e1, le_m1]
          rfl
        · have e3 : hpI r (A 11) (4 * t + j) = nI (bld st bm m j) := by rw [b5 _ (by omega)]; exact t4 j hj
          rw [t3]
          simp (disch := omega) only [gd_T, dr_S, nm_v, cl_S, cv_S, bd_S, lk_L, lk_R, zbw_b, isK_e, isPg_3, isPg_4, isPg_6, asV_n, beq_self_eq_true, inb_N, inb_0, le_T, le_F, lt_T, lt_F, eq_F, le_0T, lt_0F, le_0F, eq_0F, nI_1, nI_add, pk_mul, nI_clamp, cl_0, if_true, if_false, of_nI, T_wI, L_wI, R_wI, N_wI, S_wI, T_wR, L_wR, I_wR, N_wR, S_wR, I_same, R_same, I_wIn, I_wIk, R_wRn, R_wRk, T_nwo, T_nwn, L_nwo, L_nwn, I_nwo, I_nwn, R_nwo, R_nwn, N_nw, S_nw, nar_1, nar_0, nar_01, b01_t0, b01_f0, b01_t1, b01_f1, ne_sn, eq_sn, sn_inj, b3.1, b3.a1.1, b3.a1.2.1, b3.a1.2.2.1, b3.a11.1, b3.a11.2.1, b3.a11.2.2.1, e1, e3]
      refine ⟨_, eb, by rw [Le], rfl, b3, b4.wI (Or.inr (by simp)), out _, fin _ rl2, b7⟩
    | true =>
      rw [c1] at e1
      cases c2 : lh now m j with
      | true =>
        rw [c2] at e2
        have Le : (wls now tl m L (j + 1)).length = (wls now tl m L j).length + 1 := by
          show (wls now tl m L j ++ _).length = _
          unfold nl; rw [c1, c2, List.length_append]; rfl
        have rl2 : rld now tl st bm id m L j = 32 * id + (wls now tl m L j).length := by unfold rld; rw [c1, c2]; rfl
        have eb : b_M_writeMap_200 y (nI m) (nI id) y5 q6 (nI i) (nI (wls now tl m L j).length) (nI j) r = some (.inl (nI ((wls now tl m L j).length + 1), nI (j + 1), wI r (A 11) (4 * i + j) (nI (32 * id + (wls now tl m L j).length)))) := by
          unfold b_M_writeMap_200
          simp (disch := omega) only [gd_T, dr_S, nm_v, cl_S, cv_S, bd_S, lk_L, lk_R, zbw_b, isK_e, isPg_3, isPg_4, isPg_6, asV_n, beq_self_eq_true, inb_N, inb_0, le_T, le_F, lt_T, lt_F, eq_F, le_0T, lt_0F, le_0F, eq_0F, nI_1, nI_add, pk_mul, nI_clamp, cl_0, if_true, if_false, of_nI, T_wI, L_wI, R_wI, N_wI, S_wI, T_wR, L_wR, I_wR, N_wR, S_wR, I_same, R_same, I_wIn, I_wIk, R_wRn, R_wRk, T_nwo, T_nwn, L_nwo, L_nwn, I_nwo, I_nwn, R_nwo, R_nwn, N_nw, S_nw, nar_1, nar_0, nar_01, b01_t0, b01_f0, b01_t1, b01_f1, ne_sn, eq_sn, sn_inj, b3.1, b3.a1.1, b3.a1.2.1, b3.a1.2.2.1, b3.a11.1, b3.a11.2.1, b3.a11.2.2.1, e1, e2]
        refine ⟨_, eb, by rw [Le], rfl, b3, b4.wI (Or.inr (by simp)), out _, fin _ rl2, b7⟩
      | false =>
        rw [c2] at e2
        have Le : wls now tl m L (j + 1) = wls now tl m L j := by
          show wls now tl m L j ++ _ = _
          unfold nl; rw [c1, c2]; exact List.append_nil _
        have rl2 : rld now tl st bm id m L j = 0 := by unfold rld; rw [c1, c2]; rfl
        have eb : b_M_writeMap_200 y (nI m) (nI id) y5 q6 (nI i) (nI (wls now tl m L j).length) (nI j) r = some (.inl (nI (wls now tl m L j).length, nI (j + 1), r)) := by
          unfold b_M_writeMap_200
          simp (disch := omega) only [gd_T, dr_S, nm_v, cl_S, cv_S, bd_S, lk_L, lk_R, zbw_b, isK_e, isPg_3, isPg_4, isPg_6, asV_n, beq_self_eq_true, inb_N, inb_0, le_T, le_F, lt_T, lt_F, eq_F, le_0T, lt_0F, le_0F, eq_0F, nI_1, nI_add, pk_mul, nI_clamp, cl_0, if_true, if_false, of_nI, T_wI, L_wI, R_wI, N_wI, S_wI, T_wR, L_wR, I_wR, N_wR, S_wR, I_same, R_same, I_wIn, I_wIk, R_wRn, R_wRk, T_nwo, T_nwn, L_nwo, L_nwn, I_nwo, I_nwn, R_nwo, R_nwn, N_nw, S_nw, nar_1, nar_0, nar_01, b01_t0, b01_f0, b01_t1, b01_f1, ne_sn, eq_sn, sn_inj, b3.1, b3.a1.1, b3.a1.2.1, b3.a1.2.2.1, b3.a11.1, b3.a11.2.1, b3.a11.2.2.1, e1, e2]
        refine ⟨_, eb, by rw [Le], rfl, b3, b4, b5, fun z hz => ?_, b7⟩
        dsimp only
        rw [b6 z hz]
        by_cases e : z = j
        · subst e; rw [if_neg (Nat.lt_irrefl _), if_pos (Nat.lt_succ_self _), rl2]; rfl
        · by_cases c : z < j
          · rw [if_pos c, if_pos (by omega)]
          · rw [if_neg c, if_neg (by omega)]
  · obtain ⟨a, b, r⟩ := s
    obtain ⟨b1, b2, -⟩ := hs
    dsimp only at b1 b2
    subst b2
    show b_M_writeMap_200 y (nI m) (nI id) y5 q6 (nI i) a (nI 4) r = _
    unfold b_M_writeMap_200
    simp (disch := omega) only [gd_T, dr_S, nm_v, cl_S, cv_S, bd_S, lk_L, lk_R, zbw_b, isK_e, isPg_3, isPg_4, isPg_6, asV_n, beq_self_eq_true, inb_N, inb_0, le_T, le_F, lt_T, lt_F, eq_F, le_0T, lt_0F, le_0F, eq_0F, nI_1, nI_add, pk_mul, nI_clamp, cl_0, if_true, if_false, of_nI, T_wI, L_wI, R_wI, N_wI, S_wI, T_wR, L_wR, I_wR, N_wR, S_wR, I_same, R_same, I_wIn, I_wIk, R_wRn, R_wRk, T_nwo, T_nwn, L_nwo, L_nwn, I_nwo, I_nwn, R_nwo, R_nwn, N_nw, S_nw, nar_1, nar_0, nar_01, b01_t0, b01_f0, b01_t1, b01_f1, ne_sn, eq_sn, sn_inj]
theorem PW.old {h : Hp} {A : Nat → Nat} {pid pat : Nat → Nat} {st : Nat → Pg} {np : Nat → Nat} {id t k : Nat} {L : List Pg} (P : PW h A pid pat st np id L) (ht : t < 160) (h0 : pid t ≠ 0) (hk : ky pid pat t = k) (hn : k / 32 ≠ id) : ∀ m, m < 4 → hpI h (A 11) (4 * t + m) = nI (ld st k m) := fun m hm => by
  have := (P.2.2.2 t ht h0).2.2.2.2.1 m hm
  unfold ld at this ⊢
  rw [hk, stN_o hn] at this
  exact this
theorem mh_wls {now : Nat → Option Int32} {tl : Nat → Bool} {m : Nat} {L : List Pg} (h : mh now m = false) : wls now tl m L 4 = L := by
  have : ∀ n, n ≤ 4 → wls now tl m L n = L := fun n => by
    induction n with
    | zero => intro _; rfl
    | succ n ih =>
      intro hn
      show wls now tl m L n ++ _ = L
      have z : nl now tl m n = false := by
        unfold nl
        cases c : lh now m n with
        | false => exact Bool.and_false _
        | true =>
          exfalso
          have : mh now m = true := by unfold mh; exact any_t.mpr ⟨n, by omega, c⟩
          rw [this] at h; cases h
      rw [z, ih (by omega)]; exact List.append_nil _
  exact this 4 (Nat.le_refl _)
theorem m_writeMap {h : Hp} {y m id bm : Nat} {A : Nat → Nat} {now : Nat → Option Int32} {tl tm : Nat → Bool} {pid pat : Nat → Nat} {st : Nat → Pg} {fs np : Nat → Nat} {L : List Pg} (M : MOK h y A) (N : MNow h A now) (T : MTl h A tl) (P : PW h A pid pat st np id L) (S : SW st fs np id) (hb : bm ≠ 0 → vk np id bm ∧ kd st bm = 2) (hbr : brt st bm m ≠ 0 → inP pid pat (brt st bm m)) (hm : m < 4) (hmc : mc tl tm m = true) (hid : 1 ≤ id) (hl : L.length + pm now tl tm m < 31) (hc : tk pid + pm now tl tm m < 160) (hN : NP pid pat id L.length) :
    ∃ h' pid' pat', f_M_writeMap y (nI m) (nI id) (nI L.length) (nI (brt st bm m)) h = some (nI (wmL now tl tm st bm id m L).length, h') ∧ MOK h' y A ∧ PW h' A pid' pat' st np id (wmL now tl tm st bm id m L) ∧ tk pid' = tk pid + pm now tl tm m ∧ (Sty pid pat pid' pat' ∧ NP pid' pat' id (wmL now tl tm st bm id m L).length) ∧ (∀ t, hpI h' (A 33) t = if t = m ∧ mh now m = true then nI (wmk now tl tm st bm id m L) else hpI h (A 33) t) ∧ hpN h' = hpN h ∧ hpS h' = hpS h := by
  have hid2 := S.1
  have pmeq : pm now tl tm m = cn (nl now tl m) 4 + (bif mh now m then 1 else 0) := by
    unfold pm; rw [hmc, Bool.true_and]; rfl
  have bk : brt st bm m ≠ 0 → 32 ≤ brt st bm m ∧ brt st bm m / 32 < id ∧ brt st bm m < 2 ^ 25 := fun z => by
    unfold brt at z ⊢
    by_cases c : bm = 0
    · rw [if_pos c] at z; exact absurd rfl z
    · rw [if_neg c] at z ⊢
      obtain ⟨v, k2⟩ := hb c
      obtain ⟨r1, -⟩ := S.root v k2 hm z
      have := r1.pos
      have := r1.2.1
      have := S.lt r1
      omega
  obtain ⟨q6, e6, hq6⟩ : ∃ q6, f_M_page y (nI (brt st bm m)) h = some (q6, h) ∧ ((q6 = -1 ∧ brt st bm m = 0) ∨ ∃ t, t < 160 ∧ pid t ≠ 0 ∧ ky pid pat t = brt st bm m ∧ q6 = nI t ∧ brt st bm m ≠ 0) := by
    by_cases c : brt st bm m = 0
    · rw [c]; exact ⟨-1, m_pg0 M P.1, Or.inl ⟨rfl, rfl⟩⟩
    · obtain ⟨t, t1, t2, t3, t4⟩ := m_pg M P.1 (bk c).2.2 (bk c).1 (hbr c)
      exact ⟨nI t, t4, Or.inr ⟨t, t1, t3, t2, rfl, c⟩⟩
  obtain ⟨r, l1, pid1, pat1, l2, l3, l4, l5, l6, l7, l8, l9, l10⟩ := m_leaves (y3 := nI L.length) (y6 := q6) M N T P hm hid hid2 (by omega) (by omega) hN
  have Nr := N.exS (y := y) (Sm.k M l4 (by decide) (by decide))
  have Tr := T.exS (y := y) (Sm.k M l4 (by decide) (by decide))
  have e7 := m_mapHas l3 Nr hm
  obtain ⟨r1, r2⟩ := r
  dsimp only at l2 l3 l4 l5 l8 l9 l10 Nr Tr e7
  subst l2
  have wl4 := wls_len now tl m L 4
  have c4 := cn_le (nl now tl m) 4
  unfold wmL wmk
  rw [hmc, Bool.true_and]
  cases hmh : mh now m with
  | false =>
    rw [hmh] at e7 pmeq
    dsimp only [cond] at pmeq ⊢
    rw [mh_wls hmh] at l5 l1
    refine ⟨r2, pid1, pat1, ?_, l3, l5, by rw [l6, pmeq, Nat.add_zero], ⟨l7.1, by rw [← mh_wls (tl := tl) (L := L) hmh]; exact l7.2⟩, fun t => ?_, l9, l10⟩
    · unfold f_M_writeMap
      simp (disch := omega) only [gd_T, dr_S, nm_v, cl_S, cv_S, bd_S, lk_L, lk_R, zbw_b, isK_e, isPg_3, isPg_4, isPg_6, asV_n, beq_self_eq_true, inb_N, inb_0, le_T, le_F, lt_T, lt_F, eq_F, le_0T, lt_0F, le_0F, eq_0F, nI_1, nI_add, pk_mul, nI_clamp, cl_0, if_true, if_false, of_nI, T_wI, L_wI, R_wI, N_wI, S_wI, T_wR, L_wR, I_wR, N_wR, S_wR, I_same, R_same, I_wIn, I_wIk, R_wRn, R_wRk, T_nwo, T_nwn, L_nwo, L_nwn, I_nwo, I_nwn, R_nwo, R_nwn, N_nw, S_nw, nar_1, nar_0, nar_01, b01_t0, b01_f0, b01_t1, b01_f1, ne_sn, eq_sn, sn_inj, M.1, e6, l1, l3.1, e7]
    · rw [if_neg (fun z => by cases z.2), l8]
  | true =>
    rw [hmh] at e7 pmeq
    dsimp only [cond] at pmeq ⊢
    obtain ⟨i, g, a1, a2, a3, a4, a5, a6, a7, a8, a9⟩ := m_addP (w := 1) (m := m) (n := 0) l3 l5 (by omega) hid hid2 (by omega)
    have Kg := fr_M_add (C := cT) (mi := 0) a1
    obtain ⟨g1, hg1⟩ : ∃ g1, g1 = wI g (A 33) m (nI (32 * id + (wls now tl m L 4).length)) := ⟨_, rfl⟩
    have M1 : MOK g1 y A := by rw [hg1]; exact a4
    have s1 : ∀ q, 66 ≤ mk q → q ≠ 33 → hpI g1 (A q) = hpI g (A q) := fun q h1 h2 => by rw [hg1]; funext z; exact mo_I a4 (by decide) h1 h2 _ _ _ _
    have Ng := (Nr.exS (y := y) (Sm.k l3 Kg (by decide) (by decide))).exS (y := y) (h' := g1) ⟨fun q hq => by
      simp only [List.mem_cons, List.not_mem_nil, or_false] at hq
      rcases hq with e | e <;> subst e <;> exact s1 _ (by decide) (by decide), fun _ hq => by cases hq⟩
    have Tg := (Tr.exS (y := y) (Sm.k l3 Kg (by decide) (by decide))).exS (y := y) (h' := g1) ⟨fun q hq => by
      simp only [List.mem_cons, List.not_mem_nil, or_false] at hq
      subst hq; exact s1 _ (by decide) (by decide), fun _ hq => by cases hq⟩
    have hq : (q6 = -1 ∧ ∀ j, j < 4 → bld st bm m j = 0) ∨ ∃ t, t < 160 ∧ t ≠ i ∧ q6 = nI t ∧ ∀ j, j < 4 → hpI g1 (A 11) (4 * t + j) = nI (bld st bm m j) := by
      rcases hq6 with ⟨z1, z2⟩ | ⟨t, t1, t2, t3, t4, t5⟩
      · exact Or.inl ⟨z1, fun j _ => by rw [bld_rt, if_pos z2]⟩
      · obtain ⟨u1, u2⟩ := l7.1 t t1 t2
        have ti : t ≠ i := fun z => by rw [z, a3] at u1; rw [z] at t2; exact t2 u1.symm
        have kt : ky pid1 pat1 t = brt st bm m := by unfold ky at t3 ⊢; rw [u1, u2]; exact t3
        refine Or.inr ⟨t, t1, ti, t4, fun j hj => ?_⟩
        rw [s1 11 (by decide) (by decide), a7 _ (by omega), l5.old t1 (by rw [u1]; exact t2) kt (by have := (bk t5).2.1; omega) j hj, bld_rt, if_neg t5]
    obtain ⟨h', d1, d2, d3, d4, d5, d6⟩ := m_leads (y5 := nI (wls now tl m L 4).length) (id := id) (L := L) M1 Ng Tg hm a2 hid2 (by omega) (fun z z1 z2 => by rw [s1 11 (by decide) (by decide)]; exact a6.2.2.2.2 z z1 z2) hq
    have o1 : ∀ q, 66 ≤ mk q → q ≠ 11 → hpI h' (A q) = hpI g1 (A q) := fun q h1 h2 => (d3.at1 (M1.2.2 q h1).2.2.2 (M1.ne h1 (by decide) h2)).1
    have o2 : ∀ q, 66 ≤ mk q → q ≠ 11 → q ≠ 33 → hpI h' (A q) = hpI g (A q) := fun q h1 h2 h3 => (o1 q h1 h2).trans (s1 q h1 h3)
    have X2 : PX h' A (va_up pid1 i id) (va_up pat1 i (wls now tl m L 4).length) st np id (wls now tl m L 4) i := a5.ext (y := y) ⟨fun q hq => by
      simp only [List.mem_cons, List.not_mem_nil, or_false] at hq
      rcases hq with e | e | e | e | e <;> subst e <;> exact o2 _ (by decide) (by decide) (by decide), fun _ hq => by cases hq⟩ (fun t _ => by rw [o2 9 (by decide) (by decide) (by decide)]) (fun t _ => by rw [o2 10 (by decide) (by decide) (by decide)]) (fun z hz => by rw [d4 z hz, s1 11 (by decide) (by decide)])
    have E2 : PE h' A i (rpg now tl st bm id m L) := by
      refine ⟨?_, ?_, ?_, fun z hz => ?_, fun x hx => ⟨?_, fun w hw => by cases hw⟩⟩
      · rw [o2 6 (by decide) (by decide) (by decide)]; exact a6.1
      · rw [o2 7 (by decide) (by decide) (by decide)]; exact a6.2.1
      · rw [o2 8 (by decide) (by decide) (by decide)]; exact a6.2.2.1
      · rw [d5 z hz, if_pos hz]; rfl
      · rw [o2 9 (by decide) (by decide) (by decide), a6.2.2.2.1, b_0]; rfl
    refine ⟨h', va_up pid1 i id, va_up pat1 i (wls now tl m L 4).length, ?_, d2, X2.done E2 (by omega) hid, by rw [tk_up a2 a3 hid, l6, pmeq]; omega, ⟨l7.1.trans (Sty.up a3), by rw [List.length_append]; exact l7.2.up a2 a3 hid⟩, fun t => ?_, ?_, ?_⟩
    · unfold f_M_writeMap
      simp (disch := omega) only [gd_T, dr_S, nm_v, cl_S, cv_S, bd_S, lk_L, lk_R, zbw_b, isK_e, isPg_3, isPg_4, isPg_6, asV_n, beq_self_eq_true, inb_N, inb_0, le_T, le_F, lt_T, lt_F, eq_F, le_0T, lt_0F, le_0F, eq_0F, nI_1, nI_add, pk_mul, nI_clamp, cl_0, if_true, if_false, of_nI, T_wI, L_wI, R_wI, N_wI, S_wI, T_wR, L_wR, I_wR, N_wR, S_wR, I_same, R_same, I_wIn, I_wIk, R_wRn, R_wRk, T_nwo, T_nwn, L_nwo, L_nwn, I_nwo, I_nwn, R_nwo, R_nwn, N_nw, S_nw, nar_1, nar_0, nar_01, b01_t0, b01_f0, b01_t1, b01_f1, ne_sn, eq_sn, sn_inj, M.1, e6, l1, l3.1, e7]
      rw [show f_M_add y (nI id) (nI (wls now tl m L 4).length) (1 : Int32) (nI m) (0 : Int32) r2 = _ from a1]
      rw [hg1] at d1
      simp (disch := omega) only [gd_T, dr_S, nm_v, cl_S, cv_S, bd_S, lk_L, lk_R, zbw_b, isK_e, isPg_3, isPg_4, isPg_6, asV_n, beq_self_eq_true, inb_N, inb_0, le_T, le_F, lt_T, lt_F, eq_F, le_0T, lt_0F, le_0F, eq_0F, nI_1, nI_add, pk_mul, nI_clamp, cl_0, if_true, if_false, of_nI, T_wI, L_wI, R_wI, N_wI, S_wI, T_wR, L_wR, I_wR, N_wR, S_wR, I_same, R_same, I_wIn, I_wIk, R_wRn, R_wRk, T_nwo, T_nwn, L_nwo, L_nwn, I_nwo, I_nwn, R_nwo, R_nwn, N_nw, S_nw, nar_1, nar_0, nar_01, b01_t0, b01_f0, b01_t1, b01_f1, ne_sn, eq_sn, sn_inj, a4.1, a4.a33.1, a4.a33.2.1, a4.a33.2.2.1, d1, List.length_append, List.length_singleton]
    · rw [o1 33 (by decide) (by decide), hg1]
      by_cases e : t = m
      · subst e; rw [I_same, if_pos ⟨rfl, rfl⟩]
      · rw [I_wIk e, if_neg (fun z => e z.1), ← l8]
        exact congrFun ((Sm.k (J := [33]) (T := []) l3 Kg (by decide) (by decide)).1 33 (by decide)) t
    · rw [d6.1, hg1]; exact a8.trans l9
    · rw [d6.2, hg1]; exact a9.trans l10
theorem PW.nil {h : Hp} {A : Nat → Nat} {pid pat : Nat → Nat} {st : Nat → Pg} {np : Nat → Nat} {id : Nat} (P : PR h A pid pat st np id) : PW h A pid pat st np id [] := by
  obtain ⟨P1, P2, P3, P4⟩ := P
  refine ⟨P1, P2, P3, fun i hi h0 => ?_⟩
  obtain ⟨⟨v1, v2, v3⟩, p⟩ := P4 i hi h0
  have n : ky pid pat i / 32 ≠ id := by omega
  refine ⟨⟨v1, by omega, ?_⟩, ?_⟩
  · unfold va_up; rw [if_neg n]; exact v3
  · unfold kd pmp pwh ld lfv
    rw [stN_o n]; exact p
theorem m_maps {h : Hp} {y id bm : Nat} {A : Nat → Nat} {now : Nat → Option Int32} {tl tm : Nat → Bool} {pid pat : Nat → Nat} {st : Nat → Pg} {fs np : Nat → Nat} {y2 y3 q6 : Int32} (M : MOK h y A) (N : MNow h A now) (T : MTl h A tl) (T2 : MTm h A tm) (P : PR h A pid pat st np id) (S : SW st fs np id) (hb : bm ≠ 0 → vk np id bm ∧ kd st bm = 2 ∧ inR pid pat st bm) (hid : 1 ≤ id) (hc : tk pid + pw now tl tm ≤ 160)
    (hq : (q6 = -1 ∧ bm = 0) ∨ ∃ t, t < 160 ∧ pid t ≠ 0 ∧ ky pid pat t = bm ∧ q6 = nI t ∧ bm ≠ 0) :
    ∃ r, l_M_commit_99 y y2 y3 (nI id) q6 ((0 : Int32), (0 : Int32), h) = some r ∧ (∃ pid' pat', r.1 = nI (wms now tl tm st bm id 4).length ∧ MOK r.2 y A ∧ Keep W_M_writeMap h r.2 ∧ PW r.2 A pid' pat' st np id (wms now tl tm st bm id 4) ∧ tk pid' = tk pid + sm (pm now tl tm) 4 ∧ (Sty pid pat pid' pat' ∧ NP pid' pat' id (wms now tl tm st bm id 4).length) ∧ (∀ j, j < 4 → hpI r.2 (A 33) j = nI (wmk now tl tm st bm id j (wms now tl tm st bm id j))) ∧ (MNow r.2 A now ∧ MTl r.2 A tl ∧ MTm r.2 A tm) ∧ hpN r.2 = hpN h ∧ hpS r.2 = hpS h) := by
  have pwl := pw_le now tl tm
  have hb2 : bm ≠ 0 → vk np id bm ∧ kd st bm = 2 := fun z => ⟨(hb z).1, (hb z).2.1⟩
  refine lp_up (b := fun s => b_M_commit_99 y y2 y3 (nI id) s.1 q6 s.2.1 s.2.2) (fun j s => ∃ pid' pat', s.1 = nI (wms now tl tm st bm id j).length ∧ s.2.1 = nI j ∧ MOK s.2.2 y A ∧ Keep W_M_writeMap h s.2.2 ∧ PW s.2.2 A pid' pat' st np id (wms now tl tm st bm id j) ∧ tk pid' = tk pid + sm (pm now tl tm) j ∧ (Sty pid pat pid' pat' ∧ NP pid' pat' id (wms now tl tm st bm id j).length) ∧ (∀ i, i < j → hpI s.2.2 (A 33) i = nI (wmk now tl tm st bm id i (wms now tl tm st bm id i))) ∧ (MNow s.2.2 A now ∧ MTl s.2.2 A tl ∧ MTm s.2.2 A tm) ∧ hpN s.2.2 = hpN h ∧ hpS s.2.2 = hpS h) _ 4 (by decide) ⟨pid, pat, rfl, rfl, M, Keep.refl _ _, PW.nil P, (Nat.add_zero _).symm, ⟨fun _ _ _ => ⟨rfl, rfl⟩, fun i hi => absurd hi (Nat.not_lt_zero _)⟩, fun i hi => absurd hi (Nat.not_lt_zero _), ⟨N, T, T2⟩, rfl, rfl⟩ (fun j s hj hs => Or.inl ?_) (fun s hs => ⟨(s.1, s.2.2), ?_, ?_⟩)
  · obtain ⟨a, b, r⟩ := s
    obtain ⟨pid', pat', b1, b2, b3, b4, b5, b6, b7, b8, ⟨b9, b10, b11⟩, b12, b13⟩ := hs
    dsimp only at b1 b2 b3 b4 b5 b6 b7 b8 b9 b10 b11 b12 b13
    subst b1 b2
    have lj := wms_mono (now := now) (tl := tl) (tm := tm) (st := st) (bm := bm) (id := id) (show j + 1 ≤ 4 by omega)
    have lj1 : (wms now tl tm st bm id (j + 1)).length = _ := wmL_len now tl tm st bm id j (wms now tl tm st bm id j)
    have l4 := wms_len now tl tm st bm id 4
    have lj0 := wms_len now tl tm st bm id j
    have lj2 := wms_len now tl tm st bm id (j + 1)
    have pweq : pw now tl tm = 1 + sm (pm now tl tm) 4 := rfl
    have eb0 : b_M_commit_99 y y2 y3 (nI id) (nI (wms now tl tm st bm id j).length) q6 (nI j) r = j_M_commit_126_L99 y y2 y3 (nI id) (nI (wms now tl tm st bm id j).length) q6 (nI j) (nI (brt st bm j)) r := by
      unfold b_M_commit_99
      rcases hq with ⟨z1, z2⟩ | ⟨t, t1, t2, t3, t4, t5⟩
      · have : brt st bm j = 0 := by unfold brt; rw [if_pos z2]
        rw [z1, this]
        simp (disch := omega) only [gd_T, dr_S, nm_v, cl_S, cv_S, bd_S, lk_L, lk_R, zbw_b, isK_e, isPg_3, isPg_4, isPg_6, asV_n, beq_self_eq_true, inb_N, inb_0, le_T, le_F, lt_T, lt_F, eq_F, le_0T, lt_0F, le_0F, eq_0F, nI_1, nI_add, pk_mul, nI_clamp, cl_0, if_true, if_false, of_nI, T_wI, L_wI, R_wI, N_wI, S_wI, T_wR, L_wR, I_wR, N_wR, S_wR, I_same, R_same, I_wIn, I_wIk, R_wRn, R_wRk, T_nwo, T_nwn, L_nwo, L_nwn, I_nwo, I_nwn, R_nwo, R_nwn, N_nw, S_nw, nar_1, nar_0, nar_01, b01_t0, b01_f0, b01_t1, b01_f1, ne_sn, eq_sn, sn_inj, le_m1]
        rfl
      · obtain ⟨u1, u2⟩ := b7.1 t t1 t2
        have kt : ky pid' pat' t = bm := by unfold ky at t3 ⊢; rw [u1, u2]; exact t3
        have := b5.old t1 (by rw [u1]; exact t2) kt (by have := (hb t5).1.2.1; omega) j hj
        have e3 : brt st bm j = ld st bm j := by unfold brt; rw [if_neg t5]
        rw [t4, e3]
        simp (disch := omega) only [gd_T, dr_S, nm_v, cl_S, cv_S, bd_S, lk_L, lk_R, zbw_b, isK_e, isPg_3, isPg_4, isPg_6, asV_n, beq_self_eq_true, inb_N, inb_0, le_T, le_F, lt_T, lt_F, eq_F, le_0T, lt_0F, le_0F, eq_0F, nI_1, nI_add, pk_mul, nI_clamp, cl_0, if_true, if_false, of_nI, T_wI, L_wI, R_wI, N_wI, S_wI, T_wR, L_wR, I_wR, N_wR, S_wR, I_same, R_same, I_wIn, I_wIk, R_wRn, R_wRk, T_nwo, T_nwn, L_nwo, L_nwn, I_nwo, I_nwn, R_nwo, R_nwn, N_nw, S_nw, nar_1, nar_0, nar_01, b01_t0, b01_f0, b01_t1, b01_f1, ne_sn, eq_sn, sn_inj, b3.1, b3.a11.1, b3.a11.2.1, b3.a11.2.2.1, this]
    obtain ⟨g, hg⟩ : ∃ g, g = wI r (A 33) j (nI (brt st bm j)) := ⟨_, rfl⟩
    have Mg : MOK g y A := by rw [hg]; exact b3
    have sg : ∀ q, 66 ≤ mk q → q ≠ 33 → hpI g (A q) = hpI r (A q) := fun q h1 h2 => by rw [hg]; funext z; exact mo_I b3 (by decide) h1 h2 _ _ _ _
    have Tg : MTl g A tl := b10.exS (y := y) ⟨fun q hq => by
      simp only [List.mem_cons, List.not_mem_nil, or_false] at hq
      subst hq; exact sg _ (by decide) (by decide), fun _ hq => by cases hq⟩
    have T2g : MTm g A tm := b11.exS (y := y) ⟨fun q hq => by
      simp only [List.mem_cons, List.not_mem_nil, or_false] at hq
      subst hq; exact sg _ (by decide) (by decide), fun _ hq => by cases hq⟩
    have it := m_isTouched Mg Tg T2g hj
    cases c : mc tl tm j with
    | false =>
      rw [c] at it
      have Le : wms now tl tm st bm id (j + 1) = wms now tl tm st bm id j := by
        show wmL now tl tm st bm id j _ = _
        unfold wmL; rw [c]; rfl
      have wz : wmk now tl tm st bm id j (wms now tl tm st bm id j) = brt st bm j := by unfold wmk brt; rw [c]; rfl
      have eb : b_M_commit_99 y y2 y3 (nI id) (nI (wms now tl tm st bm id j).length) q6 (nI j) r = some (.inl (nI (wms now tl tm st bm id j).length, nI (j + 1), g)) := by
        rw [eb0]
        unfold j_M_commit_126_L99
        rw [hg] at it ⊢
        simp (disch := omega) only [gd_T, dr_S, nm_v, cl_S, cv_S, bd_S, lk_L, lk_R, zbw_b, isK_e, isPg_3, isPg_4, isPg_6, asV_n, beq_self_eq_true, inb_N, inb_0, le_T, le_F, lt_T, lt_F, eq_F, le_0T, lt_0F, le_0F, eq_0F, nI_1, nI_add, pk_mul, nI_clamp, cl_0, if_true, if_false, of_nI, T_wI, L_wI, R_wI, N_wI, S_wI, T_wR, L_wR, I_wR, N_wR, S_wR, I_same, R_same, I_wIn, I_wIk, R_wRn, R_wRk, T_nwo, T_nwn, L_nwo, L_nwn, I_nwo, I_nwn, R_nwo, R_nwn, N_nw, S_nw, nar_1, nar_0, nar_01, b01_t0, b01_f0, b01_t1, b01_f1, ne_sn, eq_sn, sn_inj, b3.1, b3.a33.1, b3.a33.2.1, b3.a33.2.2.1, it]
      have pz : pm now tl tm j = 0 := by
        have : (wms now tl tm st bm id (j + 1)).length = (wms now tl tm st bm id j).length := by rw [Le]
        omega
      refine ⟨_, eb, pid', pat', by rw [Le], rfl, Mg, b4.trans (kw_I hg b3.a33.2.1 (Or.inr (by decide))), ?_, ?_, ⟨b7.1, by rw [Le]; exact b7.2⟩, fun i hi => ?_, ⟨?_, Tg, T2g⟩, by rw [hg]; exact b12, by rw [hg]; exact b13⟩
      · rw [Le]
        exact b5.ext (y := y) ⟨fun q hq => by
          simp only [List.mem_cons, List.not_mem_nil, or_false] at hq
          rcases hq with e | e | e | e | e | e | e | e <;> subst e <;> exact sg _ (by decide) (by decide), fun _ hq => by cases hq⟩
      · show tk pid' = tk pid + (sm (pm now tl tm) j + pm now tl tm j)
        omega
      · dsimp only
        rw [hg]
        by_cases e : i = j
        · subst e; rw [I_same, wz]
        · rw [I_wIk e]; exact b8 i (by omega)
      · exact b9.exS (y := y) ⟨fun q hq => by
          simp only [List.mem_cons, List.not_mem_nil, or_false] at hq
          rcases hq with e | e <;> subst e <;> exact sg _ (by decide) (by decide), fun _ hq => by cases hq⟩
    | true =>
      rw [c] at it
      obtain ⟨g2, hg2⟩ : ∃ g2, g2 = wI g (A 33) j 0 := ⟨_, rfl⟩
      have M2 : MOK g2 y A := by rw [hg2]; exact Mg
      have s2 : ∀ q, 66 ≤ mk q → q ≠ 33 → hpI g2 (A q) = hpI r (A q) := fun q h1 h2 => by rw [← sg q h1 h2, hg2]; funext z; exact mo_I b3 (by decide) h1 h2 _ _ _ _
      have N2 : MNow g2 A now := b9.exS (y := y) ⟨fun q hq => by
        simp only [List.mem_cons, List.not_mem_nil, or_false] at hq
        rcases hq with e | e <;> subst e <;> exact s2 _ (by decide) (by decide), fun _ hq => by cases hq⟩
      have T2 : MTl g2 A tl := b10.exS (y := y) ⟨fun q hq => by
        simp only [List.mem_cons, List.not_mem_nil, or_false] at hq
        subst hq; exact s2 _ (by decide) (by decide), fun _ hq => by cases hq⟩
      have U2 : MTm g2 A tm := b11.exS (y := y) ⟨fun q hq => by
        simp only [List.mem_cons, List.not_mem_nil, or_false] at hq
        subst hq; exact s2 _ (by decide) (by decide), fun _ hq => by cases hq⟩
      have P2 : PW g2 A pid' pat' st np id (wms now tl tm st bm id j) := b5.ext (y := y) ⟨fun q hq => by
        simp only [List.mem_cons, List.not_mem_nil, or_false] at hq
        rcases hq with e | e | e | e | e | e | e | e <;> subst e <;> exact s2 _ (by decide) (by decide), fun _ hq => by cases hq⟩
      have hbr : brt st bm j ≠ 0 → inP pid' pat' (brt st bm j) := fun z => by
        unfold brt at z ⊢
        by_cases c0 : bm = 0
        · rw [if_pos c0] at z; exact absurd rfl z
        · rw [if_neg c0] at z ⊢
          obtain ⟨v, k2, ir⟩ := hb c0
          obtain ⟨t, t1, t2, t3⟩ := ir _ (rcb_t.mpr (Or.inr (Or.inl ⟨j, hj, z, rfl⟩)))
          have v1 := (S.root v k2 hj z).1.1
          obtain ⟨u1, u2⟩ := b7.1 t t1 (by omega)
          exact ⟨t, t1, by rw [u1]; exact t2, by rw [u2]; exact t3⟩
      have smj : sm (pm now tl tm) (j + 1) ≤ sm (pm now tl tm) 4 := by rw [← lj2, ← l4]; exact lj
      have smj2 : sm (pm now tl tm) (j + 1) = sm (pm now tl tm) j + pm now tl tm j := rfl
      obtain ⟨h', pid2, pat2, w1, w2, w3, w4, w5, w6, w7, w8⟩ := m_writeMap M2 N2 T2 P2 S hb2 hbr hj c hid (by omega) (by omega) b7.2
      have Kw := fr_M_writeMap (C := cT) (mi := 0) w1
      have eb : b_M_commit_99 y y2 y3 (nI id) (nI (wms now tl tm st bm id j).length) q6 (nI j) r = some (.inl (nI (wms now tl tm st bm id (j + 1)).length, nI (j + 1), h')) := by
        rw [eb0]
        unfold j_M_commit_126_L99
        rw [hg2] at w1
        have itg := it
        rw [hg] at w1 itg
        simp (disch := omega) only [gd_T, dr_S, nm_v, cl_S, cv_S, bd_S, lk_L, lk_R, zbw_b, isK_e, isPg_3, isPg_4, isPg_6, asV_n, beq_self_eq_true, inb_N, inb_0, le_T, le_F, lt_T, lt_F, eq_F, le_0T, lt_0F, le_0F, eq_0F, nI_1, nI_add, pk_mul, nI_clamp, cl_0, if_true, if_false, of_nI, T_wI, L_wI, R_wI, N_wI, S_wI, T_wR, L_wR, I_wR, N_wR, S_wR, I_same, R_same, I_wIn, I_wIk, R_wRn, R_wRk, T_nwo, T_nwn, L_nwo, L_nwn, I_nwo, I_nwn, R_nwo, R_nwn, N_nw, S_nw, nar_1, nar_0, nar_01, b01_t0, b01_f0, b01_t1, b01_f1, ne_sn, eq_sn, sn_inj, b3.1, b3.a33.1, b3.a33.2.1, b3.a33.2.2.1, itg, w1]
        rfl
      refine ⟨_, eb, pid2, pat2, rfl, rfl, w2, ((b4.trans (kw_I hg b3.a33.2.1 (Or.inr (by decide)))).trans (kw_I hg2 Mg.a33.2.1 (Or.inr (by decide)))).trans Kw, w3, ?_, ⟨b7.1.trans w5.1, w5.2⟩, fun i hi => ?_, ⟨N2.exS (y := y) (Sm.k M2 Kw (by decide) (by decide)), T2.exS (y := y) (Sm.k M2 Kw (by decide) (by decide)), U2.exS (y := y) (Sm.k M2 Kw (by decide) (by decide))⟩, ?_, ?_⟩
      · rw [w4, b6]
        show _ = tk pid + (sm (pm now tl tm) j + pm now tl tm j)
        omega
      · dsimp only
        rw [w6 i]
        by_cases e : i = j
        · subst e
          cases d : mh now i with
          | true => rw [if_pos ⟨rfl, rfl⟩]
          | false =>
            rw [if_neg (fun z => by cases z.2), hg2, I_same]
            unfold wmk; rw [c, d]; rfl
        · rw [if_neg (fun z => e z.1), hg2, I_wIk e, hg, I_wIk e]
          exact b8 i (by omega)
      · rw [w7, hg2, hg]; exact b12
      · rw [w8, hg2, hg]; exact b13
  · obtain ⟨a, b, r⟩ := s
    obtain ⟨pid', pat', b1, b2, -⟩ := hs
    dsimp only at b1 b2
    subst b2
    show b_M_commit_99 y y2 y3 (nI id) a q6 (nI 4) r = _
    unfold b_M_commit_99
    simp (disch := omega) only [gd_T, dr_S, nm_v, cl_S, cv_S, bd_S, lk_L, lk_R, zbw_b, isK_e, isPg_3, isPg_4, isPg_6, asV_n, beq_self_eq_true, inb_N, inb_0, le_T, le_F, lt_T, lt_F, eq_F, le_0T, lt_0F, le_0F, eq_0F, nI_1, nI_add, pk_mul, nI_clamp, cl_0, if_true, if_false, of_nI, T_wI, L_wI, R_wI, N_wI, S_wI, T_wR, L_wR, I_wR, N_wR, S_wR, I_same, R_same, I_wIn, I_wIk, R_wRn, R_wRk, T_nwo, T_nwn, L_nwo, L_nwn, I_nwo, I_nwn, R_nwo, R_nwn, N_nw, S_nw, nar_1, nar_0, nar_01, b01_t0, b01_f0, b01_t1, b01_f1, ne_sn, eq_sn, sn_inj]
  · obtain ⟨pid', pat', b1, b2, b3⟩ := hs
    exact ⟨pid', pat', b1, b3⟩

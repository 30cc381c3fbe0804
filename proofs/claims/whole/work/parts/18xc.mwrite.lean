/-! new pages, reference -/
def PE (h : Hp) (A : Nat → Nat) (i : Nat) (pg : Pg) : Prop := hpI h (A 6) i = nI pg.1 ∧ hpI h (A 7) i = nI pg.2.2.2.1 ∧ hpI h (A 8) i = nI pg.2.2.2.2 ∧ (∀ m, m < 4 → hpI h (A 11) (4 * i + m) = nI (pg.2.1 m)) ∧ ∀ x, x < 8 → bt (hpI h (A 9) i) x = (pg.2.2.1 x).isSome ∧ ∀ w, pg.2.2.1 x = some w → hpI h (A 10) (8 * i + x) = w
/-- all entries but i are as they should be -/
def PX (h : Hp) (A : Nat → Nat) (pid pat : Nat → Nat) (st : Nat → Pg) (np : Nat → Nat) (id : Nat) (L : List Pg) (i : Nat) : Prop := PgR h A pid pat ∧ (∀ i, i < 160 → pat i < 32) ∧ (∀ i j, i < 160 → j < 160 → pid i ≠ 0 → pid i = pid j → pat i = pat j → i = j) ∧ (∀ t, t < 160 → pid t ≠ 0 → t ≠ i → vk (va_up np id L.length) (id + 1) (ky pid pat t) ∧ PE h A t (stN st id L (ky pid pat t))) ∧ i < 160 ∧ pid i = id ∧ pat i = L.length
def PW (h : Hp) (A : Nat → Nat) (pid pat : Nat → Nat) (st : Nat → Pg) (np : Nat → Nat) (id : Nat) (L : List Pg) : Prop := PR h A pid pat (stN st id L) (va_up np id L.length) (id + 1)
theorem PX.done {h : Hp} {A : Nat → Nat} {pid pat : Nat → Nat} {st : Nat → Pg} {np : Nat → Nat} {id i : Nat} {L : List Pg} {pg : Pg} (X : PX h A pid pat st np id L i) (E : PE h A i pg) (hl : L.length < 31) (hid : 1 ≤ id) : PW h A pid pat st np id (L ++ [pg]) := by
  obtain ⟨x1, x2, x3, x4, x5, x6, x7⟩ := X
  have la : (L ++ [pg]).length = L.length + 1 := by rw [List.length_append]; rfl
  refine ⟨x1, x2, x3, fun t ht h0 => ?_⟩
  by_cases e : t = i
  · subst e
    have k1 : ky pid pat t = 32 * id + L.length := by unfold ky; rw [x6, x7]
    have k2 : stN st id (L ++ [pg]) (ky pid pat t) = pg := by
      rw [k1]; exact stN_n (by omega) (by rw [List.getElem?_append_right (Nat.le_refl _), Nat.sub_self]; rfl)
    refine ⟨⟨?_, ?_, ?_⟩, ?_⟩
    · rw [k1]; omega
    · rw [k1]; omega
    · rw [k1, show (32 * id + L.length) / 32 = id by omega]
      show _ < (if id = id then _ else _)
      rw [if_pos rfl, la]; omega
    · unfold kd pmp pwh ld lfv
      rw [k2]
      exact E
  · obtain ⟨⟨v1, v2, v3⟩, p⟩ := x4 t ht h0 e
    have es : stN st id (L ++ [pg]) (ky pid pat t) = stN st id L (ky pid pat t) := by
      unfold stN
      by_cases c : ky pid pat t / 32 = id
      · rw [if_pos c, if_pos c]
        rw [c] at v3
        have : va_up np id L.length id = L.length := if_pos rfl
        rw [this] at v3
        rw [List.getElem?_append_left v3]
      · rw [if_neg c, if_neg c]
    refine ⟨⟨v1, v2, ?_⟩, ?_⟩
    · unfold va_up at v3 ⊢
      by_cases c : ky pid pat t / 32 = id
      · rw [if_pos c] at v3 ⊢
        omega
      · rw [if_neg c] at v3 ⊢
        exact v3
    · unfold kd pmp pwh ld lfv
      rw [es]
      exact p
theorem PX.ext {h h' : Hp} {y : Nat} {A : Nat → Nat} {pid pat : Nat → Nat} {st : Nat → Pg} {np : Nat → Nat} {id i : Nat} {L : List Pg} (X : PX h A pid pat st np id L i) (s : Sm h h' y A [4, 5, 6, 7, 8] []) (e9 : ∀ t, t ≠ i → hpI h' (A 9) t = hpI h (A 9) t) (e10 : ∀ z, z < 8 * i ∨ 8 * i + 8 ≤ z → hpI h' (A 10) z = hpI h (A 10) z) (e11 : ∀ z, z < 4 * i ∨ 4 * i + 4 ≤ z → hpI h' (A 11) z = hpI h (A 11) z) : PX h' A pid pat st np id L i := by
  obtain ⟨x1, x2, x3, x4, x5⟩ := X
  refine ⟨?_, x2, x3, fun t ht h0 hn => ⟨(x4 t ht h0 hn).1, ?_⟩, x5⟩
  · unfold PgR at *
    rw [s.1 4 (by decide), s.1 5 (by decide)]; exact x1
  · obtain ⟨p1, p2, p3, p4, p5⟩ := (x4 t ht h0 hn).2
    refine ⟨by rw [s.1 6 (by decide)]; exact p1, by rw [s.1 7 (by decide)]; exact p2, by rw [s.1 8 (by decide)]; exact p3, fun m hm => ?_, fun x hx => ?_⟩
    · rw [e11 _ (by omega)]; exact p4 m hm
    · rw [e9 t hn, e10 _ (by omega)]; exact p5 x hx
/-- how many entries are taken -/
def tk (pid : Nat → Nat) : Nat := cn (fun t => decide (pid t ≠ 0)) 160
theorem tk_free {pid : Nat → Nat} (h : tk pid < 160) : ∃ i, i < 160 ∧ pid i = 0 := by
  refine Classical.byContradiction fun q => ?_
  have : tk pid = 160 := by
    unfold tk
    rw [cn_ext (f := fun t => decide (pid t ≠ 0)) (g := fun _ => true) (fun i hi => decide_eq_true (fun z => q ⟨i, hi, z⟩))]
    decide +kernel
  omega
theorem tk_up {pid : Nat → Nat} {i id : Nat} (hi : i < 160) (h0 : pid i = 0) (hid : 1 ≤ id) : tk (va_up pid i id) = tk pid + 1 := by
  unfold tk
  refine cn_one hi (decide_eq_false (fun z => z h0)) ?_ (fun k hk => ?_)
  · unfold va_up; rw [if_pos rfl]; exact decide_eq_true (by omega)
  · unfold va_up; rw [if_neg hk]
theorem m_addP {h : Hp} {y id w m n : Nat} {A : Nat → Nat} {pid pat : Nat → Nat} {st : Nat → Pg} {np : Nat → Nat} {L : List Pg} (M : MOK h y A) (P : PW h A pid pat st np id L) (hc : tk pid < 160) (hid : 1 ≤ id) (hid2 : id < 2 ^ 14) (hl : L.length < 31) :
    ∃ (i : Nat) (h' : Hp), f_M_add y (nI id) (nI L.length) (nI w) (nI m) (nI n) h = some (nI i, h') ∧ i < 160 ∧ pid i = 0 ∧ MOK h' y A ∧ PX h' A (va_up pid i id) (va_up pat i L.length) st np id L i ∧ (hpI h' (A 6) i = nI w ∧ hpI h' (A 7) i = nI m ∧ hpI h' (A 8) i = nI n ∧ hpI h' (A 9) i = 0 ∧ ∀ z, 4 * i ≤ z → z < 4 * i + 4 → hpI h' (A 11) z = 0) ∧ (∀ z, z < 4 * i ∨ 4 * i + 4 ≤ z → hpI h' (A 11) z = hpI h (A 11) z) ∧ hpN h' = hpN h ∧ hpS h' = hpS h := by
  obtain ⟨P1, P2, P3, P4⟩ := P
  obtain ⟨i, h', e1, e2, e3, e4, e5, e6, e7, e8, e9, e10, e11, e12, e13⟩ := m_add (id := nI id) (q := nI L.length) (w := nI w) (m := nI m) (n := nI n) M P1 (tk_free hc)
  have o10 : hpI h' (A 10) = hpI h (A 10) := (e12.2.2.2 (A 10) M.a10.2.2.2 (by
    simp only [List.mem_cons, List.not_mem_nil, or_false]
    rintro (q | q | q | q | q | q | q) <;> exact M.ne (by decide) (by decide) (by decide) q)).1
  refine ⟨i, h', e1, e2, e3, e4, ⟨fun t ht => ?_, fun t ht => ?_, fun t u ht hu h0 h1 h2 => ?_, fun t ht h0 hn => ?_, e2, if_pos rfl, if_pos rfl⟩, ⟨by rw [e7, if_pos rfl], by rw [e8, if_pos rfl], by rw [e9, if_pos rfl], by rw [e10, if_pos rfl], fun z z1 z2 => by rw [e11, if_pos ⟨z1, z2⟩]⟩, fun z hz => by rw [e11, if_neg (by omega)], e13⟩
  · rw [e5, e6]
    unfold va_up
    by_cases c : t = i
    · rw [if_pos c, if_pos c, if_pos c, if_pos c]
      exact ⟨rfl, rfl, by omega, by omega⟩
    · rw [if_neg c, if_neg c, if_neg c, if_neg c]
      exact P1 t ht
  · unfold va_up
    by_cases c : t = i
    · rw [if_pos c]; omega
    · rw [if_neg c]; exact P2 t ht
  · unfold va_up at h0 h1 h2
    have key : ∀ t u, t < 160 → u < 160 → t ≠ i → pid t ≠ 0 → pid t = id → pat t = L.length → False := fun t u ht hu hn z0 z1 z2 => by
      have v := (P4 t ht z0).1.2.2
      unfold ky va_up at v
      rw [z1, z2, show (32 * id + L.length) / 32 = id by omega, if_pos rfl] at v
      omega
    by_cases c : t = i
    · by_cases d : u = i
      · rw [c, d]
      · rw [if_pos c, if_neg d] at h1 h2
        exact (key u t hu ht d (by omega) h1.symm h2.symm).elim
    · by_cases d : u = i
      · rw [if_neg c] at h0
        rw [if_neg c, if_pos d] at h1 h2
        exact (key t u ht hu c h0 h1 h2).elim
      · rw [if_neg c] at h0
        rw [if_neg c, if_neg d] at h1 h2
        exact P3 t u ht hu h0 h1 h2
  · have pe : va_up pid i id t = pid t := if_neg hn
    have qe : va_up pat i L.length t = pat t := if_neg hn
    rw [pe] at h0
    obtain ⟨v, p1, p2, p3, p4, p5⟩ := P4 t ht h0
    have ke : ky (va_up pid i id) (va_up pat i L.length) t = ky pid pat t := by unfold ky; rw [pe, qe]
    rw [ke]
    refine ⟨v, by rw [e7, if_neg hn]; exact p1, by rw [e8, if_neg hn]; exact p2, by rw [e9, if_neg hn]; exact p3, fun z hz => ?_, fun x hx => ?_⟩
    · rw [e11, if_neg (by omega)]; exact p4 z hz
    · rw [e10, if_neg hn, o10]; exact p5 x hx
theorem m_leafL {h : Hp} {y m j i : Nat} {A : Nat → Nat} {now : Nat → Option Int32} {y2 y3 y5 y6 : Int32} (M : MOK h y A) (N : MNow h A now) (hm : m < 4) (hj : j < 4) (hi : i < 160) (h9 : hpI h (A 9) i = 0) :
    ∃ h', l_M_writeMap_63 y (nI m) y2 y3 y5 y6 (nI j) (nI i) ((0 : Int32), h) = some h' ∧ (MOK h' y A ∧ Only [A 9, A 10] h h' ∧ (∀ t, t ≠ i → hpI h' (A 9) t = hpI h (A 9) t) ∧ (∀ z, z < 8 * i ∨ 8 * i + 8 ≤ z → hpI h' (A 10) z = hpI h (A 10) z) ∧ (∀ z, z < 8 → bt (hpI h' (A 9) i) z = (decide (z < 8) && (now (32 * m + (8 * j + z))).isSome)) ∧ (∀ z, z < 8 → ∀ w, now (32 * m + (8 * j + z)) = some w → hpI h' (A 10) (8 * i + z) = w) ∧ hpN h' = hpN h ∧ hpS h' = hpS h) := by
  refine lp_up (b := fun s => b_M_writeMap_63 y (nI m) y2 y3 y5 y6 (nI j) (nI i) s.1 s.2) (fun x s => s.1 = nI x ∧ MOK s.2 y A ∧ Only [A 9, A 10] h s.2 ∧ (∀ t, t ≠ i → hpI s.2 (A 9) t = hpI h (A 9) t) ∧ (∀ z, z < 8 * i ∨ 8 * i + 8 ≤ z → hpI s.2 (A 10) z = hpI h (A 10) z) ∧ (∀ z, z < 8 → bt (hpI s.2 (A 9) i) z = (decide (z < x) && (now (32 * m + (8 * j + z))).isSome)) ∧ (∀ z, z < x → ∀ w, now (32 * m + (8 * j + z)) = some w → hpI s.2 (A 10) (8 * i + z) = w) ∧ hpN s.2 = hpN h ∧ hpS s.2 = hpS h) _ 8 (by decide) ⟨rfl, M, Only.refl _ _, fun _ _ => rfl, fun _ _ => rfl, fun z hz => by rw [decide_eq_false (Nat.not_lt_zero _), Bool.false_and]; show bt (hpI h (A 9) i) z = _; rw [h9, b_0], fun z hz => absurd hz (Nat.not_lt_zero _), rfl, rfl⟩ (fun x s hx hs => Or.inl ?_) (fun s hs => ⟨s.2, ?_, hs.2⟩)
  · obtain ⟨a, r⟩ := s
    obtain ⟨b1, b2, b3, b4, b5, b6, b7, b8⟩ := hs
    dsimp only at b1 b2 b3 b4 b5 b6 b7 b8
    subst b1
    have nn : ∀ q, q = 0 ∨ q = 3 → hpI r (A q) = hpI h (A q) := fun q hq => by
      rcases hq with e | e <;> subst e
      · exact (b3.2.2.2 (A 0) M.a0.2.2.2 (by
          simp only [List.mem_cons, List.not_mem_nil, or_false]
          rintro (q | q) <;> exact M.ne (by decide) (by decide) (by decide) q)).1
      · exact (b3.2.2.2 (A 3) M.a3.2.2.2 (by
          simp only [List.mem_cons, List.not_mem_nil, or_false]
          rintro (q | q) <;> exact M.ne (by decide) (by decide) (by decide) q)).1
    obtain ⟨n1, n2⟩ := N (32 * m + (8 * j + x)) (by omega)
    have e0 : hpI r (A 0) (32 * m + (8 * j + x)) = b01 (now (32 * m + (8 * j + x))).isSome := by rw [nn 0 (Or.inl rfl)]; exact n1
    have e3 : ∀ w, now (32 * m + (8 * j + x)) = some w → hpI r (A 3) (32 * m + (8 * j + x)) = w := fun w hw => by rw [nn 3 (Or.inr rfl)]; exact n2 w hw
    cases hn : now (32 * m + (8 * j + x)) with
    | none =>
      rw [hn] at e0
      refine ⟨(nI (x + 1), wI r (A 10) (8 * i + x) 0), ?_, rfl, b2, b3.wI (Or.inr (by simp)), fun t ht => ?_, fun z hz => ?_, fun z hz => ?_, fun z hz w hw => ?_, b8⟩
      · show b_M_writeMap_63 y (nI m) y2 y3 y5 y6 (nI j) (nI i) (nI x) r = _
        unfold b_M_writeMap_63 j_M_writeMap_118_L63
        simp (disch := omega) only [gd_T, dr_S, nm_v, cl_S, cv_S, bd_S, lk_L, lk_R, zbw_b, isK_e, isPg_3, isPg_4, isPg_6, asV_n, beq_self_eq_true, inb_N, inb_0, le_T, le_F, lt_T, lt_F, eq_F, le_0T, lt_0F, le_0F, eq_0F, nI_1, nI_add, pk_mul, nI_clamp, cl_0, if_true, if_false, of_nI, T_wI, L_wI, R_wI, N_wI, S_wI, T_wR, L_wR, I_wR, N_wR, S_wR, I_same, R_same, I_wIn, I_wIk, R_wRn, R_wRk, T_nwo, T_nwn, L_nwo, L_nwn, I_nwo, I_nwn, R_nwo, R_nwn, N_nw, S_nw, nar_1, nar_0, nar_01, b01_t0, b01_f0, b01_t1, b01_f1, ne_sn, eq_sn, sn_inj, b2.1, b2.a0.1, b2.a0.2.1, b2.a0.2.2.1, b2.a3.1, b2.a3.2.1, b2.a3.2.2.1, b2.a9.1, b2.a9.2.1, b2.a9.2.2.1, b2.a10.1, b2.a10.2.1, b2.a10.2.2.1, mo_I b2 (i := 10) (j := 0) (by decide) (by decide) (by decide), mo_I b2 (i := 10) (j := 3) (by decide) (by decide) (by decide), mo_I b2 (i := 10) (j := 9) (by decide) (by decide) (by decide), Nat.add_assoc, e0, Option.isSome]
      · dsimp only
        rw [mo_I b2 (by decide) (by decide) (by decide)]; exact b4 t ht
      · dsimp only
        rw [I_wIk (by omega)]; exact b5 z hz
      · dsimp only
        rw [mo_I b2 (by decide) (by decide) (by decide), b6 z hz]
        by_cases e : z = x
        · subst e; rw [hn]; simp
        · congr 1
          exact decide_eq_decide.mpr (by omega)
      · dsimp only
        by_cases e : z = x
        · subst e; rw [hn] at hw; cases hw
        · rw [I_wIk (by omega)]; exact b7 z (by omega) w hw
    | some v =>
      rw [hn] at e0
      have e3' := e3 v hn
      refine ⟨(nI (x + 1), wI (wI r (A 10) (8 * i + x) v) (A 9) i (hpI r (A 9) i ||| ((1 : Int32) <<< (nI x &&& 31)))), ?_, rfl, b2, (b3.wI (Or.inr (by simp))).wI (Or.inr (by simp)), fun t ht => ?_, fun z hz => ?_, fun z hz => ?_, fun z hz w hw => ?_, b8⟩
      · show b_M_writeMap_63 y (nI m) y2 y3 y5 y6 (nI j) (nI i) (nI x) r = _
        unfold b_M_writeMap_63 j_M_writeMap_118_L63
        simp (disch := omega) only [gd_T, dr_S, nm_v, cl_S, cv_S, bd_S, lk_L, lk_R, zbw_b, isK_e, isPg_3, isPg_4, isPg_6, asV_n, beq_self_eq_true, inb_N, inb_0, le_T, le_F, lt_T, lt_F, eq_F, le_0T, lt_0F, le_0F, eq_0F, nI_1, nI_add, pk_mul, nI_clamp, cl_0, if_true, if_false, of_nI, T_wI, L_wI, R_wI, N_wI, S_wI, T_wR, L_wR, I_wR, N_wR, S_wR, I_same, R_same, I_wIn, I_wIk, R_wRn, R_wRk, T_nwo, T_nwn, L_nwo, L_nwn, I_nwo, I_nwn, R_nwo, R_nwn, N_nw, S_nw, nar_1, nar_0, nar_01, b01_t0, b01_f0, b01_t1, b01_f1, ne_sn, eq_sn, sn_inj, b2.1, b2.a0.1, b2.a0.2.1, b2.a0.2.2.1, b2.a3.1, b2.a3.2.1, b2.a3.2.2.1, b2.a9.1, b2.a9.2.1, b2.a9.2.2.1, b2.a10.1, b2.a10.2.1, b2.a10.2.2.1, mo_I b2 (i := 10) (j := 0) (by decide) (by decide) (by decide), mo_I b2 (i := 10) (j := 3) (by decide) (by decide) (by decide), mo_I b2 (i := 10) (j := 9) (by decide) (by decide) (by decide), Nat.add_assoc, e0, e3', Option.isSome]
      · dsimp only
        rw [I_wIk ht, mo_I b2 (by decide) (by decide) (by decide)]; exact b4 t ht
      · dsimp only
        rw [mo_I b2 (by decide) (by decide) (by decide), I_wIk (by omega)]; exact b5 z hz
      · dsimp only
        rw [I_same, bt_set _ (by omega) (by omega), b6 z hz]
        by_cases e : z = x
        · subst e; rw [hn]; simp
        · rw [decide_eq_false e, Bool.or_false]
          congr 1
          exact decide_eq_decide.mpr (by omega)
      · dsimp only
        rw [mo_I b2 (by decide) (by decide) (by decide)]
        by_cases e : z = x
        · subst e; rw [I_same]; rw [hn] at hw; cases hw; rfl
        · rw [I_wIk (by omega)]; exact b7 z (by omega) w hw
  · obtain ⟨a, r⟩ := s
    obtain ⟨b1, -⟩ := hs
    dsimp only at b1
    subst b1
    show b_M_writeMap_63 y (nI m) y2 y3 y5 y6 (nI j) (nI i) (nI 8) r = _
    unfold b_M_writeMap_63
    simp (disch := omega) only [gd_T, dr_S, nm_v, cl_S, cv_S, bd_S, lk_L, lk_R, zbw_b, isK_e, isPg_3, isPg_4, isPg_6, asV_n, beq_self_eq_true, inb_N, inb_0, le_T, le_F, lt_T, lt_F, eq_F, le_0T, lt_0F, le_0F, eq_0F, nI_1, nI_add, pk_mul, nI_clamp, cl_0, if_true, if_false, of_nI, T_wI, L_wI, R_wI, N_wI, S_wI, T_wR, L_wR, I_wR, N_wR, S_wR, I_same, R_same, I_wIn, I_wIk, R_wRn, R_wRk, T_nwo, T_nwn, L_nwo, L_nwn, I_nwo, I_nwn, R_nwo, R_nwn, N_nw, S_nw, nar_1, nar_0, nar_01, b01_t0, b01_f0, b01_t1, b01_f1, ne_sn, eq_sn, sn_inj]
/-- entries that were there stay -/
def Sty (pid pat pid' pat' : Nat → Nat) : Prop := ∀ t, t < 160 → pid t ≠ 0 → pid' t = pid t ∧ pat' t = pat t
theorem Sty.trans {p1 q1 p2 q2 p3 q3 : Nat → Nat} (a : Sty p1 q1 p2 q2) (b : Sty p2 q2 p3 q3) : Sty p1 q1 p3 q3 := fun t ht h0 => by
  obtain ⟨a1, a2⟩ := a t ht h0
  obtain ⟨b1, b2⟩ := b t ht (by rw [a1]; exact h0)
  exact ⟨b1.trans a1, b2.trans a2⟩
theorem Sty.up {pid pat : Nat → Nat} {i id n : Nat} (h0 : pid i = 0) : Sty pid pat (va_up pid i id) (va_up pat i n) := fun t _ ht => ⟨if_neg fun z => ht (by rw [z]; exact h0), if_neg fun z => ht (by rw [z]; exact h0)⟩
/-- the new pages are there -/
def NP (pid pat : Nat → Nat) (id n : Nat) : Prop := ∀ i, i < n → ∃ t, t < 160 ∧ pid t = id ∧ pat t = i
theorem NP.up {pid pat : Nat → Nat} {id n i : Nat} (h : NP pid pat id n) (hi : i < 160) (h0 : pid i = 0) (hid : 1 ≤ id) : NP (va_up pid i id) (va_up pat i n) id (n + 1) := fun k hk => by
  by_cases c : k = n
  · exact ⟨i, hi, if_pos rfl, (if_pos rfl).trans c.symm⟩
  · obtain ⟨t, t1, t2, t3⟩ := h k (by omega)
    have ne : t ≠ i := fun z => by rw [z, h0] at t2; omega
    exact ⟨t, t1, (if_neg ne).trans t2, (if_neg ne).trans t3⟩
theorem MNow.exS {h h' : Hp} {y : Nat} {A : Nat → Nat} {now : Nat → Option Int32} (N : MNow h A now) (s : Sm h h' y A [0, 3] []) : MNow h' A now := by
  unfold MNow at *
  rw [s.1 0 (by decide), s.1 3 (by decide)]; exact N
theorem MTl.exS {h h' : Hp} {y : Nat} {A : Nat → Nat} {tl : Nat → Bool} (N : MTl h A tl) (s : Sm h h' y A [1] []) : MTl h' A tl := by
  unfold MTl at *
  rw [s.1 1 (by decide)]; exact N
theorem MTm.exS {h h' : Hp} {y : Nat} {A : Nat → Nat} {tm : Nat → Bool} (N : MTm h A tm) (s : Sm h h' y A [2] []) : MTm h' A tm := by
  unfold MTm at *
  rw [s.1 2 (by decide)]; exact N
theorem m_leaves {h : Hp} {y m id : Nat} {A : Nat → Nat} {now : Nat → Option Int32} {tl : Nat → Bool} {pid pat : Nat → Nat} {st : Nat → Pg} {np : Nat → Nat} {L : List Pg} {y3 y6 : Int32} (M : MOK h y A) (N : MNow h A now) (T : MTl h A tl) (P : PW h A pid pat st np id L) (hm : m < 4) (hid : 1 ≤ id) (hid2 : id < 2 ^ 14) (hl : L.length + cn (nl now tl m) 4 < 31) (hc : tk pid + cn (nl now tl m) 4 < 160) (hN : NP pid pat id L.length) :
    ∃ r, l_M_writeMap_14 y (nI m) (nI id) y3 y6 (nI L.length, (0 : Int32), h) = some r ∧ (∃ pid' pat', r.1 = nI (wls now tl m L 4).length ∧ MOK r.2 y A ∧ Keep W_M_writeMap h r.2 ∧ PW r.2 A pid' pat' st np id (wls now tl m L 4) ∧ tk pid' = tk pid + cn (nl now tl m) 4 ∧ (Sty pid pat pid' pat' ∧ NP pid' pat' id (wls now tl m L 4).length) ∧ hpI r.2 (A 33) = hpI h (A 33) ∧ hpN r.2 = hpN h ∧ hpS r.2 = hpS h) := by
  refine lp_up (b := fun s => b_M_writeMap_14 y (nI m) (nI id) y3 s.1 y6 s.2.1 s.2.2) (fun j s => ∃ pid' pat', s.1 = nI (wls now tl m L j).length ∧ s.2.1 = nI j ∧ MOK s.2.2 y A ∧ Keep W_M_writeMap h s.2.2 ∧ PW s.2.2 A pid' pat' st np id (wls now tl m L j) ∧ tk pid' = tk pid + cn (nl now tl m) j ∧ (Sty pid pat pid' pat' ∧ NP pid' pat' id (wls now tl m L j).length) ∧ hpI s.2.2 (A 33) = hpI h (A 33) ∧ hpN s.2.2 = hpN h ∧ hpS s.2.2 = hpS h) _ 4 (by decide) ⟨pid, pat, rfl, rfl, M, Keep.refl _ _, P, (Nat.add_zero _).symm, ⟨fun _ _ _ => ⟨rfl, rfl⟩, hN⟩, rfl, rfl, rfl⟩ (fun j s hj hs => Or.inl ?_) (fun s hs => ⟨(s.1, s.2.2), ?_, ?_⟩)
  · obtain ⟨a, b, r⟩ := s
    obtain ⟨pid', pat', b1, b2, b3, b4, b5, b6, b7, b8, b9, b10⟩ := hs
    dsimp only at b1 b2 b3 b4 b5 b6 b7 b8 b9 b10
    subst b1 b2
    have Nr := N.exS (y := y) (Sm.k M b4 (by decide) (by decide))
    have Tr := T.exS (y := y) (Sm.k M b4 (by decide) (by decide))
    have e1 := Tr (4 * m + j) (by omega)
    have e2 := m_leafHas b3 Nr hm hj
    have lj : (wls now tl m L (j + 1)).length ≤ L.length + cn (nl now tl m) 4 := by rw [← wls_len]; exact wls_mono (by omega)
    have cj : cn (nl now tl m) (j + 1) ≤ cn (nl now tl m) 4 := cn_mono (by omega)
    cases c : nl now tl m j with
    | true =>
      have Le : wls now tl m L (j + 1) = wls now tl m L j ++ [lpg now m j] := by
        show wls now tl m L j ++ _ = _
        rw [c]; rfl
      have cs := cn_t (n := j) c
      have c' := c
      unfold nl at c'
      rw [Bool.and_eq_true] at c'
      rw [c'.1] at e1
      rw [c'.2] at e2
      rw [Le, List.length_append, List.length_singleton] at lj
      obtain ⟨i, g, a1, a2, a3, a4, a5, a6, a7, a8, a9⟩ := m_addP (w := 0) (m := m) (n := j) b3 b5 (by omega) hid hid2 (by omega)
      have Kg := fr_M_add (C := cT) (mi := 0) a1
      have Ng := Nr.exS (y := y) (Sm.k b3 Kg (by decide) (by decide))
      obtain ⟨g2, d1, d2, d3, d4, d5, d6, d7, d8, d9⟩ := m_leafL (y2 := nI id) (y3 := y3) (y5 := nI (wls now tl m L j).length) (y6 := y6) a4 Ng hm hj a2 a6.2.2.2.1
      have oA : ∀ q, 66 ≤ mk q → q ≠ 9 → q ≠ 10 → hpI g2 (A q) = hpI g (A q) := fun q h1 h2 h3 => (d3.2.2.2 (A q) (a4.2.2 q h1).2.2.2 (by
        simp only [List.mem_cons, List.not_mem_nil, or_false]
        rintro (z | z)
        · exact a4.ne h1 (by decide) h2 z
        · exact a4.ne h1 (by decide) h3 z)).1
      have X2 : PX g2 A (va_up pid' i id) (va_up pat' i (wls now tl m L j).length) st np id (wls now tl m L j) i := a5.ext (y := y) ⟨fun q hq => by
        simp only [List.mem_cons, List.not_mem_nil, or_false] at hq
        rcases hq with e | e | e | e | e <;> subst e <;> exact oA _ (by decide) (by decide) (by decide), fun _ hq => by cases hq⟩ d4 d5 (fun z _ => by rw [oA 11 (by decide) (by decide) (by decide)])
      have E2 : PE g2 A i (lpg now m j) := by
        refine ⟨?_, ?_, ?_, fun z hz => ?_, fun x hx => ⟨?_, fun w hw => d7 x hx w hw⟩⟩
        · rw [oA 6 (by decide) (by decide) (by decide)]; exact a6.1
        · rw [oA 7 (by decide) (by decide) (by decide)]; exact a6.2.1
        · rw [oA 8 (by decide) (by decide) (by decide)]; exact a6.2.2.1
        · rw [oA 11 (by decide) (by decide) (by decide)]; exact a6.2.2.2.2 _ (by omega) (by omega)
        · rw [d6 x hx, decide_eq_true hx, Bool.true_and]; rfl
      have eb : b_M_writeMap_14 y (nI m) (nI id) y3 (nI (wls now tl m L j).length) y6 (nI j) r = some (.inl (nI ((wls now tl m L j).length + 1), nI (j + 1), g2)) := by
        unfold b_M_writeMap_14
        simp (disch := omega) only [gd_T, dr_S, nm_v, cl_S, cv_S, bd_S, lk_L, lk_R, zbw_b, isK_e, isPg_3, isPg_4, isPg_6, asV_n, beq_self_eq_true, inb_N, inb_0, le_T, le_F, lt_T, lt_F, eq_F, le_0T, lt_0F, le_0F, eq_0F, nI_1, nI_add, pk_mul, nI_clamp, cl_0, if_true, if_false, of_nI, T_wI, L_wI, R_wI, N_wI, S_wI, T_wR, L_wR, I_wR, N_wR, S_wR, I_same, R_same, I_wIn, I_wIk, R_wRn, R_wRk, T_nwo, T_nwn, L_nwo, L_nwn, I_nwo, I_nwn, R_nwo, R_nwn, N_nw, S_nw, nar_1, nar_0, nar_01, b01_t0, b01_f0, b01_t1, b01_f1, ne_sn, eq_sn, sn_inj, b3.1, b3.a1.1, b3.a1.2.1, b3.a1.2.2.1, e1, e2]
        rw [show f_M_add y (nI id) (nI (wls now tl m L j).length) (0 : Int32) (nI m) (nI j) r = _ from a1]
        simp (disch := omega) only [gd_T, dr_S, nm_v, cl_S, cv_S, bd_S, lk_L, lk_R, zbw_b, isK_e, isPg_3, isPg_4, isPg_6, asV_n, beq_self_eq_true, inb_N, inb_0, le_T, le_F, lt_T, lt_F, eq_F, le_0T, lt_0F, le_0F, eq_0F, nI_1, nI_add, pk_mul, nI_clamp, cl_0, if_true, if_false, of_nI, T_wI, L_wI, R_wI, N_wI, S_wI, T_wR, L_wR, I_wR, N_wR, S_wR, I_same, R_same, I_wIn, I_wIk, R_wRn, R_wRk, T_nwo, T_nwn, L_nwo, L_nwn, I_nwo, I_nwn, R_nwo, R_nwn, N_nw, S_nw, nar_1, nar_0, nar_01, b01_t0, b01_f0, b01_t1, b01_f1, ne_sn, eq_sn, sn_inj, d1]
      refine ⟨(nI ((wls now tl m L j).length + 1), nI (j + 1), g2), eb, va_up pid' i id, va_up pat' i (wls now tl m L j).length, ?_, rfl, d2, b4.trans (kb_M_writeMap_14 (C := cT) (mi := 0) eb), ?_, ?_, ⟨b7.1.trans (Sty.up a3), by rw [Le, List.length_append]; exact b7.2.up a2 a3 hid⟩, ?_, (d8.trans a8).trans b9, (d9.trans a9).trans b10⟩
      · rw [Le, List.length_append]; rfl
      · rw [Le]; exact X2.done E2 (by omega) hid
      · rw [tk_up a2 a3 hid, b6, cs]; omega
      · rw [oA 33 (by decide) (by decide) (by decide), ← b8]
        exact (Sm.k (J := [33]) (T := []) b3 Kg (by decide) (by decide)).1 33 (by decide)
    | false =>
      have Le : wls now tl m L (j + 1) = wls now tl m L j := by
        show wls now tl m L j ++ _ = _
        rw [c]; exact List.append_nil _
      have eb : b_M_writeMap_14 y (nI m) (nI id) y3 (nI (wls now tl m L j).length) y6 (nI j) r = some (.inl (nI (wls now tl m L j).length, nI (j + 1), r)) := by
        unfold b_M_writeMap_14
        unfold nl at c
        cases c1 : tl (4 * m + j) with
        | false =>
          rw [c1] at e1
          simp (disch := omega) only [gd_T, dr_S, nm_v, cl_S, cv_S, bd_S, lk_L, lk_R, zbw_b, isK_e, isPg_3, isPg_4, isPg_6, asV_n, beq_self_eq_true, inb_N, inb_0, le_T, le_F, lt_T, lt_F, eq_F, le_0T, lt_0F, le_0F, eq_0F, nI_1, nI_add, pk_mul, nI_clamp, cl_0, if_true, if_false, of_nI, T_wI, L_wI, R_wI, N_wI, S_wI, T_wR, L_wR, I_wR, N_wR, S_wR, I_same, R_same, I_wIn, I_wIk, R_wRn, R_wRk, T_nwo, T_nwn, L_nwo, L_nwn, I_nwo, I_nwn, R_nwo, R_nwn, N_nw, S_nw, nar_1, nar_0, nar_01, b01_t0, b01_f0, b01_t1, b01_f1, ne_sn, eq_sn, sn_inj, b3.1, b3.a1.1, b3.a1.2.1, b3.a1.2.2.1, e1]
        | true =>
          rw [c1, Bool.true_and] at c
          rw [c1] at e1
          rw [c] at e2
          simp (disch := omega) only [gd_T, dr_S, nm_v, cl_S, cv_S, bd_S, lk_L, lk_R, zbw_b, isK_e, isPg_3, isPg_4, isPg_6, asV_n, beq_self_eq_true, inb_N, inb_0, le_T, le_F, lt_T, lt_F, eq_F, le_0T, lt_0F, le_0F, eq_0F, nI_1, nI_add, pk_mul, nI_clamp, cl_0, if_true, if_false, of_nI, T_wI, L_wI, R_wI, N_wI, S_wI, T_wR, L_wR, I_wR, N_wR, S_wR, I_same, R_same, I_wIn, I_wIk, R_wRn, R_wRk, T_nwo, T_nwn, L_nwo, L_nwn, I_nwo, I_nwn, R_nwo, R_nwn, N_nw, S_nw, nar_1, nar_0, nar_01, b01_t0, b01_f0, b01_t1, b01_f1, ne_sn, eq_sn, sn_inj, b3.1, b3.a1.1, b3.a1.2.1, b3.a1.2.2.1, e1, e2]
      refine ⟨_, eb, pid', pat', by rw [Le], rfl, b3, b4, by rw [Le]; exact b5, by rw [cn_f c]; exact b6, ⟨b7.1, by rw [Le]; exact b7.2⟩, b8, b9, b10⟩
  · obtain ⟨a, b, r⟩ := s
    obtain ⟨pid', pat', b1, b2, -⟩ := hs
    dsimp only at b1 b2
    subst b1 b2
    show b_M_writeMap_14 y (nI m) (nI id) y3 _ y6 (nI 4) r = _
    unfold b_M_writeMap_14
    simp (disch := omega) only [gd_T, dr_S, nm_v, cl_S, cv_S, bd_S, lk_L, lk_R, zbw_b, isK_e, isPg_3, isPg_4, isPg_6, asV_n, beq_self_eq_true, inb_N, inb_0, le_T, le_F, lt_T, lt_F, eq_F, le_0T, lt_0F, le_0F, eq_0F, nI_1, nI_add, pk_mul, nI_clamp, cl_0, if_true, if_false, of_nI, T_wI, L_wI, R_wI, N_wI, S_wI, T_wR, L_wR, I_wR, N_wR, S_wR, I_same, R_same, I_wIn, I_wIk, R_wRn, R_wRk, T_nwo, T_nwn, L_nwo, L_nwn, I_nwo, I_nwn, R_nwo, R_nwn, N_nw, S_nw, nar_1, nar_0, nar_01, b01_t0, b01_f0, b01_t1, b01_f1, ne_sn, eq_sn, sn_inj]
  · obtain ⟨pid', pat', b1, b2, b3⟩ := hs
    exact ⟨pid', pat', b1, b3⟩

/-! calls that change what is present at the most -/
abbrev okP (w : Wl) : Prop := okX w = true ∧ okV w = true ∧ (nF w 0 0 && (nF w 0 1 && (nF w 0 2 && nF w 0 3))) = true ∧ (nW w 1 && (nW w 68 && (nW w 69 && (nW w 70 && (nW w 71 && nW w 72))))) = true ∧ (nF w 0 7 && (nF w 3 2 && (nF w 4 2 && nF w 6 2))) = true ∧ nF w 0 4 = true ∧ nF w 0 5 = true ∧ nF w 0 6 = true
theorem RX.nowU {e0 : Nat} {h h' : Hp} {x : Nat} {B : Nat → Nat} {va : List Nat} {ca ka pa : Nat → Nat} {rd : Nat} {s : Ab} {w : Wl} {now : Nat → Option Int32} {tl tm : Nat → Bool} (R : RX e0 h x B va ca ka pa rd s) (K : Keep w h h') (q : okP w) (N' : PN h' (B 0) (B 6) (B 7) now) (T' : PT h' (B 0) tl tm) : RX e0 h' x B va ca ka pa rd (now, tl, tm, s.2.2.2) := by
  obtain ⟨q1, q2, q3, q4, q5, q6⟩ := q
  obtain ⟨r1, X, ⟨N, T⟩, F, L, ⟨V, la⟩, ⟨h5, h6⟩, G, Q, n1, n2⟩ := R
  have sv := Sv.k K q2
  exact ⟨Nat.lt_of_lt_of_le r1 K.1, X.k K q3, ⟨N', T'⟩, F.k K q4, L.ext r1 sv, ⟨V.ext r1 sv, by rw [(K.I X.2.1 X.1 q6.1).2]; exact la⟩, ⟨by rw [(K.I X.2.1 X.1 q6.2.1).1]; exact h5, by rw [(K.I X.2.1 X.1 q6.2.2).1]; exact h6⟩, G.ext (Sx.k K q1), Q.k X G K q5, n1, n2⟩
def okQ (w : Wl) : Bool := ([4, 5, 6, 7, 8, 9, 10, 11, 13, 14, 15, 16, 17, 18, 20, 21, 22, 23, 24, 27, 28, 29] : List Nat).all (fun j => nW w (mk j)) && w.1.all (fun x => !decide (x.1 = 8)) && w.2.all fun x => !decide (x = 8)
theorem okQ_s {h h' : Hp} {y : Nat} {A : Nat → Nat} {w : Wl} (M : MOK h y A) (K : Keep w h h') (q : okQ w = true) (J T : List Nat) (hJ : ∀ j ∈ J, j ∈ ([4, 5, 6, 7, 8, 9, 10, 11, 13, 14, 15, 16, 17, 18, 20, 21, 22, 23, 24, 27, 28, 29] : List Nat)) : Sm h h' y A J T := by
  unfold okQ at q
  rw [Bool.and_eq_true, Bool.and_eq_true, List.all_eq_true, List.all_eq_true, List.all_eq_true] at q
  have ok : ∀ j ∈ ([4, 5, 6, 7, 8, 9, 10, 11, 13, 14, 15, 16, 17, 18, 20, 21, 22, 23, 24, 27, 28, 29] : List Nat), 66 ≤ mk j := by decide
  refine Sm.k M K (fun j hj => ⟨ok j (hJ j hj), q.1.1 j (hJ j hj)⟩) (fun t _ => ?_)
  unfold nF
  rw [Bool.and_eq_true, List.all_eq_true, List.all_eq_true]
  refine ⟨fun x hx => ?_, q.2⟩
  have := q.1.2 x hx
  simp only [Bool.not_eq_true', decide_eq_false_iff_not] at this ⊢
  intro z
  exact this (by rw [z])
theorem RM.nowU {h h' : Hp} {y : Nat} {A pid pat : Nat → Nat} {s : Ab} {w : Wl} {now : Nat → Option Int32} {tl tm : Nat → Bool} (R : RM h y A pid pat s) (K : Keep w h h') (q : okQ w = true) (M' : MOK h' y A) (N' : MNow h' A now) (T' : MTl h' A tl) (U' : MTm h' A tm) : RM h' y A pid pat (now, tl, tm, s.2.2.2) := by
  obtain ⟨M, -, F, C, ⟨V, v1, v2, v3⟩, P, r⟩ := R
  have s0 := okQ_s M K q [] [31, 32, 26] (by decide)
  exact ⟨M', ⟨N', T', U'⟩, F.ext (okQ_s M K q _ _ (by decide)), C.ext (okQ_s M K q _ _ (by decide)), ⟨V.exS (okQ_s M K q _ _ (by decide)), by rw [s0.2 31 (by decide)]; exact v1, by rw [s0.2 32 (by decide)]; exact v2, by rw [s0.2 26 (by decide)]; exact v3⟩, P.ext (y := y) (okQ_s M K q _ _ (by decide)), r⟩
theorem Ivt.now {s : Ab} {base gen : Nat} (I : Ivt s base gen) (now : Nat → Option Int32) (tl tm : Nat → Bool) : Ivt (now, tl, tm, s.2.2.2) base gen := I
/-- the numbers of the versions stay below the calls -/
def lb (s : Ab) (j : Nat) : Prop := s.lat ≤ j ∧ ∀ k, vk s.np s.nxt k → kd s.st k = 2 → pwh s.st k ≤ j
theorem lb.up {s : Ab} {j : Nat} (h : lb s j) : lb s (j + 1) := ⟨Nat.le_succ_of_le h.1, fun k v z => Nat.le_succ_of_le (h.2 k v z)⟩
/-- both hold a sound state after j calls -/
def Ok (E : Nat × Nat) (h : Hp) (x y : Nat) (A : Nat → Nat) (j : Nat) : Prop := ∃ B va ca ka pa rd pid pat s base gen, RX E.1 h x B va ca ka pa rd s ∧ RM h y A pid pat s ∧ Ivt s base gen ∧ rd ≤ j ∧ s.nxt ≤ j + 1 ∧ lb s j
/-- room that a call takes -/
def Rm (h h' : Hp) : Prop := hpN h ≤ hpN h' ∧ hpN h' ≤ hpN h + 100 ∧ hpS h' ≤ hpS h + 1000
theorem Rm.refl (h : Hp) : Rm h h := ⟨by omega, by omega, by omega⟩
theorem Ok.mono {E : Nat × Nat} {h : Hp} {x y : Nat} {A : Nat → Nat} {j : Nat} (K : Ok E h x y A j) : Ok E h x y A (j + 1) := by
  obtain ⟨B, va, ca, ka, pa, rd, pid, pat, s, base, gen, k1, k2, k3, k4, k5, k6⟩ := K
  exact ⟨B, va, ca, ka, pa, rd, pid, pat, s, base, gen, k1, k2, k3, by omega, by omega, k6.up⟩
theorem key_cases (a b : Int32) : ((a < 0 ∨ nI 4 ≤ a) ∨ (b < 0 ∨ nI 32 ≤ b)) ∨ ∃ m k, m < 4 ∧ k < 32 ∧ a = nI m ∧ b = nI k := by
  rcases pk_ix a (n := 4) (by omega) with q | q | ⟨m, hm, rfl⟩
  · exact Or.inl (Or.inl (Or.inl q))
  · exact Or.inl (Or.inl (Or.inr q))
  · rcases pk_ix b (n := 32) (by omega) with q | q | ⟨k, hk, rfl⟩
    · exact Or.inl (Or.inr (Or.inl q))
    · exact Or.inl (Or.inr (Or.inr q))
    · exact Or.inr ⟨m, k, hm, hk, rfl, rfl⟩
theorem c_put {E : Nat × Nat} {h : Hp} {x y : Nat} {A : Nat → Nat} {j : Nat} (K : Ok E h x y A j) (a b v : Int32) : ∃ r h1 h2, f_X_put x a b v h = some (r, h1) ∧ f_M_put y a b v h1 = some (r, h2) ∧ Ok E h2 x y A (j + 1) ∧ Rm h h2 := by
  rcases key_cases a b with q | ⟨m, k, hm, hk, rfl, rfl⟩
  · exact ⟨-1, h, h, x_put_out q, m_put_out q, K.mono, Rm.refl h⟩
  · obtain ⟨B, va, ca, ka, pa, rd, pid, pat, s, base, gen, R, Q, I, i1, i2, i3⟩ := K
    obtain ⟨h1, e1, N1, T1, -, n1, s1⟩ := x_put (v := v) R.2.1 R.2.2.1.1 R.2.2.1.2 hm hk
    have K1 := fr_X_put (C := cT) (mi := 0) e1
    have Q1 := Q.k K1 (by decide)
    obtain ⟨h2, e2, M2, N2, T2, n2, s2⟩ := m_put (v := v) Q1.1 Q1.2.1.1 Q1.2.1.2.1 hm hk
    have K2 := fr_M_put (C := cT) (mi := 0) e2
    refine ⟨_, h1, h2, e1, e2, ⟨B, va, ca, ka, pa, rd, pid, pat, sPut s m k (some v), base, gen, (R.nowU K1 (by decide) N1 T1).k K2 (by decide), Q1.nowU K2 (by decide) M2 N2 T2 (Q1.2.1.2.2.exS (y := y) (Sm.k Q1.1 K2 (by decide) (by decide))), I, by omega, by show s.nxt ≤ _; omega, i3.up⟩, ?_, ?_, ?_⟩ <;> omega
theorem c_remove {E : Nat × Nat} {h : Hp} {x y : Nat} {A : Nat → Nat} {j : Nat} (K : Ok E h x y A j) (a b : Int32) : ∃ r h1 h2, f_X_remove x a b h = some (r, h1) ∧ f_M_remove y a b h1 = some (r, h2) ∧ Ok E h2 x y A (j + 1) ∧ Rm h h2 := by
  rcases key_cases a b with q | ⟨m, k, hm, hk, rfl, rfl⟩
  · exact ⟨-1, h, h, x_remove_out q, m_remove_out q, K.mono, Rm.refl h⟩
  · obtain ⟨B, va, ca, ka, pa, rd, pid, pat, s, base, gen, R, Q, I, i1, i2, i3⟩ := K
    obtain ⟨p1, p2⟩ := x_remove R.2.1 R.2.2.1.1 R.2.2.1.2 hm hk
    cases c : (s.now (32 * m + k)).isSome with
    | false =>
      have z : s.now (32 * m + k) = none := Option.isNone_iff_eq_none.mp (by rw [← Option.not_isSome, c]; rfl)
      refine ⟨0, h, h, p1 z, (m_remove Q.1 Q.2.1.1 Q.2.1.2.1 hm hk).1 z, ⟨B, va, ca, ka, pa, rd, pid, pat, s, base, gen, R, Q, I, by omega, by omega, i3.up⟩, Rm.refl h⟩
    | true =>
      obtain ⟨h1, e1, N1, T1, -, n1, s1⟩ := p2 c
      have K1 := fr_X_remove (C := cT) (mi := 0) e1
      have Q1 := Q.k K1 (by decide)
      obtain ⟨h2, e2, M2, N2, T2, n2, s2⟩ := (m_remove Q1.1 Q1.2.1.1 Q1.2.1.2.1 hm hk).2 c
      have K2 := fr_M_remove (C := cT) (mi := 0) e2
      refine ⟨_, h1, h2, e1, e2, ⟨B, va, ca, ka, pa, rd, pid, pat, sPut s m k none, base, gen, (R.nowU K1 (by decide) N1 T1).k K2 (by decide), Q1.nowU K2 (by decide) M2 N2 T2 (Q1.2.1.2.2.exS (y := y) (Sm.k Q1.1 K2 (by decide) (by decide))), I, by omega, by show s.nxt ≤ _; omega, i3.up⟩, ?_, ?_, ?_⟩ <;> omega
theorem c_get {E : Nat × Nat} {h : Hp} {x y : Nat} {A : Nat → Nat} {j : Nat} (K : Ok E h x y A j) (a b : Int32) : ∃ r, f_X_get x a b h = some (r, h) ∧ f_M_get y a b h = some (r, h) := by
  rcases key_cases a b with q | ⟨m, k, hm, hk, rfl, rfl⟩
  · exact ⟨_, x_get_out q, m_get_out q⟩
  · obtain ⟨B, va, ca, ka, pa, rd, pid, pat, s, base, gen, R, Q, I, i1, i2, i3⟩ := K
    exact ⟨_, x_get R.2.1 R.2.2.1.1 hm hk, m_get Q.1 Q.2.1.1 hm hk⟩
theorem c_next {E : Nat × Nat} {h : Hp} {x y : Nat} {A : Nat → Nat} {j : Nat} (K : Ok E h x y A j) (a b : Int32) : ∃ r, f_X_next x a b h = some (r, h) ∧ f_M_next y a b h = some (r, h) := by
  rcases pk_ix a (n := 4) (by omega) with q | q | ⟨m, hm, rfl⟩
  · exact ⟨-1, x_next_out (Or.inl q), m_next_out (Or.inl q)⟩
  · exact ⟨-1, x_next_out (Or.inr q), m_next_out (Or.inr q)⟩
  · obtain ⟨B, va, ca, ka, pa, rd, pid, pat, s, base, gen, R, Q, I, i1, i2, i3⟩ := K
    obtain ⟨r1, e1, u1⟩ := x_next (k := b) R.2.1 R.2.2.1.1 hm
    obtain ⟨r2, e2, u2⟩ := m_next (k := b) Q.1 Q.2.1.1 hm
    exact ⟨r1, e1, by rw [u1.uniq u2]; exact e2⟩
theorem c_kept {E : Nat × Nat} {h : Hp} {x y : Nat} {A : Nat → Nat} {j : Nat} (K : Ok E h x y A j) (k : Int32) : ∃ r, f_X_kept x k h = some (r, h) ∧ f_M_kept y k h = some (r, h) := by
  obtain ⟨B, va, ca, ka, pa, rd, pid, pat, s, base, gen, R, Q, I, i1, i2, i3⟩ := K
  exact ⟨_, x_kept R.2.1 R.2.2.2.2.2.1.1, m_kept Q.1 Q.2.2.2.2.1.1⟩
theorem c_block {E : Nat × Nat} {h : Hp} {x y : Nat} {A : Nat → Nat} {j : Nat} (K : Ok E h x y A j) (b w : Int32) : ∃ r, f_X_block x b w h = some (r, h) ∧ f_M_block y b w h = some (r, h) := by
  rcases pk_ix b (n := 32) (by omega) with q | q | ⟨n, hn, rfl⟩
  · exact ⟨-1, x_block_out (Or.inl q), m_block_out (Or.inl q)⟩
  · exact ⟨-1, x_block_out (Or.inr q), m_block_out (Or.inr q)⟩
  · obtain ⟨B, va, ca, ka, pa, rd, pid, pat, s, base, gen, R, Q, I, i1, i2, i3⟩ := K
    refine ⟨_, x_block (ka := ka) (fs := s.fs) (np := s.np) R.2.1 R.2.2.2.1 hn (fun z => ?_) (fun z => ?_), m_block Q.1 Q.2.2.1 hn⟩
    · rcases (I.2.2.1 n hn).1 with q | q
      · exact q.2
      · omega
    · rcases (I.2.2.1 n hn).1 with q | q
      · exact absurd q.1 z
      · exact ⟨(R.2.2.2.2.2.2.2.1 _ q.1 q.2.1).1, q.2.2.1⟩
/-! reading a version -/
theorem Ivt.inV {h : Hp} {y : Nat} {A pid pat : Nat → Nat} {s : Ab} {base gen : Nat} (Q : RM h y A pid pat s) (I : Ivt s base gen) : inV pid pat s.st s.np s.nxt s.vers := fun t ht h0 => by
  obtain ⟨S, -, -, -, -, i5, i6, -⟩ := I
  obtain ⟨v, k2⟩ := i5.2.2.2.2 t ht h0
  refine ⟨v, k2, fun k hk => ?_⟩
  have lv : lvb s.st s.vers k = true := lvb_t.mpr ⟨t, ht, h0, hk⟩
  exact Q.2.2.2.2.2.2 k (S.rc v k2 hk).1 (Or.inl (i6.1 k lv).2)
theorem c_at {E : Nat × Nat} {h : Hp} {x y : Nat} {A : Nat → Nat} {j : Nat} (K : Ok E h x y A j) (v a b : Int32) : ∃ r, f_X_at x v a b h = some (r, h) ∧ f_M_at y v a b h = some (r, h) := by
  obtain ⟨B, va, ca, ka, pa, rd, pid, pat, s, base, gen, R, Q, I, i1, i2, i3⟩ := K
  obtain ⟨o, f1, e1⟩ := x_find (v := v) R.2.1 R.2.2.2.2.2.1.1
  obtain ⟨o', f2, e2⟩ := m_find (v := v) Q.1 Q.2.2.2.2.1.1
  have eo := f1.uniq f2
  subst eo
  have x1 := R.2.1.1
  rcases key_cases a b with q | ⟨m, k, hm, hk, rfl, rfl⟩
  · refine ⟨2199023255552, ?_, ?_⟩
    · unfold f_X_at
      rw [gd_t (isK_of x1), cl_s e1]
      by_cases c : (o.bind fun i => va[i]?) = none
      · rw [if_pos c]
      · rw [if_neg c, cl_s (key_out q h), if_pos rfl]
    · unfold f_M_at
      rw [gd_t (isK_of Q.1.1), cl_s e2]
      rcases m_two_out q h with z | ⟨z1, z2⟩
      · rw [cl_s z, if_pos rfl]
      · rw [cl_s z1, if_neg (by decide), cl_s z2, if_pos rfl]
  · cases o with
    | none =>
      refine ⟨2199023255552, ?_, ?_⟩
      · unfold f_X_at
        rw [gd_t (isK_of x1), cl_s e1]
        exact if_pos rfl
      · unfold f_M_at
        rw [gd_t (isK_of Q.1.1), cl_s e2, cl_s (in_ok hm (by decide) h), if_neg (by decide), cl_s (in_ok hk (by decide) h), if_neg (by decide), if_neg (by decide)]
    | some i =>
      obtain ⟨t, ht, tv⟩ := f1.at
      have il : i < s.vers.length := by
        rcases Nat.lt_or_ge i s.vers.length with u | u
        · exact u
        · rw [List.getElem?_eq_none u] at ht; cases ht
      obtain ⟨V, -⟩ := R.2.2.2.2.2.1
      obtain ⟨ad, ha⟩ : ∃ ad, va[i]? = some ad := ⟨_, List.getElem?_eq_getElem (by rw [V.2.1]; exact il)⟩
      obtain ⟨o1, o2, o3, o4, o5⟩ := V.2.2 i ad t ha ht
      have iv := I.inV Q t (List.mem_of_getElem? ht)
      have l48 := Q.2.2.2.2.1.1.2.1
      have e1' : f_X_findVersion x v h = some (some ad, h) := by
        rw [e1]
        show some (va[i]?, h) = _
        rw [ha]
      refine ⟨gv (rdv s.st t.2.2 m k), ?_, ?_⟩
      · unfold f_X_at
        rw [gd_t (isK_of x1), cl_s e1', if_neg (by intro z; cases z), cl_s (key_ok hm hk h), if_neg (by decide), dr_s rfl, gd_t (isK_of o1), o4]
        by_cases c : t.2.2 = 0
        · rw [c, ck_0, if_pos rfl]
          unfold rdv
          rw [if_pos rfl]; rfl
        · obtain ⟨v1, v2, -⟩ := iv c
          have G := R.2.2.2.2.2.2.2.1
          rw [ck_s c, if_neg (by intro z; cases z), dr_s rfl, gd_t (isK_of ((G.po v1).meta v2).1), cl_s (e_valueOf G I.1 v1 v2 hm hk)]
      · have mr := m_read (k := t.2.2) Q.1 Q.2.2.2.2.2.1 I.1 iv hm hk
        unfold f_M_at
        rw [gd_t (isK_of Q.1.1), cl_s (show f_M_find y v h = some (nI i, h) from e2), cl_s (in_ok hm (by decide) h), if_neg (by decide), cl_s (in_ok hk (by decide) h), if_neg (by decide)]
        simp (disch := omega) only [gd_T, dr_S, nm_v, cl_S, cv_S, bd_S, lk_L, lk_R, zbw_b, isK_e, isPg_3, isPg_4, isPg_6, asV_n, beq_self_eq_true, inb_N, inb_0, le_T, le_F, lt_T, lt_F, eq_F, le_0T, lt_0F, le_0F, eq_0F, nI_1, nI_add, pk_mul, nI_clamp, cl_0, if_true, if_false, of_nI, T_wI, L_wI, R_wI, N_wI, S_wI, T_wR, L_wR, I_wR, N_wR, S_wR, I_same, R_same, I_wIn, I_wIk, R_wRn, R_wRk, T_nwo, T_nwn, L_nwo, L_nwn, I_nwo, I_nwn, R_nwo, R_nwn, N_nw, S_nw, nar_1, nar_0, nar_01, b01_t0, b01_f0, b01_t1, b01_f1, ne_sn, eq_sn, sn_inj, Q.1.1, Q.1.a29.1, Q.1.a29.2.1, Q.1.a29.2.2.1, (Q.2.2.2.2.1.1.2.2 i t ht).2.2, mr]

theorem sWrite_lb {s : Ab} {j f lat : Nat} {L : List Pg} {vers : List Vt} {now : Nat → Option Int32} (h : lb s j) (hl : lat ≤ j + 1) (hL : ∀ (i : Nat) (pg : Pg), L[i]? = some pg → pg.1 = 2 → pg.2.2.2.2 ≤ j + 1) : lb (sWrite s L f vers lat now) (j + 1) := by
  refine ⟨hl, fun k v k2 => ?_⟩
  have v' : vk (va_up s.np s.nxt L.length) (s.nxt + 1) k := v
  have k2' : (stN s.st s.nxt L k).1 = 2 := k2
  show (stN s.st s.nxt L k).2.2.2.2 ≤ j + 1
  by_cases c : k / 32 = s.nxt
  · have v3 := v'.2.2
    rw [c, up_n] at v3
    obtain ⟨pg, hpg⟩ : ∃ pg, L[k % 32]? = some pg := ⟨_, List.getElem?_eq_getElem v3⟩
    have e : stN s.st s.nxt L k = pg := by
      unfold stN
      rw [if_pos c, hpg]; rfl
    rw [e] at k2' ⊢
    exact hL _ pg hpg k2'
  · have e : stN s.st s.nxt L k = s.st k := stN_o c
    rw [e] at k2' ⊢
    exact Nat.le_succ_of_le (h.2 k ⟨v'.1, by have := v'.2.1; omega, by have := v'.2.2; rwa [up_o c] at this⟩ k2')
theorem c_commit {E : Nat × Nat} {h : Hp} {x y : Nat} {A : Nat → Nat} {j : Nat} (K : Ok E h x y A j) (hj : j < 600) : ∃ r h1 h2, f_X_commit E x h = some (r, h1) ∧ f_M_commit y h1 = some (r, h2) ∧ Ok E h2 x y A (j + 1) ∧ Rm h h2 := by
  have K0 := K
  obtain ⟨B, va, ca, ka, pa, rd, pid, pat, s, base, gen, R, Q, I, i1, i2, i3⟩ := K
  have X := R.2.1
  have N := R.2.2.1.1
  have T := R.2.2.1.2
  have F := R.2.2.2.1
  have M := Q.1
  have i5 := I.2.2.2.2.2.1
  have lj := i3.1
  have e0 := p_isTouched N.1.1 T
  have e0m := m_any M Q.2.1.2.1 Q.2.1.2.2
  have p21 := pw_le s.now s.tl s.tm
  have p1 : 1 ≤ pw s.now s.tl s.tm := by unfold pw; omega
  cases ct : tcd s.tl s.tm with
  | false =>
    rw [ct] at e0 e0m
    obtain ⟨il, al, tt, ha, htt, te, x4, ile, hlast⟩ := R.lat i5
    obtain ⟨o1, o2, o3, o4, o5⟩ := R.2.2.2.2.2.1.1.2.2 il al tt ha htt
    refine ⟨nI s.lat, h, h, ?_, ?_, K0.mono, Rm.refl h⟩
    · unfold f_X_commit
      rw [gd_t (isK_of X.1), dr_s X.2.2.1, gd_t (isK_of N.1.1), cl_s e0, if_pos (show b01 false = 0 from rfl), gd_t (isK_of X.1), dr_s x4, gd_t (isK_of o1), o3, te]
    · unfold f_M_commit
      rw [bd_s e0m]
      dsimp only
      rw [if_pos (show b01 false = 0 from rfl), gd_t (isK_of M.1), Q.2.2.2.2.1.2.1]
  | true =>
    obtain ⟨o, rw1, er⟩ := x_room (n := (pw s.now s.tl s.tm + 1) / 2) F.1 F.2.2.2.1 (by omega) (by omega)
    cases o with
    | none =>
      rw [ct] at e0 e0m
      obtain ⟨o', rw2, er2⟩ := m_room (n := (pw s.now s.tl s.tm + 1) / 2) M Q.2.2.1.2.2.1 (by omega) (by omega)
      have eo := rw2.uniq rw1
      subst eo
      have ep := p_pages N T
      have epm := m_pages M Q.2.1.1 Q.2.1.2.1 Q.2.1.2.2
      have eb := blocks_for (np := pw s.now s.tl s.tm) (by omega) h
      have ed : (nI (pw s.now s.tl s.tm) + 1) / nI 2 = nI ((pw s.now s.tl s.tm + 1) / 2) := by
        rw [nI_s]; exact pk_div (by omega) (by decide) (by decide)
      refine ⟨-2, h, h, ?_, ?_, K0.mono, Rm.refl h⟩
      · unfold f_X_commit
        rw [gd_t (isK_of X.1), dr_s X.2.2.1, gd_t (isK_of N.1.1), cl_s e0, if_neg (by decide), gd_t (isK_of X.1), dr_s X.2.2.1, gd_t (isK_of N.1.1), cl_s ep, gd_t (isK_of X.1), cl_s eb, dr_s X.2.2.2.1, gd_t (isK_of F.1.1), cl_s er]
        exact if_neg (by decide)
      · unfold f_M_commit
        rw [bd_s e0m]
        dsimp only
        rw [if_neg (by decide), gd_t (isK_of M.1), cl_s epm, gd_t (isK_of M.1), ed, cl_s er2]
        exact if_neg (by decide)
    | some f =>
      have hl : s.lat + 1 < 2 ^ 20 := by omega
      have hn : s.nxt + 1 < 2 ^ 14 := by omega
      obtain ⟨h1, B', va', ca', ka', pa', e1, R1, m1, m2, s1⟩ := x_commitS R I ct rw1 hn hl (by omega)
      have K1 := fr_X_commit (C := cTe E.1) (mi := E.2) e1
      have Q1 := Q.k K1 (by decide)
      obtain ⟨h2, pid', pat', e2, Q2, m3, s3⟩ := m_commitS Q1 I ct rw1 hn hl
      have K2 := fr_M_commit (C := cT) (mi := 0) e2
      have I' := I.commit rw1 hn hl
      have lb' : lb (sCommit s f) (j + 1) := sWrite_lb i3 (by omega) (fun i pg hi k2 => by
        have hi' : (wms s.now s.tl s.tm s.st (lmk s.vers) s.nxt 4 ++ [mpg s.now s.tl s.tm s.st (lmk s.vers) s.nxt (s.lat + 1)])[i]? = some pg := hi
        rcases appP_at hi' with ⟨-, z⟩ | ⟨-, z⟩
        · rcases wms_gd I.1 I.bm 4 (Nat.le_refl _) i pg z with q | q
          · rw [q.1] at k2; cases k2
          · rw [q.1] at k2; cases k2
        · rw [z]
          show s.lat + 1 ≤ j + 1
          omega)
      refine ⟨_, h1, h2, e1, e2, ⟨B', va', ca', ka', pa', rd + 1, pid', pat', _, base, gen, R1.k K2 (by decide), Q2, I'.drop, by omega, by show s.nxt + 1 ≤ _; omega, lb'⟩, ?_, ?_, ?_⟩ <;> omega

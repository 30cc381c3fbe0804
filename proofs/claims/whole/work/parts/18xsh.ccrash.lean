theorem c_crash {E : Nat × Nat} {h : Hp} {x y : Nat} {A : Nat → Nat} {j : Nat} (K : Ok E h x y A j) (hj : j < 600) (k mask : Int32) : ∃ r h1 h2, f_X_crash E x k mask h = some (r, h1) ∧ f_M_crash y k mask h1 = some (r, h2) ∧ Ok E h2 x y A (j + 1) ∧ Rm h h2 := by
  have K0 := K
  obtain ⟨B, va, ca, ka, pa, rd, pid, pat, s, base, gen, R, Q, I, i1, i2, i3⟩ := K
  have X := R.2.1
  have F := R.2.2.2.1
  have M := Q.1
  have l32 := F.2.2.2.2.2.2.1
  have p19 := Q.2.2.1.2.2.2.1
  rcases pk_ix k (n := s.pend.length + 1) (by omega) with q | q | ⟨d, hd, rfl⟩
  · refine ⟨-1, h, h, ?_, ?_, K0.mono, Rm.refl h⟩
    · unfold f_X_crash
      rw [if_pos q]
    · unfold f_M_crash
      rw [gd_t (isK_of M.1), p19, nI_s, cl_s (in_out (Or.inl q) h), if_pos rfl]
  · have kn : ¬ k < 0 := fun z => absurd (Int32.lt_of_le_of_lt q z) (nI_pos (by omega))
    obtain ⟨n, hn, rfl⟩ := nI_of kn
    have nl : s.pend.length + 1 ≤ n := (nI_leI (by omega) hn).mp q
    refine ⟨-1, h, h, ?_, ?_, K0.mono, Rm.refl h⟩
    · unfold f_X_crash
      rw [if_neg kn, gd_t (isK_of X.1), dr_s X.2.2.2.1, gd_t (isK_of F.1.1), F.2.2.2.2.2.1, if_pos (nI_lt (by omega) (by omega))]
    · unfold f_M_crash
      rw [gd_t (isK_of M.1), p19, nI_s, cl_s (in_out (Or.inr q) h), if_pos rfl]
  · have dn : ¬ nI d < 0 := nI_pos (by omega)
    have dl : ¬ nI s.pend.length < nI d := nI_nlt (by omega) (by omega)
    have inm : f_M_in (nI d) (nI (s.pend.length + 1)) h = some (1, h) := in_ok hd (by omega) h
    rcases pk_ix mask (n := 65536) (by omega) with w | w | ⟨m, hm, rfl⟩
    · refine ⟨-1, h, h, ?_, ?_, K0.mono, Rm.refl h⟩
      · unfold f_X_crash
        rw [if_neg dn, gd_t (isK_of X.1), dr_s X.2.2.2.1, gd_t (isK_of F.1.1), F.2.2.2.2.2.1, if_neg dl, if_pos w]
      · unfold f_M_crash
        rw [gd_t (isK_of M.1), p19, nI_s, cl_s inm, if_neg (by decide), cl_s (in_out (Or.inl w) h), if_pos rfl]
    · have kn : ¬ mask < 0 := fun z => absurd (Int32.lt_of_le_of_lt w z) (by decide)
      have k5 : ¬ mask ≤ nI 65535 := fun z => absurd (Int32.le_trans w z) (by decide)
      refine ⟨-1, h, h, ?_, ?_, K0.mono, Rm.refl h⟩
      · unfold f_X_crash
        rw [if_neg dn, gd_t (isK_of X.1), dr_s X.2.2.2.1, gd_t (isK_of F.1.1), F.2.2.2.2.2.1, if_neg dl, if_neg kn, if_neg k5]
      · unfold f_M_crash
        rw [gd_t (isK_of M.1), p19, nI_s, cl_s inm, if_neg (by decide), cl_s (in_out (Or.inr w) h), if_pos rfl]
    · have kn : ¬ nI m < 0 := nI_pos (by omega)
      have k5 : nI m ≤ nI 65535 := nI_le (by omega) (by omega)
      obtain ⟨h1, B', va', n, Nw, e1, R1, m1, m2, s1⟩ := x_crashS R I (d := d) (mask := nI m) (by omega) kn k5 (by omega)
      have K1 := fr_X_crash (C := cTe E.1) (mi := E.2) e1
      have Q1 := Q.k K1 (by decide)
      obtain ⟨h2, pid', n', Nw', e2, Q2, m3, s3⟩ := m_crashS Q1 I (d := d) (mask := nI m) (by omega) (fun z => z.elim kn (fun w => nI_ge hm (by omega) w))
      have en := Nw.uniq Nw'
      subst en
      have K2 := fr_M_crash (C := cT) (mi := 0) e2
      obtain ⟨I', gl⟩ := I.crash (g := mixB s d (nI m)) (fun b _ => mix_or s d (nI m) b) Nw
      have nb : nNum s.st s.np n ≤ j := by
        unfold nNum
        by_cases c : n = 0
        · rw [if_pos c]; exact Nat.zero_le _
        · rw [if_neg c]
          obtain ⟨q1, q2, -⟩ := Nw.1.resolve_left c
          obtain ⟨v, k2, -⟩ := mkk_vk I.1 q1 q2
          exact i3.2 _ v k2
      refine ⟨_, h1, h2, e1, e2, ⟨B', va', ca, ka, pa, rd + 1, pid', pat, _, _, _, R1.k K2 (by decide), Q2, I', by omega, by show gm (fun b => (mixB s d (nI m) b).1) 32 + 1 ≤ _; omega, ⟨by show nNum s.st s.np n ≤ _; omega, fun k v z => ?_⟩⟩, ?_, ?_, ?_⟩
      · have v' : vk s.np (gm (fun b => (mixB s d (nI m) b).1) 32 + 1) k := v
        exact Nat.le_succ_of_le (i3.2 k ⟨v'.1, by have := v'.2.1; omega, v'.2.2⟩ z)
      all_goals omega

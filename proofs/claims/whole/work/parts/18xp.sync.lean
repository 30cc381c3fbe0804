/-! sync -/
theorem FR.cg {h : Hp} {F c0 c1 c2 c3 c4 : Nat} {cc cs cc' cs' : Nat → Option Nat} {free pnd : Nat → Bool} {pend : List Nat} (R : FR h F c0 c1 c2 c3 c4 cc cs free pnd pend) (e1 : ∀ b, b < 32 → cc b = cc' b) (e2 : ∀ b, b < 32 → cs b = cs' b) : FR h F c0 c1 c2 c3 c4 cc' cs' free pnd pend := by
  obtain ⟨O, r1, r2, r3⟩ := R
  exact ⟨O, fun b hb => by rw [r1 b hb]; exact e1 b hb, fun b hb => by rw [r2 b hb]; exact e2 b hb, r3⟩
/-- a block's holder -/
def ccf (ca : Nat → Nat) (f : Nat → Nat × Nat) (b : Nat) : Option Nat := if b < 32 then ck ca (f b).1 else none
theorem ccf_T {h : Hp} {ca ka pa : Nat → Nat} {st : Nat → Pg} {fs np : Nat → Nat} {nxt : Nat} {f : Nat → Nat × Nat} (G : XG h ca ka pa st fs np nxt) (hf : ∀ b, b < 32 → bOK f fs np nxt b) : ∀ b k, ccf ca f b = some k → hpT h k = 2 := fun b k hk => by
  unfold ccf at hk
  by_cases c : b < 32
  · rw [if_pos c] at hk
    rcases hf b c with q | q
    · rw [q.1, ck_0] at hk; cases hk
    · rw [ck_s (by omega)] at hk
      cases hk
      exact (G _ q.1 q.2.1).1.1
  · rw [if_neg c] at hk; cases hk
theorem x_syncS {e0 : Nat} {h : Hp} {x : Nat} {B : Nat → Nat} {va : List Nat} {ca ka pa : Nat → Nat} {rd base gen : Nat} {s : Ab} (R : RX e0 h x B va ca ka pa rd s) (I : Ivt s base gen) : ∃ h', f_X_sync x h = some (nI s.pend.length, h') ∧ RX e0 h' x B va ca ka pa rd (sSync s) ∧ hpN h' = hpN h ∧ hpS h' = hpS h := by
  obtain ⟨r1, X, ⟨N, T⟩, F, L, ⟨V, la⟩, ⟨h5, h6⟩, G, Q, n1, n2⟩ := R
  obtain ⟨S, j1, j2, j3, j4, j5, j6, j7⟩ := I
  have F1 : FR h (B 1) (B 8) (B 9) (B 10) (B 11) (B 12) (ccf ca s.cont) (ccf ca s.sett) s.free (fun b => decide (b ∈ s.pend)) s.pend := F.cg (fun b hb => by unfold ccf; rw [if_pos hb]) (fun b hb => by unfold ccf; rw [if_pos hb])
  obtain ⟨h1, e1, F2, m1, s1⟩ := x_settle F1 (ccf_T G (fun b hb => (j2 b hb).1))
  have K1 := fr_F_settlePending (C := cT) (mi := 0) e1
  have X1 := X.k K1 (by decide)
  have sv1 : Sv h h1 := Sv.k K1 (by decide)
  have G1 := G.ext (Sx.k K1 (by decide))
  have Q1 := Q.k X G K1 (by decide)
  have L1 := L.ext r1 sv1
  have r11 : e0 < hpN h1 := by rw [m1]; exact r1
  have F3 : FR h1 (B 1) (B 8) (B 9) (B 10) (B 11) (B 12) (fun b => ck ca (s.cont b).1) (fun b => ck ca (s.cont b).1) s.free (fun b => decide (b ∈ ([] : List Nat))) [] := F2.cg (fun b hb => by unfold ccf; rw [if_pos hb]) (fun b hb => by
    by_cases c : b ∈ s.pend
    · rw [if_pos c]; unfold ccf; rw [if_pos hb]
    · rw [if_neg c, j4.2.2 b hb c]; unfold ccf; rw [if_pos hb])
  obtain ⟨h2, e2, L2, F4, ov, m2, s2⟩ := x_free X1 L1 r11 F3 G1 S Q1 j3.1
  have ef : f_X_sync x h = some (nI s.pend.length, h2) := by
    unfold f_X_sync
    rw [gd_t (isK_of X.1), dr_s X.2.2.2.1, gd_t (isK_of F.1.1), cv_s e1, gd_t (isK_of X1.1), cv_s e2, F.2.2.2.2.2.1]
  have K := fr_X_sync (C := cT) (mi := 0) ef
  have bk := L1.ek
  have bv := V.1.ek
  refine ⟨h2, ef, ⟨by rw [m2, m1]; exact r1, X.k K (by decide), ⟨N.k K (by decide), T.k K N.1.2.1 N.1.1 (by decide)⟩, F4, L2, ⟨(V.ext r1 sv1).exO r11 ov ?_ ?_ (fun a ha => ?_), by rw [(K.I X.2.1 X.1 (by decide)).2]; exact la⟩, ⟨by rw [(K.I X.2.1 X.1 (by decide)).1]; exact h5, by rw [(K.I X.2.1 X.1 (by decide)).1]; exact h6⟩, G.ext (Sx.k K (by decide)), Q.k X G K (by decide), n1, n2⟩, m2.trans m1, s2.trans s1⟩
  · simp only [List.mem_cons, List.not_mem_nil, or_false]
    rintro (z | z)
    · exact n1 z.symm
    · have a := (V.ext r1 sv1).1.1
      rw [z] at a
      omega
  · simp only [List.mem_cons, List.not_mem_nil, or_false]
    rintro (z | z)
    · have a := (V.ext r1 sv1).1.ek
      have b := L1.1
      rw [z] at a
      omega
    · exact n2 z.symm
  · simp only [List.mem_cons, List.not_mem_nil, or_false] at ha
    have b := L1.1
    rcases ha with z | z <;> rw [z] <;> omega
theorem m_syncS {h : Hp} {y : Nat} {A pid pat : Nat → Nat} {s : Ab} {base gen : Nat} (Q : RM h y A pid pat s) (I : Ivt s base gen) : ∃ h', f_M_sync y h = some (nI s.pend.length, h') ∧ RM h' y A pid pat (sSync s) ∧ hpN h' = hpN h ∧ hpS h' = hpS h := by
  have hv := I.inV Q
  have M := Q.1
  obtain ⟨h1, e1, M1, F1, m1, s1⟩ := m_keepAll M Q.2.2.1
  have K1 := fr_M_keepAll (C := cT) (mi := 0) e1
  have P1 := Q.2.2.2.2.2.1.ext (y := y) (Sm.k M K1 (by decide) (by decide))
  have V1 := Q.2.2.2.2.1.1.exS (Sm.k M K1 (by decide) (by decide))
  have C1 := Q.2.2.2.1.ext (Sm.k M K1 (by decide) (by decide))
  obtain ⟨h2, e2, C2, F2, m2, s2⟩ := m_clean M1 P1 I.1 V1 hv C1 F1 I.2.2.2.1.1
  have ef : f_M_sync y h = some (nI s.pend.length, h2) := by
    unfold f_M_sync
    rw [gd_t (isK_of M.1), cv_s e1, gd_t (isK_of M1.1), cv_s e2, Q.2.2.1.2.2.2.1]
  have K := fr_M_sync (C := cT) (mi := 0) ef
  obtain ⟨n1, n2, n3⟩ := Q.2.1
  obtain ⟨V, v1, v2, v3⟩ := Q.2.2.2.2.1
  have sy : Sm h h2 y A [] [31, 32, 26] := Sm.k M K (by decide) (by decide)
  refine ⟨h2, ef, ⟨M.kw K (by decide), ⟨n1.exS (y := y) (Sm.k M K (by decide) (by decide)), n2.exS (y := y) (Sm.k M K (by decide) (by decide)), n3.exS (y := y) (Sm.k M K (by decide) (by decide))⟩, F2, C2, ⟨V.exS (Sm.k M K (by decide) (by decide)), by rw [sy.2 31 (by decide)]; exact v1, by rw [sy.2 32 (by decide)]; exact v2, by rw [sy.2 26 (by decide)]; exact v3⟩, Q.2.2.2.2.2.1.ext (y := y) (Sm.k M K (by decide) (by decide)), fun k hk hd => Q.2.2.2.2.2.2 k hk (Or.inl (hd.elim id id))⟩, m2.trans m1, s2.trans s1⟩
theorem c_sync {E : Nat × Nat} {h : Hp} {x y : Nat} {A : Nat → Nat} {j : Nat} (K : Ok E h x y A j) : ∃ r h1 h2, f_X_sync x h = some (r, h1) ∧ f_M_sync y h1 = some (r, h2) ∧ Ok E h2 x y A (j + 1) ∧ Rm h h2 := by
  obtain ⟨B, va, ca, ka, pa, rd, pid, pat, s, base, gen, R, Q, I, i1, i2, i3⟩ := K
  obtain ⟨h1, e1, R1, m1, s1⟩ := x_syncS R I
  have K1 := fr_X_sync (C := cT) (mi := 0) e1
  obtain ⟨h2, e2, Q2, m2, s2⟩ := m_syncS (Q.k K1 (by decide)) I
  have K2 := fr_M_sync (C := cT) (mi := 0) e2
  refine ⟨_, h1, h2, e1, e2, ⟨B, va, ca, ka, pa, rd, pid, pat, sSync s, _, _, R1.k K2 (by decide), Q2, I.sync, by omega, by show s.nxt ≤ _; omega, i3.up⟩, ?_, ?_, ?_⟩ <;> omega

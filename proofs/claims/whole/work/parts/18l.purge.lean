theorem Only.at1 {a x : Nat} {h h' : Hp} (o : Only [a] h h') (hx : x < hpN h) (ha : x ≠ a) : hpI h' x = hpI h x ∧ hpR h' x = hpR h x := o.2.2.2 x hx (by simp [ha])
theorem Bp.keep {h h' : Hp} {c d : Nat} {f : Nat → Nat × Nat} (B : Bp h c d f) (e1 : hpI h' c = hpI h c) (e2 : hpI h' d = hpI h d) : Bp h' c d f := fun b hb => by
  rw [e1, e2]; exact B b hb
/-- what is purged -/
def pgd (f g : Nat → Nat × Nat) (pid pat : Nat → Nat) : Nat → Nat := fun i => bif decide (0 < pid i) && (hb f (pid i) (pat i / 2) || hb g (pid i) (pat i / 2)) then pid i else 0
theorem m_purge {h : Hp} {y : Nat} {A : Nat → Nat} {pid pat : Nat → Nat} {f g : Nat → Nat × Nat} (M : MOK h y A) (G : PgR h A pid pat) (C : Bp h (A 13) (A 14) f) (S : Bp h (A 15) (A 16) g) :
    ∃ h', f_M_purge y h = some h' ∧ MOK h' y A ∧ PgR h' A (pgd f g pid pat) pat ∧ Only [A 4] h h' ∧ hpN h' = hpN h ∧ hpS h' = hpS h := by
  have n45 := M.ne (i := 5) (j := 4) (by decide) (by decide) (by decide)
  have key : ∃ r, l_M_purge_2 y ((0 : Int32), h) = some r ∧ (MOK r y A ∧ (∀ i, i < 160 → hpI r (A 4) i = nI (pgd f g pid pat i)) ∧ Only [A 4] h r ∧ hpN r = hpN h ∧ hpS r = hpS h) := by
    unfold l_M_purge_2
    refine lp_up (fun j s => s.1 = nI j ∧ MOK s.2 y A ∧ (∀ i, i < 160 → hpI s.2 (A 4) i = nI (if i < j then pgd f g pid pat i else pid i)) ∧ Only [A 4] h s.2 ∧ hpN s.2 = hpN h ∧ hpS s.2 = hpS h) _ 160 (by decide) ⟨rfl, M, fun i hi => by rw [if_neg (Nat.not_lt_zero _)]; exact (G i hi).1, Only.refl _ _, rfl, rfl⟩ (fun j s hj hs => Or.inl ?_) (fun s hs => ⟨s.2, ?_, ?_⟩)
    · obtain ⟨a, r⟩ := s
      obtain ⟨b1, b2, b3, b4, b5, b6⟩ := hs
      dsimp only at b1 b2 b3 b4 b5 b6
      subst b1
      have q4 := b2.a4
      have q5 := b2.a5
      obtain ⟨g1, g2, g3, g4⟩ := G j hj
      have s5 : hpI r (A 5) j = nI (pat j) := by rw [(b4.at1 M.a5.2.2.2 n45).1]; exact g2
      have s4 : hpI r (A 4) j = nI (pid j) := by rw [b3 j hj, if_neg (Nat.lt_irrefl _)]
      have Cr : Bp r (A 13) (A 14) f := C.keep (b4.at1 M.a13.2.2.2 (M.ne (by decide) (by decide) (by decide))).1 (b4.at1 M.a14.2.2.2 (M.ne (by decide) (by decide) (by decide))).1
      have Sr : Bp r (A 15) (A 16) g := S.keep (b4.at1 M.a15.2.2.2 (M.ne (by decide) (by decide) (by decide))).1 (b4.at1 M.a16.2.2.2 (M.ne (by decide) (by decide) (by decide))).1
      have hold := m_holds b2 Cr Sr (id := pid j) (q := pat j / 2) (by omega) (by omega)
      have tl : ∀ b : Bool, b = (decide (0 < pid j) && (hb f (pid j) (pat j / 2) || hb g (pid j) (pat j / 2))) → ∃ s', j_M_purge_54_L2 y (nI j) (b01 b) r = some (.inl s') ∧ s'.1 = nI (j + 1) ∧ MOK s'.2 y A ∧ (∀ i, i < 160 → hpI s'.2 (A 4) i = nI (if i < j + 1 then pgd f g pid pat i else pid i)) ∧ Only [A 4] h s'.2 ∧ hpN s'.2 = hpN h ∧ hpS s'.2 = hpS h := by
        intro b hb
        unfold j_M_purge_54_L2
        cases b with
        | false =>
          refine ⟨(nI (j + 1), wI r (A 4) j 0), ?_, rfl, b2, fun i hi => ?_, b4.trans (on_wI List.mem_cons_self), b5, b6⟩
          · rw [if_pos (show b01 false = 0 from rfl), gd_t (isK_of b2.1), dr_s q4.1, gd_t (isK_of q4.2.1), gd_t (inb_n (by rw [q4.2.2.1]; exact hj) (by rw [q4.2.2.1]; decide)), nm_v, nI_clamp (by omega), nI_1]
          · dsimp only
            by_cases e : i = j
            · subst e
              rw [I_same, if_pos (Nat.lt_succ_self _)]
              unfold pgd
              rw [← hb]; rfl
            · rw [I_ne (Or.inr e), b3 i hi]
              by_cases z : i < j
              · rw [if_pos z, if_pos (by omega)]
              · rw [if_neg z, if_neg (by omega)]
        | true =>
          refine ⟨(nI (j + 1), r), ?_, rfl, b2, fun i hi => ?_, b4, b5, b6⟩
          · rw [if_neg (show ¬ b01 true = 0 by decide), nI_1]
          · dsimp only
            rw [b3 i hi]
            by_cases e : i = j
            · subst e
              rw [if_neg (Nat.lt_irrefl _), if_pos (Nat.lt_succ_self _)]
              unfold pgd
              rw [← hb]; rfl
            · by_cases z : i < j
              · rw [if_pos z, if_pos (by omega)]
              · rw [if_neg z, if_neg (by omega)]
      show ∃ s', b_M_purge_2 y (nI j) r = some (.inl s') ∧ _
      have eb : b_M_purge_2 y (nI j) r = j_M_purge_54_L2 y (nI j) (b01 (decide (0 < pid j) && (hb f (pid j) (pat j / 2) || hb g (pid j) (pat j / 2)))) r := by
        unfold b_M_purge_2
        rw [if_neg (nI_ge hj (by decide)), gd_t (isK_of b2.1), dr_s q4.1, gd_t (isK_of q4.2.1), gd_t (inb_n (by rw [q4.2.2.1]; exact hj) (by rw [q4.2.2.1]; decide)), dr_s q5.1, gd_t (isK_of q5.2.1), gd_t (inb_n (by rw [q5.2.2.1]; exact hj) (by rw [q5.2.2.1]; decide)), nI_clamp (by omega), s4, s5, pk_div (a := pat j) (d := 2) (by omega) (by decide) (by decide)]
        by_cases z : pid j = 0
        · rw [if_pos ((nI_le0 (by omega)).mpr z), decide_eq_false (by omega), Bool.false_and]
          rfl
        · rw [if_neg (fun w => z ((nI_le0 (by omega)).mp w)), decide_eq_true (by omega), Bool.true_and, cl_s (show f_M_holds y (nI (pid j)) (nI (pat j / 2)) 0 r = _ from hold false)]
          cases hc : hb f (pid j) (pat j / 2) with
          | false =>
            rw [if_pos (show b01 (hb (bif false then g else f) (pid j) (pat j / 2)) = 0 by show b01 (hb f (pid j) (pat j / 2)) = 0; rw [hc]; rfl), gd_t (isK_of b2.1), cl_s (show f_M_holds y (nI (pid j)) (nI (pat j / 2)) 1 r = _ from hold true), Bool.false_or]
            cases hd : hb g (pid j) (pat j / 2) with
            | false => rw [if_pos (show b01 (hb (bif true then g else f) (pid j) (pat j / 2)) = 0 by show b01 (hb g (pid j) (pat j / 2)) = 0; rw [hd]; rfl)]; rfl
            | true => rw [if_neg (show ¬ b01 (hb (bif true then g else f) (pid j) (pat j / 2)) = 0 by show ¬ b01 (hb g (pid j) (pat j / 2)) = 0; rw [hd]; decide)]; rfl
          | true => rw [if_neg (show ¬ b01 (hb (bif false then g else f) (pid j) (pat j / 2)) = 0 by show ¬ b01 (hb f (pid j) (pat j / 2)) = 0; rw [hc]; decide), Bool.true_or]; rfl
      rw [eb]
      exact tl _ rfl
    · obtain ⟨a, r⟩ := s
      have b1 := hs.1
      dsimp only at b1
      subst b1
      show b_M_purge_2 y (nI 160) r = _
      unfold b_M_purge_2
      rw [if_pos (nI_le (Nat.le_refl _) (by decide))]
    · obtain ⟨b1, b2, b3, b4, b5, b6⟩ := hs
      exact ⟨b2, fun i hi => by rw [b3 i hi, if_pos hi], b4, b5, b6⟩
  obtain ⟨r, r1, r2, r3, r4, r5, r6⟩ := key
  refine ⟨r, ?_, r2, fun i hi => ⟨r3 i hi, ?_, ?_, (G i hi).2.2.2⟩, r4, r5, r6⟩
  · unfold f_M_purge
    rw [bd_s r1]
  · rw [(r4.at1 M.a5.2.2.2 n45).1]; exact (G i hi).2.1
  · unfold pgd
    have := (G i hi).2.2.1
    cases (decide (0 < pid i) && (hb f (pid i) (pat i / 2) || hb g (pid i) (pat i / 2)))
    · show 0 < _; decide
    · exact this

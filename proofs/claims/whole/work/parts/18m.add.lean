/-- a write to one array of the reference, seen from another -/
theorem mo_I {h : Hp} {y : Nat} {A : Nat → Nat} (M : MOK h y A) {i j : Nat} (hi : 66 ≤ mk i) (hj : 66 ≤ mk j) (hn : j ≠ i) (g : Hp) (k : Nat) (v : Int32) (z : Nat) : hpI (wI g (A i) k v) (A j) z = hpI g (A j) z := I_ne (Or.inl (M.ne hj hi hn))
theorem m_leads0 {h : Hp} {y : Nat} {A : Nat → Nat} {i : Nat} (M : MOK h y A) (hi : i < 160) : ∃ h', l_M_add_80 y (nI i) ((0 : Int32), h) = some h' ∧ MOK h' y A ∧ (∀ k, hpI h' (A 11) k = if 4 * i ≤ k ∧ k < 4 * i + 4 then 0 else hpI h (A 11) k) ∧ Only [A 11] h h' ∧ hpN h' = hpN h ∧ hpS h' = hpS h := by
  unfold l_M_add_80
  have key := lp_up (b := fun s => b_M_add_80 y (nI i) s.1 s.2) (fun j s => s.1 = nI j ∧ MOK s.2 y A ∧ (∀ k, hpI s.2 (A 11) k = if 4 * i ≤ k ∧ k < 4 * i + j then 0 else hpI h (A 11) k) ∧ Only [A 11] h s.2 ∧ hpN s.2 = hpN h ∧ hpS s.2 = hpS h) (fun r => MOK r y A ∧ (∀ k, hpI r (A 11) k = if 4 * i ≤ k ∧ k < 4 * i + 4 then 0 else hpI h (A 11) k) ∧ Only [A 11] h r ∧ hpN r = hpN h ∧ hpS r = hpS h) 4 (by decide) (s := ((0 : Int32), h)) ⟨rfl, M, fun k => by rw [if_neg (by omega)], Only.refl _ _, rfl, rfl⟩ (fun j s hj hs => Or.inl ?_) (fun s hs => ⟨s.2, ?_, hs.2⟩)
  · obtain ⟨r, r1, r2⟩ := key
    exact ⟨r, r1, r2⟩
  · obtain ⟨a, r⟩ := s
    obtain ⟨b1, b2, b3, b4, b5, b6⟩ := hs
    dsimp only at b1 b2 b3 b4 b5 b6
    subst b1
    have q11 := b2.a11
    refine ⟨(nI (j + 1), wI r (A 11) (4 * i + j) 0), ?_, rfl, b2, fun k => ?_, b4.trans (on_wI List.mem_cons_self), b5, b6⟩
    · show b_M_add_80 y (nI i) (nI j) r = _
      unfold b_M_add_80
      rw [if_neg (nI_ge hj (by decide)), gd_t (isK_of b2.1), dr_s q11.1, gd_t (isK_of q11.2.1), ix_4, gd_t (inb_n (by rw [q11.2.2.1]; omega) (by rw [q11.2.2.1]; decide)), nm_v, nI_clamp (by omega), nI_1]
    · dsimp only
      by_cases e : k = 4 * i + j
      · rw [e, I_same, if_pos (by omega)]
      · rw [I_ne (Or.inr e), b3 k]
        by_cases z : 4 * i ≤ k ∧ k < 4 * i + j
        · rw [if_pos z, if_pos (by omega)]
        · rw [if_neg z, if_neg (by omega)]
  · obtain ⟨a, r⟩ := s
    have b1 := hs.1
    dsimp only at b1
    subst b1
    show b_M_add_80 y (nI i) (nI 4) r = _
    unfold b_M_add_80
    rw [if_pos (nI_le (Nat.le_refl _) (by decide))]
set_option maxHeartbeats 1000000 in
theorem m_add {h : Hp} {y : Nat} {A : Nat → Nat} {pid pat : Nat → Nat} {id q w m n : Int32} (M : MOK h y A) (G : PgR h A pid pat) (hfree : ∃ i, i < 160 ∧ pid i = 0) :
    ∃ (i : Nat) (h' : Hp), f_M_add y id q w m n h = some (nI i, h') ∧ i < 160 ∧ pid i = 0 ∧ MOK h' y A ∧ (∀ k, hpI h' (A 4) k = if k = i then id else hpI h (A 4) k) ∧ (∀ k, hpI h' (A 5) k = if k = i then q else hpI h (A 5) k) ∧ (∀ k, hpI h' (A 6) k = if k = i then w else hpI h (A 6) k) ∧ (∀ k, hpI h' (A 7) k = if k = i then m else hpI h (A 7) k) ∧ (∀ k, hpI h' (A 8) k = if k = i then n else hpI h (A 8) k) ∧ (∀ k, hpI h' (A 9) k = if k = i then 0 else hpI h (A 9) k) ∧
      (∀ k, hpI h' (A 11) k = if 4 * i ≤ k ∧ k < 4 * i + 4 then 0 else hpI h (A 11) k) ∧ Only [A 4, A 5, A 6, A 7, A 8, A 9, A 11] h h' ∧ hpN h' = hpN h ∧ hpS h' = hpS h := by
  have q4 := M.a4
  have q5 := M.a5
  have q6 := M.a6
  have q7 := M.a7
  have q8 := M.a8
  have q9 := M.a9
  have key : ∃ r, l_M_add_3 y id q w m n ((0 : Int32), h) = some r ∧ ∃ i, i < 160 ∧ pid i = 0 ∧ r = (nI i, h) := by
    unfold l_M_add_3
    refine lp_up (fun j s => s = (nI j, h) ∧ ∀ i, i < j → pid i ≠ 0) _ 160 (by decide) ⟨rfl, fun i hi => absurd hi (Nat.not_lt_zero _)⟩ (fun j s hj hs => ?_) (fun s hs => ?_)
    · obtain ⟨rfl, hs⟩ := hs
      have eb : b_M_add_3 y id q w m n (nI j) h = if nI (pid j) ≤ 0 then some (.inr (nI j, h)) else some (.inl (nI (j + 1), h)) := by
        unfold b_M_add_3
        rw [if_neg (nI_ge hj (by decide)), gd_t (isK_of M.1), dr_s q4.1, gd_t (isK_of q4.2.1), gd_t (inb_n (by rw [q4.2.2.1]; exact hj) (by rw [q4.2.2.1]; decide)), nI_clamp (by omega), (G j hj).1, nI_1]
      have hp := (G j hj).2.2.1
      show (∃ s', b_M_add_3 y id q w m n (nI j) h = some (.inl s') ∧ _) ∨ ∃ r, b_M_add_3 y id q w m n (nI j) h = some (.inr r) ∧ _
      rw [eb]
      by_cases c : pid j = 0
      · rw [if_pos ((nI_le0 (by omega)).mpr c)]
        exact Or.inr ⟨_, rfl, j, hj, c, rfl⟩
      · rw [if_neg (fun z => c ((nI_le0 (by omega)).mp z))]
        refine Or.inl ⟨_, rfl, rfl, fun i hi => ?_⟩
        by_cases e : i = j
        · rw [e]; exact c
        · exact hs i (by omega)
    · obtain ⟨rfl, hs⟩ := hs
      obtain ⟨i, hi, h0⟩ := hfree
      exact absurd h0 (hs i hi)
  obtain ⟨r, r1, i, hi, h0, rfl⟩ := key
  obtain ⟨g, hg⟩ : ∃ g, g = wI (wI (wI (wI (wI (wI h (A 4) i id) (A 5) i q) (A 6) i w) (A 7) i m) (A 8) i n) (A 9) i 0 := ⟨_, rfl⟩
  have Mg : MOK g y A := by rw [hg]; exact M
  obtain ⟨h', l1, l2, l3, l4, l5, l6⟩ := m_leads0 Mg hi
  have hc : (nI i).toNatClampNeg = i := nI_clamp (by omega)
  have gN : hpN g = hpN h := by rw [hg]; rfl
  refine ⟨i, h', ?_, hi, h0, l2, ?_, ?_, ?_, ?_, ?_, ?_, ?_, ?_, by rw [l5, hg]; rfl, by rw [l6, hg]; rfl⟩
  · unfold f_M_add
    rw [bd_s r1]
    unfold j_M_add_27_M
    simp only [nm_v, R_wI, L_wI, K_wI]
    rw [gd_t (isK_of M.1), dr_s q4.1, gd_t (isK_of q4.2.1), gd_t (inb_n (by rw [q4.2.2.1]; exact hi) (by rw [q4.2.2.1]; decide)), dr_s q5.1, gd_t (isK_of q5.2.1), gd_t (inb_n (by rw [q5.2.2.1]; exact hi) (by rw [q5.2.2.1]; decide)), dr_s q6.1, gd_t (isK_of q6.2.1), gd_t (inb_n (by rw [q6.2.2.1]; exact hi) (by rw [q6.2.2.1]; decide)), dr_s q7.1, gd_t (isK_of q7.2.1), gd_t (inb_n (by rw [q7.2.2.1]; exact hi) (by rw [q7.2.2.1]; decide)), dr_s q8.1, gd_t (isK_of q8.2.1), gd_t (inb_n (by rw [q8.2.2.1]; exact hi) (by rw [q8.2.2.1]; decide)), dr_s q9.1, gd_t (isK_of q9.2.1), gd_t (inb_n (by rw [q9.2.2.1]; exact hi) (by rw [q9.2.2.1]; decide)), hc, ← hg, bd_s l1]
  · intro k
    rw [(l4.at1 Mg.a4.2.2.2 (M.ne (i := 4) (j := 11) (by decide) (by decide) (by decide))).1, hg, mo_I M (i := 9) (j := 4) (by decide) (by decide) (by decide), mo_I M (i := 8) (j := 4) (by decide) (by decide) (by decide), mo_I M (i := 7) (j := 4) (by decide) (by decide) (by decide), mo_I M (i := 6) (j := 4) (by decide) (by decide) (by decide), mo_I M (i := 5) (j := 4) (by decide) (by decide) (by decide), I_wI]
    by_cases e : k = i
    · rw [if_pos ⟨rfl, e⟩, if_pos e]
    · rw [if_neg (fun z => e z.2), if_neg e]
  · intro k
    rw [(l4.at1 Mg.a5.2.2.2 (M.ne (i := 5) (j := 11) (by decide) (by decide) (by decide))).1, hg, mo_I M (i := 9) (j := 5) (by decide) (by decide) (by decide), mo_I M (i := 8) (j := 5) (by decide) (by decide) (by decide), mo_I M (i := 7) (j := 5) (by decide) (by decide) (by decide), mo_I M (i := 6) (j := 5) (by decide) (by decide) (by decide), I_wI]
    by_cases e : k = i
    · rw [if_pos ⟨rfl, e⟩, if_pos e]
    · rw [if_neg (fun z => e z.2), if_neg e, mo_I M (i := 4) (j := 5) (by decide) (by decide) (by decide)]
  · intro k
    rw [(l4.at1 Mg.a6.2.2.2 (M.ne (i := 6) (j := 11) (by decide) (by decide) (by decide))).1, hg, mo_I M (i := 9) (j := 6) (by decide) (by decide) (by decide), mo_I M (i := 8) (j := 6) (by decide) (by decide) (by decide), mo_I M (i := 7) (j := 6) (by decide) (by decide) (by decide), I_wI]
    by_cases e : k = i
    · rw [if_pos ⟨rfl, e⟩, if_pos e]
    · rw [if_neg (fun z => e z.2), if_neg e, mo_I M (i := 5) (j := 6) (by decide) (by decide) (by decide), mo_I M (i := 4) (j := 6) (by decide) (by decide) (by decide)]
  · intro k
    rw [(l4.at1 Mg.a7.2.2.2 (M.ne (i := 7) (j := 11) (by decide) (by decide) (by decide))).1, hg, mo_I M (i := 9) (j := 7) (by decide) (by decide) (by decide), mo_I M (i := 8) (j := 7) (by decide) (by decide) (by decide), I_wI]
    by_cases e : k = i
    · rw [if_pos ⟨rfl, e⟩, if_pos e]
    · rw [if_neg (fun z => e z.2), if_neg e, mo_I M (i := 6) (j := 7) (by decide) (by decide) (by decide), mo_I M (i := 5) (j := 7) (by decide) (by decide) (by decide), mo_I M (i := 4) (j := 7) (by decide) (by decide) (by decide)]
  · intro k
    rw [(l4.at1 Mg.a8.2.2.2 (M.ne (i := 8) (j := 11) (by decide) (by decide) (by decide))).1, hg, mo_I M (i := 9) (j := 8) (by decide) (by decide) (by decide), I_wI]
    by_cases e : k = i
    · rw [if_pos ⟨rfl, e⟩, if_pos e]
    · rw [if_neg (fun z => e z.2), if_neg e, mo_I M (i := 7) (j := 8) (by decide) (by decide) (by decide), mo_I M (i := 6) (j := 8) (by decide) (by decide) (by decide), mo_I M (i := 5) (j := 8) (by decide) (by decide) (by decide), mo_I M (i := 4) (j := 8) (by decide) (by decide) (by decide)]
  · intro k
    rw [(l4.at1 Mg.a9.2.2.2 (M.ne (i := 9) (j := 11) (by decide) (by decide) (by decide))).1, hg, I_wI]
    by_cases e : k = i
    · rw [if_pos ⟨rfl, e⟩, if_pos e]
    · rw [if_neg (fun z => e z.2), if_neg e, mo_I M (i := 8) (j := 9) (by decide) (by decide) (by decide), mo_I M (i := 7) (j := 9) (by decide) (by decide) (by decide), mo_I M (i := 6) (j := 9) (by decide) (by decide) (by decide), mo_I M (i := 5) (j := 9) (by decide) (by decide) (by decide), mo_I M (i := 4) (j := 9) (by decide) (by decide) (by decide)]
  · intro k
    rw [l3 k, hg, mo_I M (i := 9) (j := 11) (by decide) (by decide) (by decide), mo_I M (i := 8) (j := 11) (by decide) (by decide) (by decide), mo_I M (i := 7) (j := 11) (by decide) (by decide) (by decide), mo_I M (i := 6) (j := 11) (by decide) (by decide) (by decide), mo_I M (i := 5) (j := 11) (by decide) (by decide) (by decide), mo_I M (i := 4) (j := 11) (by decide) (by decide) (by decide)]
  · refine Only.trans (h1 := g) ?_ (l4.mono (fun x hx _ => by rw [List.mem_singleton.mp hx]; simp))
    rw [hg]
    exact Only.trans (on_wI (by simp)) (Only.trans (on_wI (by simp)) (Only.trans (on_wI (by simp)) (Only.trans (on_wI (by simp)) (Only.trans (on_wI (by simp)) (on_wI (by simp))))))

theorem m_remove {h : Hp} {y : Nat} {A : Nat → Nat} {now : Nat → Option Int32} {tl : Nat → Bool} {m k : Nat} (M : MOK h y A) (N : MNow h A now) (T : MTl h A tl) (hm : m < 4) (hk : k < 32) :
    (now (32 * m + k) = none → f_M_remove y (nI m) (nI k) h = some (0, h)) ∧ ((now (32 * m + k)).isSome = true → ∃ h', f_M_remove y (nI m) (nI k) h = some (1, h') ∧ MOK h' y A ∧ MNow h' A (va_up now (32 * m + k) none) ∧ MTl h' A (va_up tl (4 * m + k / 8) true) ∧ hpN h' = hpN h ∧ hpS h' = hpS h) := by
  have r0 := M.a0
  have r1 := M.a1
  have n01 := M.ne (i := 0) (j := 1) (by decide) (by decide) (by decide)
  have n03 := M.ne (i := 0) (j := 3) (by decide) (by decide) (by decide)
  have n13 := M.ne (i := 1) (j := 3) (by decide) (by decide) (by decide)
  have hi : 32 * m + k < 128 := by omega
  have hq : 4 * m + k / 8 < 16 := by omega
  have hc : (nI (32 * m + k)).toNatClampNeg = 32 * m + k := nI_clamp (by omega)
  have hc2 : (nI (4 * m + k / 8)).toNatClampNeg = 4 * m + k / 8 := nI_clamp (by omega)
  have e : f_M_remove y (nI m) (nI k) h = if b01 (now (32 * m + k)).isSome = 0 then some (0, h) else some (1, wI (wI h (A 0) (32 * m + k) 0) (A 1) (4 * m + k / 8) 1) := by
    unfold f_M_remove
    simp only [nm_v, R_wI, L_wI, K_wI]
    rw [cl_s (in_ok (n := 4) hm (by decide) h), if_neg (by decide), cl_s (in_ok (n := 32) hk (by decide) h), if_neg (by decide), gd_t (isK_of M.1), dr_s r0.1, gd_t (isK_of r0.2.1), ix_32, gd_t (inb_n (by rw [r0.2.2.1]; exact hi) (by rw [r0.2.2.1]; decide)), hc, (N _ hi).1, dr_s r1.1, gd_t (isK_of r1.2.1), ix_d8 (by omega), ix_4, gd_t (inb_n (by rw [r1.2.2.1]; exact hq) (by rw [r1.2.2.1]; decide)), hc2]
    rfl
  refine ⟨fun q => ?_, fun q => ?_⟩
  · rw [e, q]; rfl
  · refine ⟨wI (wI h (A 0) (32 * m + k) 0) (A 1) (4 * m + k / 8) 1, ?_, M, fun i hi2 => ?_, fun i hi2 => ?_, rfl, rfl⟩
    · rw [e, q]; rfl
    · obtain ⟨q1, q2⟩ := N i hi2
      unfold va_up
      by_cases e : i = 32 * m + k
      · subst e
        rw [if_pos rfl]
        refine ⟨?_, fun v' hv => by cases hv⟩
        rw [I_ne (Or.inl n01), I_same]; rfl
      · rw [if_neg e]
        refine ⟨?_, fun v' hv => ?_⟩
        · rw [I_ne (Or.inl n01), I_ne (Or.inr e)]; exact q1
        · rw [I_ne (Or.inl n13.symm), I_ne (Or.inl n03.symm)]; exact q2 v' hv
    · have q1 := T i hi2
      unfold va_up
      by_cases e : i = 4 * m + k / 8
      · subst e
        rw [if_pos rfl, I_same]; rfl
      · rw [if_neg e, I_ne (Or.inr e), I_ne (Or.inl n01.symm)]; exact q1
theorem m_remove_out {h : Hp} {y : Nat} {a b : Int32} (hx : (a < 0 ∨ nI 4 ≤ a) ∨ (b < 0 ∨ nI 32 ≤ b)) : f_M_remove y a b h = some (-1, h) := by
  unfold f_M_remove
  rcases m_two_out hx h with q | ⟨q1, q2⟩
  · rw [cl_s q, if_pos rfl]
  · rw [cl_s q1, if_neg (by decide), cl_s q2, if_pos rfl]
theorem m_get {h : Hp} {y : Nat} {A : Nat → Nat} {now : Nat → Option Int32} {m k : Nat} (M : MOK h y A) (N : MNow h A now) (hm : m < 4) (hk : k < 32) : f_M_get y (nI m) (nI k) h = some (gv (now (32 * m + k)), h) := by
  have r0 := M.a0
  have r3 := M.a3
  have hi : 32 * m + k < 128 := by omega
  have hc : (nI (32 * m + k)).toNatClampNeg = 32 * m + k := nI_clamp (by omega)
  unfold f_M_get
  rw [cl_s (in_ok (n := 4) hm (by decide) h), if_neg (by decide), cl_s (in_ok (n := 32) hk (by decide) h), if_neg (by decide), gd_t (isK_of M.1), dr_s r0.1, gd_t (isK_of r0.2.1), ix_32, gd_t (inb_n (by rw [r0.2.2.1]; exact hi) (by rw [r0.2.2.1]; decide)), hc, (N _ hi).1, dr_s r3.1, gd_t (isK_of r3.2.1), gd_t (inb_n (by rw [r3.2.2.1]; exact hi) (by rw [r3.2.2.1]; decide))]
  cases hv : now (32 * m + k) with
  | none => rfl
  | some v =>
    rw [if_neg (show ¬ b01 (some v).isSome = 0 from fun q => by cases q), (N _ hi).2 v hv]
    rfl
theorem m_get_out {h : Hp} {y : Nat} {a b : Int32} (hx : (a < 0 ∨ nI 4 ≤ a) ∨ (b < 0 ∨ nI 32 ≤ b)) : f_M_get y a b h = some (2199023255552, h) := by
  unfold f_M_get
  rcases m_two_out hx h with q | ⟨q1, q2⟩
  · rw [cl_s q, if_pos rfl]
  · rw [cl_s q1, if_neg (by decide), cl_s q2, if_pos rfl]
/-! next: the least key from k on -/
def NX (f : Nat → Bool) (k r : Int32) : Prop := (∃ x, x < 32 ∧ k ≤ nI x ∧ f x = true ∧ (∀ z, z < x → ¬ (k ≤ nI z ∧ f z = true)) ∧ r = nI x) ∨ ((∀ z, z < 32 → ¬ (k ≤ nI z ∧ f z = true)) ∧ r = -3)
theorem NX.uniq {f : Nat → Bool} {k r r' : Int32} (a : NX f k r) (b : NX f k r') : r = r' := by
  rcases a with ⟨x, a1, a2, a3, a4, a5⟩ | ⟨a1, a2⟩ <;> rcases b with ⟨z, b1, b2, b3, b4, b5⟩ | ⟨b1, b2⟩
  · rcases Nat.lt_trichotomy x z with q | q | q
    · exact absurd ⟨a2, a3⟩ (b4 x q)
    · rw [a5, b5, q]
    · exact absurd ⟨b2, b3⟩ (a4 z q)
  · exact absurd ⟨a2, a3⟩ (b1 x a1)
  · exact absurd ⟨b2, b3⟩ (a1 z b1)
  · rw [a2, b2]
theorem m_next {h : Hp} {y : Nat} {A : Nat → Nat} {now : Nat → Option Int32} {m : Nat} {k : Int32} (M : MOK h y A) (N : MNow h A now) (hm : m < 4) : ∃ r, f_M_next y (nI m) k h = some (r, h) ∧ NX (fun x => (now (32 * m + x)).isSome) k r := by
  have r0 := M.a0
  have key : ∃ r, l_M_next_12 y (nI m) k ((0 : Int32), h) = some r ∧ ((r = .inl h ∧ ∀ z, z < 32 → ¬ (k ≤ nI z ∧ (now (32 * m + z)).isSome = true)) ∨ ∃ x, r = .inr (nI x, h) ∧ x < 32 ∧ k ≤ nI x ∧ (now (32 * m + x)).isSome = true ∧ ∀ z, z < x → ¬ (k ≤ nI z ∧ (now (32 * m + z)).isSome = true)) := by
    unfold l_M_next_12
    refine lp_up (fun j s => s = (nI j, h) ∧ ∀ z, z < j → ¬ (k ≤ nI z ∧ (now (32 * m + z)).isSome = true)) _ 32 (by decide) ⟨rfl, fun z hz => absurd hz (Nat.not_lt_zero _)⟩ (fun j s hj hs => ?_) (fun s hs => ?_)
    · obtain ⟨rfl, hs⟩ := hs
      have hi : 32 * m + j < 128 := by omega
      have eb : b_M_next_12 y (nI m) k (nI j) h = if nI j < k then some (.inl (nI (j + 1), h)) else if b01 (now (32 * m + j)).isSome = 0 then some (.inl (nI (j + 1), h)) else some (.inr (.inr (nI j, h))) := by
        unfold b_M_next_12
        rw [if_neg (nI_ge hj (by decide)), gd_t (isK_of M.1), dr_s r0.1, gd_t (isK_of r0.2.1), ix_32, gd_t (inb_n (by rw [r0.2.2.1]; exact hi) (by rw [r0.2.2.1]; decide)), nI_clamp (by omega), (N _ hi).1, nI_1]
      have more : ¬ (k ≤ nI j ∧ (now (32 * m + j)).isSome = true) → ∀ z, z < j + 1 → ¬ (k ≤ nI z ∧ (now (32 * m + z)).isSome = true) := by
        intro q z hz
        by_cases e : z = j
        · rw [e]; exact q
        · exact hs z (by omega)
      show (∃ s', b_M_next_12 y (nI m) k (nI j) h = some (.inl s') ∧ _) ∨ ∃ r, b_M_next_12 y (nI m) k (nI j) h = some (.inr r) ∧ _
      rw [eb]
      by_cases c1 : nI j < k
      · rw [if_pos c1]
        exact Or.inl ⟨_, rfl, rfl, more (fun q => absurd q.1 (Int32.not_le.mpr c1))⟩
      · rw [if_neg c1]
        cases hv : (now (32 * m + j)).isSome with
        | false =>
          rw [if_pos (by decide)]
          exact Or.inl ⟨_, rfl, rfl, more (fun q => by rw [hv] at q; cases q.2)⟩
        | true =>
          rw [if_neg (by decide)]
          exact Or.inr ⟨_, rfl, Or.inr ⟨j, rfl, hj, Int32.not_lt.mp c1, hv, hs⟩⟩
    · obtain ⟨rfl, hs⟩ := hs
      refine ⟨.inl h, ?_, Or.inl ⟨rfl, hs⟩⟩
      show b_M_next_12 y (nI m) k (nI 32) h = _
      unfold b_M_next_12
      rw [if_pos (nI_le (Nat.le_refl _) (by decide))]
  obtain ⟨r, e, q⟩ := key
  unfold f_M_next
  rw [cl_s (in_ok (n := 4) hm (by decide) h), if_neg (by decide)]
  rcases q with ⟨rfl, q⟩ | ⟨x, rfl, q1, q2, q3, q4⟩
  · rw [lk_l e]
    exact ⟨_, rfl, Or.inr ⟨q, rfl⟩⟩
  · rw [lk_r e]
    exact ⟨_, rfl, Or.inl ⟨x, q1, q2, q3, q4, rfl⟩⟩
theorem m_next_out {h : Hp} {y : Nat} {a k : Int32} (hx : a < 0 ∨ nI 4 ≤ a) : f_M_next y a k h = some (-1, h) := by
  unfold f_M_next
  rw [cl_s (in_out hx h), if_pos rfl]
theorem x_next_out {h : Hp} {x : Nat} {a k : Int32} (hx : a < 0 ∨ nI 4 ≤ a) : f_X_next x a k h = some (-1, h) := by
  unfold f_X_next
  rw [cl_s (map_out hx h), if_pos rfl]
theorem x_next {h : Hp} {x p F cs vs a0 a1 m : Nat} {now : Nat → Option Int32} {k : Int32} (X : XO h x p F cs vs) (N : PN h p a0 a1 now) (hm : m < 4) : ∃ r, f_X_next x (nI m) k h = some (r, h) ∧ NX (fun x => (now (32 * m + x)).isSome) k r := by
  have key : ∀ j0, j0 ≤ 32 → (∀ z, z < j0 → ¬ (k ≤ nI z ∧ (now (32 * m + z)).isSome = true)) → (∀ z, j0 ≤ z → z < 32 → k ≤ nI z) → ∃ r, l_X_next_15 x (nI m) (nI j0, h) = some r ∧ ((r = .inl h ∧ ∀ z, z < 32 → ¬ (k ≤ nI z ∧ (now (32 * m + z)).isSome = true)) ∨ ∃ x, r = .inr (nI x, h) ∧ x < 32 ∧ k ≤ nI x ∧ (now (32 * m + x)).isSome = true ∧ ∀ z, z < x → ¬ (k ≤ nI z ∧ (now (32 * m + z)).isSome = true)) := by
    intro j0 hj0 h0 hge
    unfold l_X_next_15
    refine lp_for (fun j s => j0 ≤ j ∧ s = (nI j, h) ∧ ∀ z, z < j → ¬ (k ≤ nI z ∧ (now (32 * m + z)).isSome = true)) _ 32 (fun j s hj hs => ?_) (fun s hs => ?_) FU j0 (nI j0, h) hj0 (by show 32 - j0 < 4096; omega) ⟨Nat.le_refl _, rfl, h0⟩
    · obtain ⟨hjj, rfl, hs⟩ := hs
      have eb : b_X_next_15 x (nI m) (nI j) h = if b01 (now (32 * m + j)).isSome = 0 then some (.inl (nI (j + 1), h)) else some (.inr (.inr (nI j, h))) := by
        unfold b_X_next_15
        rw [if_neg (nI_ge hj (by decide)), gd_t (isK_of X.1), dr_s X.2.2.1, gd_t (isK_of N.1.1), cl_s (p_has N hm hj), nI_1]
      show (∃ s', b_X_next_15 x (nI m) (nI j) h = some (.inl s') ∧ _) ∨ ∃ r, b_X_next_15 x (nI m) (nI j) h = some (.inr r) ∧ _
      rw [eb]
      cases hv : (now (32 * m + j)).isSome with
      | false =>
        rw [if_pos (by decide)]
        refine Or.inl ⟨_, rfl, by omega, rfl, fun z hz => ?_⟩
        by_cases e : z = j
        · rw [e]; exact fun q => by rw [hv] at q; cases q.2
        · exact hs z (by omega)
      | true =>
        rw [if_neg (by decide)]
        exact Or.inr ⟨_, rfl, Or.inr ⟨j, rfl, hj, hge j hjj hj, hv, hs⟩⟩
    · obtain ⟨hjj, rfl, hs⟩ := hs
      refine ⟨.inl h, ?_, Or.inl ⟨rfl, hs⟩⟩
      show b_X_next_15 x (nI m) (nI 32) h = _
      unfold b_X_next_15
      rw [if_pos (nI_le (Nat.le_refl _) (by decide))]
  have fin : ∀ r, l_X_next_15 x (nI m) ((if k < (0 : Int32) then (0 : Int32) else k), h) = some r → ((r = .inl h ∧ ∀ z, z < 32 → ¬ (k ≤ nI z ∧ (now (32 * m + z)).isSome = true)) ∨ ∃ x, r = .inr (nI x, h) ∧ x < 32 ∧ k ≤ nI x ∧ (now (32 * m + x)).isSome = true ∧ ∀ z, z < x → ¬ (k ≤ nI z ∧ (now (32 * m + z)).isSome = true)) → ∃ r, f_X_next x (nI m) k h = some (r, h) ∧ NX (fun x => (now (32 * m + x)).isSome) k r := by
    intro r e q
    unfold f_X_next
    rw [cl_s (map_ok hm h), if_neg (by decide)]
    rcases q with ⟨rfl, q⟩ | ⟨x, rfl, q1, q2, q3, q4⟩
    · rw [lk_l e]
      exact ⟨_, rfl, Or.inr ⟨q, rfl⟩⟩
    · rw [lk_r e]
      exact ⟨_, rfl, Or.inl ⟨x, q1, q2, q3, q4, rfl⟩⟩
  rcases pk_ix k (n := 32) (by decide) with c | c | ⟨j, hj, rfl⟩
  · obtain ⟨r, e, q⟩ := key 0 (by decide) (fun z hz => absurd hz (Nat.not_lt_zero _)) (fun z _ hz => Int32.le_of_lt (Int32.lt_of_lt_of_le c (nI_pos' (by omega))))
    exact fin r (by rw [if_pos c]; exact e) q
  · have hc : ¬ k < 0 := fun q => absurd (Int32.le_trans c (Int32.le_of_lt q)) (by decide)
    refine fin (.inl h) ?_ (Or.inl ⟨rfl, fun z hz q => absurd (Int32.le_trans c q.1) (nI_ge hz (by decide))⟩)
    rw [if_neg hc]
    unfold l_X_next_15
    show (b_X_next_15 x (nI m) k h).bind _ = _
    have : b_X_next_15 x (nI m) k h = some (.inr (.inl h)) := by
      unfold b_X_next_15
      rw [if_pos c]
    rw [this]; rfl
  · obtain ⟨r, e, q⟩ := key j (by omega) (fun z hz q => absurd q.1 (nI_ge hz (by omega))) (fun z hz hz2 => nI_le hz (by omega))
    exact fin r (by rw [if_neg (nI_pos (by omega))]; exact e) q

/-! DROPPING: from the last one on, those with the flag stay, and n of the others -/
def dr1 {T : Type} (fl : T → Bool) : List T → Nat → List T → List T
  | [], _, S => S
  | e :: r, n, S => bif fl e then dr1 fl r n (e :: S) else match n with
    | 0 => dr1 fl r 0 S
    | n + 1 => dr1 fl r n (e :: S)
def VI (vers : List Vt) : Prop := (∀ (i j : Nat) (t u : Vt), vers[i]? = some t → vers[j]? = some u → i < j → t.1 < u.1) ∧ ∀ (i : Nat) (t : Vt), vers[i]? = some t → t.1 < 2 ^ 20 ∧ t.2.1 ≤ 9 ∧ t.2.2 < 2 ^ 20
theorem xm1 (x : Int32) : x + (-1) = x - 1 := (Int32.sub_eq_add_neg x 1).symm
theorem MV.ext {h h' : Hp} {y : Nat} {A : Nat → Nat} {vers : List Vt} (V : MV h y A vers) (e0 : hpI h' y 30 = hpI h y 30) (e : ∀ j, j = 27 ∨ j = 28 ∨ j = 29 → ∀ i, i < vers.length → hpI h' (A j) i = hpI h (A j) i) : MV h' y A vers := by
  obtain ⟨V1, V2, V3⟩ := V
  refine ⟨by rw [e0]; exact V1, V2, fun i t ht => ?_⟩
  have hl := (List.getElem?_eq_some_iff.mp ht).1
  rw [e 27 (by omega) i hl, e 28 (by omega) i hl, e 29 (by omega) i hl]
  exact V3 i t ht
set_option maxHeartbeats 1000000 in
theorem m_forget {h : Hp} {y : Nat} {A : Nat → Nat} {L : List Vt} {i : Nat} (M : MOK h y A) (V : MV h y A L) (hi : i < L.length) :
    ∃ h', f_M_forget y (nI i) h = some h' ∧ MOK h' y A ∧ MV h' y A (L.eraseIdx i) ∧ (∀ j, j ≠ 30 → hpI h' y j = hpI h y j) ∧ Only [y, A 27, A 28, A 29] h h' ∧ hpN h' = hpN h ∧ hpS h' = hpS h := by
  obtain ⟨V1, V2, V3⟩ := V
  have r27 := M.a27
  have r28 := M.a28
  have r29 := M.a29
  have n78 := M.ne (i := 27) (j := 28) (by decide) (by decide) (by decide)
  have n79 := M.ne (i := 27) (j := 29) (by decide) (by decide) (by decide)
  have n89 := M.ne (i := 28) (j := 29) (by decide) (by decide) (by decide)
  have y7 := M.ny (i := 27) (by decide)
  have y8 := M.ny (i := 28) (by decide)
  have y9 := M.ny (i := 29) (by decide)
  obtain ⟨n, hn⟩ : ∃ n, L.length = n + 1 := ⟨L.length - 1, by omega⟩
  obtain ⟨g, hg⟩ : ∃ g, g = wI h y 30 (nI n) := ⟨_, rfl⟩
  have gA : ∀ j, 66 ≤ mk j → hpI g (A j) = hpI h (A j) := fun j hj => by
    funext k; rw [hg]; exact I_ne (Or.inl (M.ny hj))
  have key : ∃ r, l_M_forget_12 y (nI i, g) = some r ∧ (MOK r y A ∧ hpI r y = hpI g y ∧ (∀ X, X = 27 ∨ X = 28 ∨ X = 29 → ∀ k, hpI r (A X) k = if i ≤ k ∧ k < n then hpI h (A X) (k + 1) else hpI h (A X) k) ∧ Only [y, A 27, A 28, A 29] g r ∧ hpN r = hpN g ∧ hpS r = hpS g) := by
    unfold l_M_forget_12
    refine lp_for (fun j s => s.1 = nI j ∧ i ≤ j ∧ MOK s.2 y A ∧ hpI s.2 y = hpI g y ∧ (∀ X, X = 27 ∨ X = 28 ∨ X = 29 → ∀ k, hpI s.2 (A X) k = if i ≤ k ∧ k < j then hpI h (A X) (k + 1) else hpI h (A X) k) ∧ Only [y, A 27, A 28, A 29] g s.2 ∧ hpN s.2 = hpN g ∧ hpS s.2 = hpS g) _ n (fun j s hj hs => Or.inl ?_) (fun s hs => ⟨s.2, ?_, hs.2.2⟩) FU i (nI i, g) (by omega) (by show n - i < 4096; omega) ⟨rfl, Nat.le_refl _, ?_, rfl, fun X hX k => ?_, Only.refl _ _, rfl, rfl⟩
    · obtain ⟨a, r⟩ := s
      obtain ⟨b1, b2, b3, b4, b5, b6, b7, b8⟩ := hs
      dsimp only at b1 b2 b3 b4 b5 b6 b7 b8
      subst b1
      have q27 := b3.a27
      have q28 := b3.a28
      have q29 := b3.a29
      refine ⟨(nI (j + 1), wI (wI (wI r (A 27) j (hpI r (A 27) (j + 1))) (A 28) j (hpI r (A 28) (j + 1))) (A 29) j (hpI r (A 29) (j + 1))), ?_, rfl, by omega, b3, ?_, fun X hX k => ?_, ?_, b7, b8⟩
      · show b_M_forget_12 y (nI j) r = _
        unfold b_M_forget_12
        simp only [nm_v, R_wI, L_wI, K_wI]
        rw [gd_t (isK_of b3.1), b4, hg, I_same, if_neg (nI_ge hj (by omega)), nI_1, dr_s q27.1, gd_t (isK_of q27.2.1), gd_t (inb_n (by rw [q27.2.2.1]; omega) (by rw [q27.2.2.1]; decide)), gd_t (inb_n (by rw [q27.2.2.1]; omega) (by rw [q27.2.2.1]; decide))]
        rw [dr_s q28.1, gd_t (isK_of q28.2.1), gd_t (inb_n (by rw [q28.2.2.1]; omega) (by rw [q28.2.2.1]; decide)), gd_t (inb_n (by rw [q28.2.2.1]; omega) (by rw [q28.2.2.1]; decide))]
        rw [dr_s q29.1, gd_t (isK_of q29.2.1), gd_t (inb_n (by rw [q29.2.2.1]; omega) (by rw [q29.2.2.1]; decide)), gd_t (inb_n (by rw [q29.2.2.1]; omega) (by rw [q29.2.2.1]; decide)), nI_clamp (by omega), nI_clamp (by omega)]
        rw [I_ne (b := A 28) (Or.inl n78.symm), I_ne (b := A 29) (Or.inl n89.symm), I_ne (b := A 29) (Or.inl n79.symm)]
      · dsimp only
        rw [← b4]
        funext k
        rw [I_ne (Or.inl y9.symm), I_ne (Or.inl y8.symm), I_ne (Or.inl y7.symm)]
      · dsimp only
        have step : ∀ a : Nat, (hpI r a k = if i ≤ k ∧ k < j then hpI h a (k + 1) else hpI h a k) → (hpI r a (j + 1) = if i ≤ j + 1 ∧ j + 1 < j then hpI h a (j + 1 + 1) else hpI h a (j + 1)) → (if k = j then hpI r a (j + 1) else hpI r a k) = if i ≤ k ∧ k < j + 1 then hpI h a (k + 1) else hpI h a k := by
          intro a c1 c2
          by_cases e : k = j
          · rw [if_pos e, c2, if_neg (by omega), if_pos (by omega), e]
          · rw [if_neg e, c1]
            by_cases z : i ≤ k ∧ k < j
            · rw [if_pos z, if_pos (by omega)]
            · rw [if_neg z, if_neg (by omega)]
        rcases hX with e | e | e <;> subst e
        · rw [I_ne (Or.inl n79), I_ne (Or.inl n78), ← step (A 27) (b5 27 (by omega) k) (b5 27 (by omega) (j + 1)), I_wI]
          by_cases e : k = j
          · rw [if_pos ⟨rfl, e⟩, if_pos e]
          · rw [if_neg (fun z => e z.2), if_neg e]
        · rw [I_ne (Or.inl n89), ← step (A 28) (b5 28 (by omega) k) (b5 28 (by omega) (j + 1)), I_wI]
          by_cases e : k = j
          · rw [if_pos ⟨rfl, e⟩, if_pos e]
          · rw [if_neg (fun z => e z.2), if_neg e, I_ne (Or.inl n78.symm)]
        · rw [← step (A 29) (b5 29 (by omega) k) (b5 29 (by omega) (j + 1)), I_wI]
          by_cases e : k = j
          · rw [if_pos ⟨rfl, e⟩, if_pos e]
          · rw [if_neg (fun z => e z.2), if_neg e, I_ne (Or.inl n89.symm), I_ne (Or.inl n79.symm)]
      · exact b6.trans (Only.trans (on_wI (by simp)) (Only.trans (on_wI (by simp)) (on_wI (by simp))))
    · obtain ⟨a, r⟩ := s
      obtain ⟨b1, b2, b3, b4, b5⟩ := hs
      dsimp only at b1 b2 b3 b4 b5
      subst b1
      show b_M_forget_12 y (nI n) r = _
      unfold b_M_forget_12
      rw [gd_t (isK_of b3.1), b4, hg, I_same, if_pos (nI_le (Nat.le_refl _) (by omega))]
    · rw [hg]; exact M
    · dsimp only
      rw [if_neg (by omega)]
      rcases hX with e | e | e <;> subst e
      · rw [gA 27 (by decide)]
      · rw [gA 28 (by decide)]
      · rw [gA 29 (by decide)]
  obtain ⟨r, r1, r2, r3, r4, r5, r6, r7⟩ := key
  have hlen : (L.eraseIdx i).length = n := by rw [List.length_eraseIdx_of_lt hi, hn]; rfl
  refine ⟨r, ?_, r2, ⟨?_, by omega, fun k t ht => ?_⟩, fun j hj => ?_, ?_, by rw [r6, hg]; rfl, by rw [r7, hg]; rfl⟩
  · unfold f_M_forget
    rw [gd_t (isK_of M.1), nm_v, V1, hn, nI_pred, ← hg, bd_s r1]
  · rw [r3, hg, I_same, hlen]
  · have hk := (List.getElem?_eq_some_iff.mp ht).1
    rw [hlen] at hk
    rw [List.getElem?_eraseIdx] at ht
    rw [r4 27 (by omega), r4 28 (by omega), r4 29 (by omega)]
    by_cases z : k < i
    · rw [if_pos z] at ht
      rw [if_neg (by omega), if_neg (by omega), if_neg (by omega)]
      exact V3 k t ht
    · rw [if_neg z] at ht
      rw [if_pos (by omega), if_pos (by omega), if_pos (by omega)]
      exact V3 (k + 1) t ht
  · rw [r3, hg]; exact I_ne (Or.inr hj)
  · refine Only.trans (h1 := g) ?_ r5
    rw [hg]; exact on_wI List.mem_cons_self

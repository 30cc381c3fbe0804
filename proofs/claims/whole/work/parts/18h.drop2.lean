theorem take_s {T : Type} {l : List T} {i : Nat} {t : T} (h : l[i]? = some t) : l.take (i + 1) = l.take i ++ [t] := by
  rw [List.take_succ, h]; rfl
theorem rev_s {T : Type} {l : List T} {i : Nat} {t : T} (h : l[i]? = some t) : (l.take (i + 1)).reverse = t :: (l.take i).reverse := by
  rw [take_s h, List.reverse_append]; rfl
theorem len_s {T : Type} {l : List T} {i : Nat} (h : i ≤ l.length) : (l.take i).length = i := by rw [List.length_take]; omega
theorem mid_s {T : Type} {l S : List T} {i : Nat} {t : T} (h : l[i]? = some t) : l.take (i + 1) ++ S = l.take i ++ (t :: S) := by
  rw [take_s h, List.append_assoc]; rfl
theorem er_s {T : Type} {l S : List T} {i : Nat} {t : T} (h : l[i]? = some t) : (l.take (i + 1) ++ S).eraseIdx i = l.take i ++ S := by
  have hl := (List.getElem?_eq_some_iff.mp h).1
  rw [mid_s h, List.eraseIdx_append_of_length_le (by rw [len_s (by omega)]; omega), len_s (by omega), Nat.sub_self]
  rfl
theorem at_s {T : Type} {l S : List T} {i : Nat} {t : T} (h : l[i]? = some t) : (l.take (i + 1) ++ S)[i]? = some t := by
  have hl := (List.getElem?_eq_some_iff.mp h).1
  rw [mid_s h, List.getElem?_append_right (by rw [len_s (by omega)]; omega), len_s (by omega), Nat.sub_self]
  rfl
/-- the flag: the latest one, or a pinned one -/
def vfl (lat : Nat) (t : Vt) : Bool := decide (t.1 = lat) || decide (0 < t.2.1)
theorem nI_inj {a b : Nat} (ha : a < 2 ^ 31) (hb : b < 2 ^ 31) : nI a = nI b ↔ a = b := nI_eq ha hb
theorem nI_le0 {a : Nat} (ha : a < 2 ^ 31) : nI a ≤ 0 ↔ a = 0 := by
  rw [show (0 : Int32) = nI 0 from rfl, nI_leI ha (by decide)]; omega
set_option maxHeartbeats 1000000 in
theorem m_drop {h : Hp} {y : Nat} {A : Nat → Nat} {vers : List Vt} {lat hold : Nat} (M : MOK h y A) (V : MV h y A vers) (I : VI vers) (hl : hpI h y 31 = nI lat) (hlat : lat < 2 ^ 20) (hh : hpI h y 32 = nI hold) (hho : hold ≤ 4) :
    ∃ h', f_M_drop y h = some h' ∧ MOK h' y A ∧ MV h' y A (dr1 (vfl lat) vers.reverse hold []) ∧ (∀ j, j ≠ 30 → hpI h' y j = hpI h y j) ∧ Only [y, A 27, A 28, A 29] h h' ∧ hpN h' = hpN h ∧ hpS h' = hpS h := by
  obtain ⟨D, hD⟩ : ∃ D, D = dr1 (vfl lat) vers.reverse hold [] := ⟨_, rfl⟩
  rw [← hD]
  have h48 := V.2.1
  have key : ∃ r, l_M_drop_12 y (nI hold, nI vers.length - 1, h) = some r ∧ (MOK r y A ∧ MV r y A D ∧ (∀ j, j ≠ 30 → hpI r y j = hpI h y j) ∧ Only [y, A 27, A 28, A 29] h r ∧ hpN r = hpN h ∧ hpS r = hpS h) := by
    unfold l_M_drop_12
    refine lp_up (fun j s => ∃ (n : Nat) (S : List Vt), s.1 = nI n ∧ n ≤ 4 ∧ s.2.1 = nI (vers.length - j) - 1 ∧ MOK s.2.2 y A ∧ MV s.2.2 y A (vers.take (vers.length - j) ++ S) ∧ dr1 (vfl lat) (vers.take (vers.length - j)).reverse n S = D ∧ (∀ j, j ≠ 30 → hpI s.2.2 y j = hpI h y j) ∧ Only [y, A 27, A 28, A 29] h s.2.2 ∧ hpN s.2.2 = hpN h ∧ hpS s.2.2 = hpS h) _ vers.length (by omega) ?_ (fun j s hj hs => Or.inl ?_) (fun s hs => ⟨s.2.2, ?_, ?_⟩)
    · exact ⟨hold, [], rfl, hho, rfl, M, by rw [Nat.sub_zero, List.take_length, List.append_nil]; exact V, by rw [Nat.sub_zero, List.take_length]; exact hD.symm, fun _ _ => rfl, Only.refl _ _, rfl, rfl⟩
    · obtain ⟨a, b, r⟩ := s
      obtain ⟨n, S, b1, b2, b3, b4, b5, b6, b7, b8, b9, b10⟩ := hs
      dsimp only at b1 b3 b4 b5 b7 b8 b9 b10
      obtain ⟨i, hi⟩ : ∃ i, vers.length - j = i + 1 := ⟨vers.length - j - 1, by omega⟩
      rw [hi] at b3 b5 b6
      rw [nI_pred] at b3
      subst b1 b3
      have hi2 : vers.length - (j + 1) = i := by omega
      obtain ⟨t, ht⟩ : ∃ t, vers[i]? = some t := ⟨_, List.getElem?_eq_getElem (by omega)⟩
      have hb := I.2 i t ht
      have hC := b5.2.2 i t (at_s ht)
      rw [rev_s ht] at b6
      have q27 := b4.a27
      have q28 := b4.a28
      have e31 : hpI r y 31 = nI lat := by rw [b7 31 (by decide)]; exact hl
      have eb : b_M_drop_12 y (nI n) (nI i) r = if nI t.1 = nI lat then some (.inl (nI n, nI i - 1, r)) else if nI t.2.1 ≤ 0 then (if nI n = 0 then (cv (f_M_forget y (nI i) r) fun h15 => some (.inl (nI n, nI i - 1, h15))) else some (.inl (nI n - 1, nI i - 1, r))) else some (.inl (nI n, nI i - 1, r)) := by
        unfold b_M_drop_12
        rw [if_neg (nI_pos (by omega)), gd_t (isK_of b4.1), dr_s q27.1, gd_t (isK_of q27.2.1), gd_t (inb_n (by rw [q27.2.2.1]; omega) (by rw [q27.2.2.1]; decide)), nI_clamp (by omega), hC.1, e31, dr_s q28.1, gd_t (isK_of q28.2.1), gd_t (inb_n (by rw [q28.2.2.1]; omega) (by rw [q28.2.2.1]; decide)), hC.2.1]
        simp only [xm1]
      show ∃ s', b_M_drop_12 y (nI n) (nI i) r = some (.inl s') ∧ _
      rw [eb]
      have stay : vfl lat t = true → ∃ (n' : Nat) (S' : List Vt), nI n = nI n' ∧ n' ≤ 4 ∧ nI i - 1 = nI (vers.length - (j + 1)) - 1 ∧ MOK r y A ∧ MV r y A (vers.take (vers.length - (j + 1)) ++ S') ∧ dr1 (vfl lat) (vers.take (vers.length - (j + 1))).reverse n' S' = D ∧ (∀ j, j ≠ 30 → hpI r y j = hpI h y j) ∧ Only [y, A 27, A 28, A 29] h r ∧ hpN r = hpN h ∧ hpS r = hpS h := by
        intro hf
        refine ⟨n, t :: S, rfl, b2, by rw [hi2], b4, by rw [hi2, ← mid_s ht]; exact b5, ?_, b7, b8, b9, b10⟩
        rw [hi2, ← b6]
        show _ = (bif vfl lat t then _ else _)
        rw [hf]; rfl
      by_cases c1 : t.1 = lat
      · rw [if_pos (by rw [c1])]
        exact ⟨_, rfl, stay (by unfold vfl; rw [decide_eq_true c1]; rfl)⟩
      · rw [if_neg (fun q => c1 ((nI_inj (by omega) (by omega)).mp q))]
        by_cases c2 : t.2.1 = 0
        · have hf : vfl lat t = false := by unfold vfl; rw [decide_eq_false c1, decide_eq_false (by omega)]; rfl
          rw [if_pos ((nI_le0 (by omega)).mpr c2)]
          have b6' : (match n with
            | 0 => dr1 (vfl lat) (vers.take i).reverse 0 S
            | n + 1 => dr1 (vfl lat) (vers.take i).reverse n (t :: S)) = D := by
            rw [← b6]
            show _ = (bif vfl lat t then _ else _)
            rw [hf]; rfl
          cases n with
          | zero =>
            rw [if_pos (show nI 0 = 0 from rfl)]
            obtain ⟨r', f1, f2, f3, f4, f5, f6, f7⟩ := m_forget b4 b5 (i := i) (by rw [List.length_append, len_s (by omega)]; omega)
            rw [cv_s f1]
            refine ⟨_, rfl, 0, S, rfl, by decide, by rw [hi2], f2, ?_, ?_, fun j hj => by rw [f4 j hj]; exact b7 j hj, b8.trans f5, by rw [f6]; exact b9, by rw [f7]; exact b10⟩
            · rw [hi2]; rw [er_s ht] at f3; exact f3
            · rw [hi2]; exact b6'
          | succ n =>
            rw [if_neg (nI_ne0 (by omega) (by omega)), nI_pred]
            refine ⟨_, rfl, n, t :: S, rfl, by omega, by rw [hi2], b4, by rw [hi2, ← mid_s ht]; exact b5, ?_, b7, b8, b9, b10⟩
            rw [hi2]; exact b6'
        · rw [if_neg (fun q => c2 ((nI_le0 (by omega)).mp q))]
          exact ⟨_, rfl, stay (by unfold vfl; rw [decide_eq_true (show 0 < t.2.1 by omega), Bool.or_true])⟩
    · obtain ⟨a, b, r⟩ := s
      obtain ⟨n, S, b1, b2, b3, -⟩ := hs
      dsimp only at b1 b3
      rw [Nat.sub_self] at b3
      subst b3
      show b_M_drop_12 y a (nI 0 - 1) r = _
      unfold b_M_drop_12
      rw [if_pos (by decide)]
    · obtain ⟨a, b, r⟩ := s
      obtain ⟨n, S, b1, b2, b3, b4, b5, b6, b7, b8, b9, b10⟩ := hs
      dsimp only at b1 b3 b4 b5 b7 b8 b9 b10
      rw [Nat.sub_self] at b5 b6
      have e : S = D := b6
      subst e
      exact ⟨b4, b5, b7, b8, b9, b10⟩
  obtain ⟨r, r1, r2⟩ := key
  refine ⟨r, ?_, r2⟩
  unfold f_M_drop
  rw [gd_t (isK_of M.1), hh, V.1, bd_s r1]

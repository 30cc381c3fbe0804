theorem Only.at2 {a b x : Nat} {h h' : Hp} (o : Only [a, b] h h') (hx : x < hpN h) (ha : x ≠ a) (hb : x ≠ b) : hpT h' x = hpT h x ∧ hpL h' x = hpL h x ∧ hpI h' x = hpI h x ∧ hpR h' x = hpR h x := by
  have q := o.2.2.2 x hx (by simp [ha, hb])
  exact ⟨(o.2.2.1 x hx).1, (o.2.2.1 x hx).2, q.1, q.2⟩
theorem AL.ek {e0 cs e : Nat} {h : Hp} {l : List Nat} (H : AL e0 h cs e l) : hpT h e = 64 ∨ hpT h e = 73 ∨ hpT h e = 74 := by
  rcases H.2.2.2.2.2.2 with ⟨-, q, -⟩ | ⟨q, -⟩
  · exact Or.inl q
  · exact Or.inr q
theorem VO.keep {h h' : Hp} {a vs ev : Nat} {t : Vt} {pk : Nat → Option Nat} (O : VO h a t pk) (o : Only [vs, ev] h h') (hv : hpT h vs = 9) (he : hpT h ev = 64 ∨ hpT h ev = 73 ∨ hpT h ev = 74) : VO h' a t pk := by
  obtain ⟨o1, o2, o3, o4, o5⟩ := O
  obtain ⟨q1, q2, q3, q4⟩ := o.at2 o2 (ne_T (h := h) (by rw [o1, hv]; decide)) (ne_T (h := h) (by rw [o1]; omega))
  exact ⟨by rw [q1]; exact o1, Nat.lt_of_lt_of_le o2 o.1, by rw [q3]; exact o3, by rw [q4]; exact o4, by rw [q3]; exact o5⟩
set_option maxHeartbeats 1000000 in
theorem x_dropL {e0 : Nat} {h : Hp} {x p F cs vs ev : Nat} {va : List Nat} {vers : List Vt} {pk : Nat → Option Nat} {lat hold : Nat} (X : XO h x p F cs vs) (V : XV e0 h vs ev va vers pk) (I : VI vers) (hh : hpI h x 5 = nI hold) (hho : hold ≤ 4) (hla : ∀ (i a : Nat) (t : Vt), va[i]? = some a → vers[i]? = some t → (some a = hpR h x 4 ↔ t.1 = lat)) :
    ∃ (h' : Hp) (va' : List Nat), l_X_dropUnkept_12 x ((0 : Int32), nI va.length - 1, h) = some h' ∧ XV e0 h' vs ev va' (dr1 (vfl lat) vers.reverse hold []) pk ∧ (∀ a ∈ va', a ∈ va) ∧ Only [vs, ev] h h' ∧ hpN h' = hpN h ∧ hpS h' = hpS h := by
  obtain ⟨D, hD⟩ : ∃ D, D = dr1 (vfl lat) vers.reverse hold [] := ⟨_, rfl⟩
  rw [← hD]
  obtain ⟨L0, hlen, hV⟩ := V
  have h60 := L0.2.2.2.2.2.1
  have hxv : x ≠ vs := ne_T (h := h) (by rw [X.1, L0.1]; decide)
  have hxe : x ≠ ev := ne_T (h := h) (by have := L0.ek; rw [X.1]; omega)
  have key : ∃ r, l_X_dropUnkept_12 x ((0 : Int32), nI va.length - 1, h) = some r ∧ (∃ va', XV e0 r vs ev va' D pk ∧ (∀ a ∈ va', a ∈ va) ∧ Only [vs, ev] h r ∧ hpN r = hpN h ∧ hpS r = hpS h) := by
    unfold l_X_dropUnkept_12
    refine lp_up (fun j s => ∃ (m : Nat) (Sa : List Nat) (S : List Vt), s.1 = nI m ∧ m ≤ hold ∧ s.2.1 = nI (va.length - j) - 1 ∧ AL e0 s.2.2 vs ev (va.take (va.length - j) ++ Sa) ∧ Sa.length = S.length ∧ (∀ (i a : Nat) (t : Vt), Sa[i]? = some a → S[i]? = some t → VO h a t pk) ∧ (∀ a ∈ Sa, a ∈ va) ∧ dr1 (vfl lat) (vers.take (va.length - j)).reverse (hold - m) S = D ∧ Only [vs, ev] h s.2.2 ∧ hpN s.2.2 = hpN h ∧ hpS s.2.2 = hpS h) _ va.length (by omega) ?_ (fun j s hj hs => Or.inl ?_) (fun s hs => ⟨s.2.2, ?_, ?_⟩)
    · exact ⟨0, [], [], rfl, Nat.zero_le _, rfl, by rw [Nat.sub_zero, List.take_length, List.append_nil]; exact L0, rfl, fun i a t hi => by simp at hi, fun a ha => (by cases ha), by rw [Nat.sub_zero, hlen, List.take_length]; exact hD.symm, Only.refl _ _, rfl, rfl⟩
    · obtain ⟨c, b, r⟩ := s
      obtain ⟨m, Sa, S, b1, b2, b3, b4, b5, b6, b7, b8, b9, b10, b11⟩ := hs
      dsimp only at b1 b3 b4 b9 b10 b11
      obtain ⟨i, hi⟩ : ∃ i, va.length - j = i + 1 := ⟨va.length - j - 1, by omega⟩
      rw [hi] at b3 b4 b8
      rw [nI_pred] at b3
      subst b1 b3
      have hi2 : va.length - (j + 1) = i := by omega
      obtain ⟨a, ha⟩ : ∃ a, va[i]? = some a := ⟨_, List.getElem?_eq_getElem (by omega)⟩
      obtain ⟨t, ht⟩ : ∃ t, vers[i]? = some t := ⟨_, List.getElem?_eq_getElem (by omega)⟩
      have hb := I.2 i t ht
      have O := hV i a t ha ht
      have O' := O.keep b9 L0.1 L0.ek
      rw [rev_s ht] at b8
      have x4 := b9.at2 X.2.1 hxv hxe
      have hil : i < (va.take (i + 1) ++ Sa).length := by rw [List.length_append, len_s (by omega)]; omega
      have eb : b_X_dropUnkept_12 x (nI m) (nI i) r = if some a = hpR h x 4 then some (.inl (nI m, nI i - 1, r)) else if nI t.2.1 ≤ 0 then (if nI hold ≤ nI m then (cl (f_A_remove vs (nI i) r) fun _ h29 => some (.inl (nI m, nI i - 1, h29))) else some (.inl (nI (m + 1), nI i - 1, r))) else some (.inl (nI m, nI i - 1, r)) := by
        unfold b_X_dropUnkept_12
        rw [if_neg (nI_pos (by omega)), gd_t (isK_of (by rw [x4.1]; exact X.1)), dr_s (by rw [x4.2.2.2]; exact X.2.2.2.2.2), gd_t (isK_of b4.1), cl_s (al_get b4 hil), at_s ha, gd_t (caB_s O'.1), gd_t (isK_of (by rw [x4.1]; exact X.1)), x4.2.2.2, dr_s rfl, gd_t (isK_of O'.1), O'.2.2.2.2, x4.2.2.1, hh, dr_s X.2.2.2.2.2, gd_t (isK_of b4.1), nI_1]
        simp only [xm1]
      show ∃ s', b_X_dropUnkept_12 x (nI m) (nI i) r = some (.inl s') ∧ _
      rw [eb]
      have sub : ∀ z ∈ a :: Sa, z ∈ va := fun z hz => by
        rcases List.mem_cons.mp hz with q | q
        · rw [q]; exact List.mem_of_getElem? ha
        · exact b7 z q
      have pair : ∀ (k z : Nat) (u : Vt), (a :: Sa)[k]? = some z → (t :: S)[k]? = some u → VO h z u pk := by
        intro k z u hz hu
        cases k with
        | zero => cases hz; cases hu; exact O
        | succ k => exact b6 k z u hz hu
      have stay : vfl lat t = true → ∃ (m' : Nat) (Sa' : List Nat) (S' : List Vt), nI m = nI m' ∧ m' ≤ hold ∧ nI i - 1 = nI (va.length - (j + 1)) - 1 ∧ AL e0 r vs ev (va.take (va.length - (j + 1)) ++ Sa') ∧ Sa'.length = S'.length ∧ (∀ (i a : Nat) (t : Vt), Sa'[i]? = some a → S'[i]? = some t → VO h a t pk) ∧ (∀ a ∈ Sa', a ∈ va) ∧ dr1 (vfl lat) (vers.take (va.length - (j + 1))).reverse (hold - m') S' = D ∧ Only [vs, ev] h r ∧ hpN r = hpN h ∧ hpS r = hpS h := by
        intro hf
        refine ⟨m, a :: Sa, t :: S, rfl, b2, by rw [hi2], by rw [hi2, ← mid_s ha]; exact b4, by rw [List.length_cons, List.length_cons, b5], pair, sub, ?_, b9, b10, b11⟩
        rw [hi2, ← b8]
        show _ = (bif vfl lat t then _ else _)
        rw [hf]; rfl
      by_cases c1 : t.1 = lat
      · rw [if_pos ((hla i a t ha ht).mpr c1)]
        exact ⟨_, rfl, stay (by unfold vfl; rw [decide_eq_true c1]; rfl)⟩
      · rw [if_neg (fun q => c1 ((hla i a t ha ht).mp q))]
        by_cases c2 : t.2.1 = 0
        · have hf : vfl lat t = false := by unfold vfl; rw [decide_eq_false c1, decide_eq_false (by omega)]; rfl
          rw [if_pos ((nI_le0 (by omega)).mpr c2)]
          by_cases c3 : m = hold
          · subst c3
            rw [if_pos (nI_le (Nat.le_refl _) (by omega))]
            obtain ⟨r', f1, f2, f3, f4, f5⟩ := al_remove b4 hil
            rw [cl_s f1]
            refine ⟨_, rfl, m, Sa, S, rfl, Nat.le_refl _, by rw [hi2], ?_, b5, b6, b7, ?_, b9.trans (f3.mono (fun z hz _ => hz)), by rw [f4]; exact b10, by rw [f5]; exact b11⟩
            · rw [hi2]; rw [er_s ha] at f2; exact f2
            · rw [hi2, Nat.sub_self]
              rw [Nat.sub_self] at b8
              rw [← b8]
              show _ = (bif vfl lat t then _ else _)
              rw [hf]; rfl
          · rw [if_neg (nI_ge (by omega) (by omega))]
            refine ⟨_, rfl, m + 1, a :: Sa, t :: S, rfl, by omega, by rw [hi2], by rw [hi2, ← mid_s ha]; exact b4, by rw [List.length_cons, List.length_cons, b5], pair, sub, ?_, b9, b10, b11⟩
            rw [hi2, ← b8]
            obtain ⟨n, hn⟩ : ∃ n, hold - m = n + 1 := ⟨hold - m - 1, by omega⟩
            rw [hn, show hold - (m + 1) = n by omega]
            show _ = (bif vfl lat t then _ else _)
            rw [hf]; rfl
        · rw [if_neg (fun q => c2 ((nI_le0 (by omega)).mp q))]
          exact ⟨_, rfl, stay (by unfold vfl; rw [decide_eq_true (show 0 < t.2.1 by omega), Bool.or_true])⟩
    · obtain ⟨c, b, r⟩ := s
      obtain ⟨m, Sa, S, b1, b2, b3, -⟩ := hs
      dsimp only at b1 b3
      rw [Nat.sub_self] at b3
      subst b3
      show b_X_dropUnkept_12 x c (nI 0 - 1) r = _
      unfold b_X_dropUnkept_12
      rw [if_pos (by decide)]
    · obtain ⟨c, b, r⟩ := s
      obtain ⟨m, Sa, S, b1, b2, b3, b4, b5, b6, b7, b8, b9, b10, b11⟩ := hs
      dsimp only at b1 b3 b4 b9 b10 b11
      rw [Nat.sub_self] at b4 b8
      have e : S = D := b8
      subst e
      exact ⟨Sa, ⟨b4, b5, fun i a t hi ht => (b6 i a t hi ht).keep b9 L0.1 L0.ek⟩, b7, b9, b10, b11⟩
  obtain ⟨r, r1, va', r2⟩ := key
  exact ⟨r, va', r1, r2⟩

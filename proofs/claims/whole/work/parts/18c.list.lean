/-! LISTS (ArrayList): the object cs, its array e, its elements l -/
def Only (L : List Nat) (h h' : Hp) : Prop := hpN h ≤ hpN h' ∧ hpS h ≤ hpS h' ∧ (∀ b, b < hpN h → hpT h' b = hpT h b ∧ hpL h' b = hpL h b) ∧ ∀ b, b < hpN h → b ∉ L → hpI h' b = hpI h b ∧ hpR h' b = hpR h b
theorem Only.refl (L : List Nat) (h : Hp) : Only L h h := ⟨Nat.le_refl _, Nat.le_refl _, fun _ _ => ⟨rfl, rfl⟩, fun _ _ _ => ⟨rfl, rfl⟩⟩
theorem Only.trans {L : List Nat} {h h1 h2 : Hp} (a : Only L h h1) (b : Only L h1 h2) : Only L h h2 := by
  obtain ⟨a1, a2, a3, a4⟩ := a
  obtain ⟨b1, b2, b3, b4⟩ := b
  refine ⟨Nat.le_trans a1 b1, Nat.le_trans a2 b2, fun x hx => ?_, fun x hx hk => ?_⟩
  · have q := b3 x (Nat.lt_of_lt_of_le hx a1)
    rw [q.1, q.2]; exact a3 x hx
  · have q := b4 x (Nat.lt_of_lt_of_le hx a1) hk
    rw [q.1, q.2]; exact a4 x hx hk
theorem Only.mono {L L' : List Nat} {h h1 : Hp} (a : Only L h h1) (m : ∀ x ∈ L, x < hpN h → x ∈ L') : Only L' h h1 := ⟨a.1, a.2.1, a.2.2.1, fun b hb hn => a.2.2.2 b hb (fun q => hn (m b q hb))⟩
theorem on_wI {L : List Nat} {h : Hp} {a k : Nat} {v : Int32} (m : a ∈ L) : Only L h (wI h a k v) := ⟨Nat.le_refl _, Nat.le_refl _, fun _ _ => ⟨rfl, rfl⟩, fun b _ hn => ⟨by funext j; exact if_neg (fun q => hn (by rw [q.1]; exact m)), rfl⟩⟩
theorem on_wR {L : List Nat} {h : Hp} {a k : Nat} {v : Option Nat} (m : a ∈ L) : Only L h (wR h a k v) := ⟨Nat.le_refl _, Nat.le_refl _, fun _ _ => ⟨rfl, rfl⟩, fun b _ hn => ⟨rfl, by funext j; exact if_neg (fun q => hn (by rw [q.1]; exact m))⟩⟩
theorem on_cR {L : List Nat} {h : Hp} {a sp b dp n : Nat} (m : b ∈ L) : Only L h (cpR h a sp b dp n) := ⟨Nat.le_refl _, Nat.le_refl _, fun _ _ => ⟨rfl, rfl⟩, fun x _ hn => ⟨rfl, by funext j; exact if_neg (fun q => hn (by rw [q.1]; exact m))⟩⟩
theorem on_nw {L : List Nat} {h : Hp} {κ n w : Nat} : Only L h (nw h κ n w) := ⟨Nat.le_succ _, Nat.le_add_right _ _, fun b hb => ⟨if_neg (by omega), if_neg (by omega)⟩, fun b hb _ => ⟨by funext j; exact if_neg (by omega), by funext j; exact if_neg (by omega)⟩⟩
def AL (e0 : Nat) (h : Hp) (cs e : Nat) (l : List Nat) : Prop :=
  hpT h cs = 9 ∧ cs < hpN h ∧ hpI h cs 1 = nI l.length ∧ hpR h cs 0 = some e ∧ (∀ a ∈ l, hpT h a ≤ 8 ∧ a < hpN h) ∧ l.length ≤ 60 ∧
  ((e = e0 ∧ hpT h e = 64 ∧ hpL h e = 0 ∧ l = []) ∨ ((hpT h e = 73 ∨ hpT h e = 74) ∧ e < hpN h ∧ l.length ≤ hpL h e ∧ 10 ≤ hpL h e ∧ hpL h e ≤ 100 ∧ ∀ i, i < l.length → hpR h e i = l[i]?))
theorem isO6 {h : Hp} {e : Nat} (k : hpT h e = 73 ∨ hpT h e = 74) : isO h e 6 = true := by
  unfold isO
  rcases k with q | q <;> rw [q] <;> decide
theorem isA6 {h : Hp} {e : Nat} (k : hpT h e = 64 ∨ hpT h e = 73 ∨ hpT h e = 74) : isA h e 6 = true := by
  unfold isA
  rcases k with q | q | q <;> rw [q] <;> decide
theorem asV6 {h : Hp} {a e : Nat} (k : hpT h e = 73 ∨ hpT h e = 74) (ha : hpT h a ≤ 8) : asV h (some a) e = true := by
  have : aty (hpT h e) = 6 := by rcases k with q | q <;> rw [q] <;> rfl
  show asK (hpT h a) (aty (hpT h e)) = true
  rw [this]
  exact Nat.ble_eq_true_of_le ha
theorem ck_ix {i n : Nat} (hi : i < n) (hn : n < 2 ^ 31) (h : Hp) : f_Ob_checkIndex (nI i) (nI n) h = some (nI i, h) := by
  unfold f_Ob_checkIndex
  have e : f_Pr_checkIndex (nI i) (nI n) none h = some (nI i, h) := by
    unfold f_Pr_checkIndex
    rw [if_neg (nI_pos (by omega)), if_pos (nI_lt hi hn)]
  rw [cl_s e]
theorem al_size {e0 cs e : Nat} {h : Hp} {l : List Nat} (H : AL e0 h cs e l) : f_A_size cs h = some (nI l.length, h) := by
  unfold f_A_size
  rw [gd_t (isK_of H.1), H.2.2.1]
theorem al_get {e0 cs e i : Nat} {h : Hp} {l : List Nat} (H : AL e0 h cs e l) (hi : i < l.length) : f_A_get cs (nI i) h = some (l[i]?, h) := by
  obtain ⟨h1, h2, h3, h4, h5, h6, h7⟩ := H
  rcases h7 with ⟨-, -, -, q⟩ | ⟨k1, k2, k3, k4, k5, k6⟩
  · subst q; exact absurd hi (Nat.not_lt_zero _)
  · have e1 : f_A_elementData cs (nI i) h = some (l[i]?, h) := by
      unfold f_A_elementData
      rw [gd_t (isK_of h1), dr_s h4, gd_t (isO6 k1), gd_t (inb_n (by omega) (by omega)), nI_clamp (by omega), k6 i hi]
    unfold f_A_get
    rw [gd_t (isK_of h1), h3, cl_s (ck_ix hi (by omega) h), gd_t (isK_of h1), cl_s e1]
/-- the list stays where its two cells and its elements stay -/
theorem AL.keep {e0 cs e : Nat} {h h' : Hp} {l : List Nat} (H : AL e0 h cs e l) (h1 : hpN h ≤ hpN h') (h2 : ∀ b, b < hpN h → hpT h' b = hpT h b ∧ hpL h' b = hpL h b) (h3 : hpI h' cs 1 = hpI h cs 1) (h4 : hpR h' cs 0 = hpR h cs 0) (h5 : e < hpN h → ∀ i, i < l.length → hpR h' e i = hpR h e i) (h6 : hpT h e = 64 → hpT h' e = 64 ∧ hpL h' e = hpL h e) : AL e0 h' cs e l := by
  obtain ⟨a1, a2, a3, a4, a5, a6, a7⟩ := H
  refine ⟨by rw [(h2 cs a2).1]; exact a1, by omega, by rw [h3]; exact a3, by rw [h4]; exact a4, fun a ha => ?_, a6, ?_⟩
  · have q := a5 a ha
    rw [(h2 a q.2).1]; exact ⟨q.1, by omega⟩
  · rcases a7 with ⟨q1, q2, q3, q4⟩ | ⟨k1, k2, k3, k4, k5, k6⟩
    · exact Or.inl ⟨q1, (h6 q2).1, by rw [(h6 q2).2]; exact q3, q4⟩
    · refine Or.inr ⟨by rw [(h2 e k2).1]; exact k1, by omega, by rw [(h2 e k2).2]; exact k3, by rw [(h2 e k2).2]; exact k4, by rw [(h2 e k2).2]; exact k5, fun i hi => by rw [h5 k2 i hi]; exact k6 i hi⟩
theorem al_put {E : Nat × Nat} {cs e a n : Nat} {h : Hp} (t1 : hpT h cs = 9) (t2 : hpT h e = 73 ∨ hpT h e = 74) (t3 : n < hpL h e) (t4 : hpL h e ≤ 100) (t5 : hpT h a ≤ 8) : j_A_add2_11_M E cs (some a) (some e) (nI n) h = some (wI (wR h e n (some a)) cs 1 (nI (n + 1))) := by
  unfold j_A_add2_11_M
  rw [dr_s rfl, gd_t (isO6 t2), gd_t (inb_n t3 (by omega)), gd_t (asV6 t2 t5), nm_v, nI_clamp (by omega), gd_t (isK_of (show hpT (wR h e n (some a)) cs = 9 from t1)), nm_v, nI_1]
theorem ne_T {h : Hp} {a b : Nat} (q : hpT h a ≠ hpT h b) : a ≠ b := fun e => q (by rw [e])
theorem mem3 {a b c x : Nat} (h : x ∈ [a, b, c]) : x = a ∨ x = b ∨ x = c := by
  simpa using h
theorem al_first {E : Nat × Nat} {cs a : Nat} {g : Hp} (a1 : hpT g cs = 9) (a2 : cs < hpN g) (a4 : hpR g cs 0 = some E.1) (gI : hpI g cs 1 = nI 0) (q2 : hpT g E.1 = 64) (q3 : hpL g E.1 = 0) (ha : hpT g a ≤ 8 ∧ a < hpN g) :
    ∃ h', f_A_add2 E cs (some a) (some E.1) (nI 0) g = some h' ∧ AL E.1 h' cs (hpN g) [a] ∧ Only [cs] g h' ∧ hpN h' = hpN g + 1 ∧ hpS h' = hpS g + 10 := by
  obtain ⟨u, hu⟩ : ∃ u, u = nw g 74 10 10 := ⟨_, rfl⟩
  obtain ⟨w, hw⟩ : ∃ w, w = wR u cs 0 (some (hpN g)) := ⟨_, rfl⟩
  have hcs : cs ≠ hpN g := by omega
  have uT : ∀ b, b < hpN g → hpT u b = hpT g b := fun b hb => by rw [hu]; exact if_neg (by omega)
  have uN : hpT u (hpN g) = 74 := by rw [hu]; exact if_pos rfl
  have uL : hpL u (hpN g) = 10 := by rw [hu]; exact if_pos rfl
  have wT : hpT w = hpT u := by rw [hw]; rfl
  have wL : hpL w = hpL u := by rw [hw]; rfl
  have wN : hpN w = hpN g + 1 := by rw [hw, hu]; rfl
  have wS : hpS w = hpS g + 10 := by rw [hw, hu]; rfl
  have e2 : f_A_grow2 E cs (nI 1) g = some (some (hpN g), w) := by
    unfold f_A_grow2
    rw [gd_t (isK_of a1), dr_s a4, gd_t (isA6 (Or.inl q2)), q3, if_neg (by decide), a4, if_pos rfl, if_neg (by decide), gd_t (by decide), nm_v, show (nI 10).toNatClampNeg = 10 from by decide, ← hu, gd_t (isK_of (by rw [uT cs a2]; exact a1)), nm_v, ← hw]
  have e1 : f_A_grow1 E cs g = some (some (hpN g), w) := by
    unfold f_A_grow1
    rw [gd_t (isK_of a1), gI, show nI 0 + 1 = nI 1 from by decide, cl_s e2]
  have e3 := al_put (E := E) (cs := cs) (e := hpN g) (a := a) (n := 0) (h := w) (by rw [wT, uT cs a2]; exact a1) (Or.inr (by rw [wT]; exact uN)) (by rw [wL, uL]; decide) (by rw [wL, uL]; decide) (by rw [wT, uT a ha.2]; exact ha.1)
  refine ⟨wI (wR w (hpN g) 0 (some a)) cs 1 (nI (0 + 1)), ?_, ?_, ?_, wN, wS⟩
  · unfold f_A_add2
    rw [dr_s rfl, gd_t (isA6 (Or.inl q2)), q3, if_pos (by decide), gd_t (isK_of a1), cl_s e1]
    exact e3
  · refine ⟨by rw [T_wI, T_wR, wT, uT cs a2]; exact a1, by show cs < hpN w; omega, I_same, ?_, ?_, by show 1 ≤ 60; decide, Or.inr ⟨Or.inr (by rw [T_wI, T_wR, wT]; exact uN), by show hpN g < hpN w; omega, ?_, ?_, ?_, fun i hi => ?_⟩⟩
    · rw [R_wI, R_wR, if_neg (fun q => hcs q.1), hw, R_wR, if_pos ⟨rfl, rfl⟩]
    · intro b hb
      rw [List.mem_singleton] at hb
      subst hb
      rw [T_wI, T_wR, wT, uT b ha.2]
      exact ⟨ha.1, by show b < hpN w; omega⟩
    · rw [L_wI, L_wR, wL, uL]; show 1 ≤ 10; decide
    · rw [L_wI, L_wR, wL, uL]; decide
    · rw [L_wI, L_wR, wL, uL]; decide
    · have : i = 0 := by simp at hi; exact hi
      subst this
      rw [R_wI, R_wR, if_pos ⟨rfl, rfl⟩]; rfl
  · have o : Only [cs, hpN g] g (wI (wR w (hpN g) 0 (some a)) cs 1 (nI (0 + 1))) := by
      refine Only.trans (h1 := u) (by rw [hu]; exact on_nw) (Only.trans (h1 := w) (by rw [hw]; exact on_wR List.mem_cons_self) (Only.trans (h1 := wR w (hpN g) 0 (some a)) (on_wR (by simp)) (on_wI List.mem_cons_self)))
    exact o.mono (fun x hx hl => by
      have : x = cs ∨ x = hpN g := by simpa using hx
      rcases this with q | q
      · rw [q]; exact List.mem_cons_self
      · omega)
/-- the array has room -/
theorem al_room {E : Nat × Nat} {cs e a : Nat} {g : Hp} {l : List Nat} (H : AL E.1 g cs e l) (hk : hpT g e = 73 ∨ hpT g e = 74) (hr : l.length < hpL g e) (hl : l.length < 60) (ha : hpT g a ≤ 8 ∧ a < hpN g) :
    ∃ h', f_A_add2 E cs (some a) (some e) (nI l.length) g = some h' ∧ AL E.1 h' cs e (l ++ [a]) ∧ Only [cs, e] g h' ∧ hpN h' = hpN g ∧ hpS h' = hpS g := by
  obtain ⟨a1, a2, a3, a4, a5, a6, a7⟩ := H
  rcases a7 with ⟨q1, q2, q3, q4⟩ | ⟨k1, k2, k3, k4, k5, k6⟩
  · rw [q2] at hk; omega
  · have hne : cs ≠ e := ne_T (h := g) (by rw [a1]; omega)
    have e3 := al_put (E := E) (cs := cs) (e := e) (a := a) (n := l.length) (h := g) a1 k1 hr k5 ha.1
    refine ⟨wI (wR g e l.length (some a)) cs 1 (nI (l.length + 1)), ?_, ?_, ?_, rfl, rfl⟩
    · unfold f_A_add2
      rw [dr_s rfl, gd_t (isA6 (Or.inr k1)), if_neg (show ¬ nI l.length = Int32.ofNat (hpL g e) from fun q => absurd ((nI_eq (by omega) (by omega)).mp q) (by omega))]
      exact e3
    · refine ⟨a1, a2, by rw [I_same, List.length_append]; rfl, ?_, ?_, by rw [List.length_append]; show l.length + 1 ≤ 60; omega, Or.inr ⟨k1, k2, by rw [List.length_append]; exact hr, k4, k5, fun i hi => ?_⟩⟩
      · rw [R_wI, R_wR, if_neg (fun q => hne q.1)]; exact a4
      · intro b hb
        rcases List.mem_append.mp hb with q | q
        · exact a5 b q
        · rw [List.mem_singleton.mp q]; exact ha
      · rw [R_wI, R_wR]
        rw [List.length_append] at hi
        have hi : i < l.length + 1 := hi
        by_cases q : i = l.length
        · rw [if_pos ⟨rfl, q⟩, q, List.getElem?_append_right (Nat.le_refl _), Nat.sub_self]; rfl
        · rw [if_neg (fun z => q z.2), List.getElem?_append_left (by omega)]; exact k6 i (by omega)
    · exact Only.trans (h1 := wR g e l.length (some a)) (on_wR (by simp)) (on_wI List.mem_cons_self)
theorem nl_grow {c : Nat} (h2 : 2 ≤ c) (hc : c ≤ 40000) (h : Hp) : f_AS_newLength (nI c) (nI (c + 1) - nI c) (nI c >>> ((1 : Int32) &&& 31)) h = some (nI (c + c / 2), h) := by
  have es : nI c >>> ((1 : Int32) &&& 31) = nI (c / 2) := by
    have k := pk_shrN (n := c) (by omega) ((1 : Int32) &&& 31) 1 (by decide)
    rw [Nat.pow_one] at k
    exact k
  have ed : nI (c + 1) - nI c = nI 1 := by
    have k := pk_sub (a := c + 1) (b := c) (by omega)
    rw [Nat.add_sub_cancel_left] at k
    exact k
  have el : nI c + (if nI 1 < nI (c / 2) then nI (c / 2) else nI 1) = nI (c + c / 2) := by
    by_cases q : 1 < c / 2
    · rw [if_pos (nI_lt q (by omega)), nI_add]
    · rw [if_neg (nI_nlt (by omega) (by decide))]
      have hd : c / 2 = 1 := by omega
      rw [hd, nI_add]
  unfold f_AS_newLength
  rw [ed, es, el, if_neg (nI_nle (by omega) (by omega)), if_neg (nI_nlt (by omega) (by decide))]
theorem cp_n {E : Nat × Nat} {e c n : Nat} {g : Hp} {l : List Nat} (k1 : hpT g e = 73 ∨ hpT g e = 74) (k2 : e < hpN g) (hc : hpL g e = c) (hn : c ≤ n) (hn2 : n ≤ 200) (hl : c = l.length) (k6 : ∀ i, i < l.length → hpR g e i = l[i]?) (h5 : ∀ a ∈ l, hpT g a ≤ 8 ∧ a < hpN g) :
    f_Ar_copyOf1 E (some e) (nI n) g = some (some (hpN g), cpR (nw g 73 n n) e 0 (hpN g) 0 c) := by
  obtain ⟨u, hu⟩ : ∃ u, u = nw g 73 n n := ⟨_, rfl⟩
  have uT : ∀ b, b < hpN g → hpT u b = hpT g b := fun b hb => by rw [hu]; exact if_neg (by omega)
  have uN : hpT u (hpN g) = 73 := by rw [hu]; exact if_pos rfl
  have uL : hpL u (hpN g) = n := by rw [hu]; exact if_pos rfl
  have uLe : hpL u e = c := by rw [hu]; exact (if_neg (by omega)).trans hc
  have uR : ∀ i, hpR u e i = hpR g e i := fun i => by rw [hu]; exact if_neg (by omega)
  have em : (if nI n < Int32.ofNat (hpL u e) then nI n else Int32.ofNat (hpL u e)) = nI c := by
    rw [uLe]
    exact if_neg (nI_nlt hn (by omega))
  have e1 : j_Ar_copyOf2_24_M E (some e) (nI n) (hpN g) u = some (some (hpN g), cpR u e 0 (hpN g) 0 c) := by
    unfold j_Ar_copyOf2_24_M
    rw [dr_s rfl, gd_t (isA6 (Or.inr (by rw [uT e k2]; exact k1))), gd_t (isO6 (by rw [uT e k2]; exact k1)), gd_t (isO6 (Or.inl uN)), em]
    rw [gd_t (by
      unfold cpB
      rw [nI_clamp (by omega), uLe, uL, decide_eq_false (nI_pos (n := c) (by omega)), show decide ((0 : Int32) < 0) = false from rfl, show (0 : Int32).toNatClampNeg = 0 from rfl, Nat.ble_eq_true_of_le (by omega), Nat.ble_eq_true_of_le (by omega)]
      rfl)]
    rw [gd_t (by
      unfold cpE
      rw [List.all_eq_true]
      intro i hi
      rw [List.mem_range, nI_clamp (by omega)] at hi
      rw [show (0 : Int32).toNatClampNeg + i = i from Nat.zero_add i, uR i, k6 i (by omega), List.getElem?_eq_getElem (by omega)]
      have hm : l[i]'(by omega) ∈ l := List.getElem_mem _
      have h9 := h5 _ hm
      show Nat.ble (hpT u _) 8 = true
      rw [uT _ h9.2]
      exact Nat.ble_eq_true_of_le h9.1), nm_v, nI_clamp (by omega)]
    rfl
  unfold f_Ar_copyOf1
  rw [dr_s rfl, gd_t (isO6 k1)]
  have e2 : f_Ar_copyOf2 E (some e) (nI n) (some E.2) g = some (some (hpN g), cpR u e 0 (hpN g) 0 c) := by
    unfold f_Ar_copyOf2
    rw [if_pos rfl, gd_t (by unfold lnB; rw [decide_eq_false (nI_pos (n := n) (by omega)), nI_clamp (by omega), Nat.ble_eq_true_of_le (by omega)]; rfl), nm_v, nI_clamp (by omega), ← hu]
    exact e1
  rw [cl_s e2, hu]
/-- the array is full -/
theorem al_full {E : Nat × Nat} {cs e a : Nat} {g : Hp} {l : List Nat} (H : AL E.1 g cs e l) (hk : hpT g e = 73 ∨ hpT g e = 74) (hr : l.length = hpL g e) (hl : l.length < 60) (ha : hpT g a ≤ 8 ∧ a < hpN g) :
    ∃ h', f_A_add2 E cs (some a) (some e) (nI l.length) g = some h' ∧ AL E.1 h' cs (hpN g) (l ++ [a]) ∧ Only [cs] g h' ∧ hpN h' = hpN g + 1 ∧ hpS h' ≤ hpS g + 100 := by
  obtain ⟨a1, a2, a3, a4, a5, a6, a7⟩ := H
  rcases a7 with ⟨q1, q2, q3, q4⟩ | ⟨k1, k2, k3, k4, k5, k6⟩
  · rw [q2] at hk; omega
  · obtain ⟨c, hc⟩ : ∃ c, c = l.length := ⟨_, rfl⟩
    obtain ⟨n, hn⟩ : ∃ n, n = c + c / 2 := ⟨_, rfl⟩
    obtain ⟨u, hu⟩ : ∃ u, u = nw g 73 n n := ⟨_, rfl⟩
    obtain ⟨v, hv⟩ : ∃ v, v = cpR u e 0 (hpN g) 0 c := ⟨_, rfl⟩
    obtain ⟨w, hw⟩ : ∃ w, w = wR v cs 0 (some (hpN g)) := ⟨_, rfl⟩
    have hcs : cs ≠ hpN g := by omega
    have uT : ∀ b, b < hpN g → hpT u b = hpT g b := fun b hb => by rw [hu]; exact if_neg (by omega)
    have uN : hpT u (hpN g) = 73 := by rw [hu]; exact if_pos rfl
    have uL : hpL u (hpN g) = n := by rw [hu]; exact if_pos rfl
    have vT : hpT v = hpT u := by rw [hv]; rfl
    have vL : hpL v = hpL u := by rw [hv]; rfl
    have wT : hpT w = hpT u := by rw [hw]; exact vT
    have wL : hpL w = hpL u := by rw [hw]; exact vL
    have wN : hpN w = hpN g + 1 := by rw [hw, hv, hu]; rfl
    have wS : hpS w = hpS g + n := by rw [hw, hv, hu]; rfl
    have e0 : f_Ar_copyOf1 E (some e) (nI n) g = some (some (hpN g), v) := by
      rw [hv, hu]
      exact cp_n (l := l) k1 k2 (by rw [hc]; exact hr.symm) (by omega) (by omega) hc k6 a5
    have e9 : j_A_grow2_20_M E cs (nI (c + 1)) (nI c) g = some (some (hpN g), w) := by
      unfold j_A_grow2_20_M
      rw [cl_s (nl_grow (c := c) (by omega) (by omega) g), ← hn, gd_t (isK_of a1), a4, cl_s e0, gd_t (isK_of (by rw [vT, uT cs a2]; exact a1)), nm_v, ← hw]
    have e2 : f_A_grow2 E cs (nI (c + 1)) g = some (some (hpN g), w) := by
      unfold f_A_grow2
      rw [gd_t (isK_of a1), dr_s a4, gd_t (isA6 (Or.inr k1)), ← hr, ← hc, if_pos (show (0 : Int32) < Int32.ofNat c from nI_lt (a := 0) (b := c) (by omega) (by omega))]
      exact e9
    have e1 : f_A_grow1 E cs g = some (some (hpN g), w) := by
      unfold f_A_grow1
      rw [gd_t (isK_of a1), a3, nI_1, ← hc, cl_s e2]
    have e3 := al_put (E := E) (cs := cs) (e := hpN g) (a := a) (n := c) (h := w) (by rw [wT, uT cs a2]; exact a1) (Or.inl (by rw [wT]; exact uN)) (by rw [wL, uL]; omega) (by rw [wL, uL]; omega) (by rw [wT, uT a ha.2]; exact ha.1)
    refine ⟨wI (wR w (hpN g) c (some a)) cs 1 (nI (c + 1)), ?_, ?_, ?_, wN, by show hpS w ≤ _; omega⟩
    · unfold f_A_add2
      rw [dr_s rfl, gd_t (isA6 (Or.inr k1)), ← hr, if_pos (show nI l.length = Int32.ofNat l.length from rfl), gd_t (isK_of a1), cl_s e1, ← hc]
      exact e3
    · refine ⟨by rw [T_wI, T_wR, wT, uT cs a2]; exact a1, by show cs < hpN w; omega, by rw [I_same, List.length_append, hc]; rfl, ?_, ?_, by rw [List.length_append]; show l.length + 1 ≤ 60; omega, Or.inr ⟨Or.inl (by rw [T_wI, T_wR, wT]; exact uN), by show hpN g < hpN w; omega, ?_, ?_, ?_, fun i hi => ?_⟩⟩
      · rw [R_wI, R_wR, if_neg (fun q => hcs q.1), hw, R_wR, if_pos ⟨rfl, rfl⟩]
      · intro b hb
        have hb2 : hpT g b ≤ 8 ∧ b < hpN g := by
          rcases List.mem_append.mp hb with q | q
          · exact a5 b q
          · rw [List.mem_singleton.mp q]; exact ha
        rw [T_wI, T_wR, wT, uT b hb2.2]
        exact ⟨hb2.1, by show b < hpN w; omega⟩
      · rw [L_wI, L_wR, wL, uL, List.length_append]; show l.length + 1 ≤ n; omega
      · rw [L_wI, L_wR, wL, uL]; omega
      · rw [L_wI, L_wR, wL, uL]; omega
      · rw [R_wI, R_wR]
        rw [List.length_append] at hi
        have hi : i < l.length + 1 := hi
        by_cases q : i = c
        · rw [if_pos ⟨rfl, q⟩, q, hc, List.getElem?_append_right (Nat.le_refl _), Nat.sub_self]; rfl
        · rw [if_neg (fun z => q z.2), List.getElem?_append_left (by omega), hw, R_wR, if_neg (fun z => hcs z.1.symm), hv]
          show (if hpN g = hpN g ∧ 0 ≤ i ∧ i < 0 + c then hpR u e (0 + (i - 0)) else hpR u (hpN g) i) = l[i]?
          rw [if_pos ⟨rfl, by omega, by omega⟩, hu]
          show (if e = hpN g then none else hpR g e (0 + (i - 0))) = l[i]?
          rw [if_neg (by omega), show 0 + (i - 0) = i by omega]
          exact k6 i (by omega)
    · have o : Only [cs, hpN g] g (wI (wR w (hpN g) c (some a)) cs 1 (nI (c + 1))) :=
        Only.trans (h1 := u) (by rw [hu]; exact on_nw) (Only.trans (h1 := v) (by rw [hv]; exact on_cR (by simp)) (Only.trans (h1 := w) (by rw [hw]; exact on_wR List.mem_cons_self) (Only.trans (h1 := wR w (hpN g) c (some a)) (on_wR (by simp)) (on_wI List.mem_cons_self))))
      exact o.mono (fun x hx hl => by
        have : x = cs ∨ x = hpN g := by simpa using hx
        rcases this with q | q
        · rw [q]; exact List.mem_cons_self
        · omega)
theorem al_add {E : Nat × Nat} {cs e a : Nat} {h : Hp} {l : List Nat} (H : AL E.1 h cs e l) (hl : l.length < 60) (ha : hpT h a ≤ 8 ∧ a < hpN h) :
    ∃ h' e', f_A_add1 E cs (some a) h = some (1, h') ∧ AL E.1 h' cs e' (l ++ [a]) ∧ Only [cs, e] h h' ∧ (e' = e ∨ (e' = hpN h ∧ e' < hpN h')) ∧ hpN h' ≤ hpN h + 1 ∧ hpS h' ≤ hpS h + 100 := by
  obtain ⟨g, hg⟩ : ∃ g, g = wI h cs 2 (hpI h cs 2 + 1) := ⟨_, rfl⟩
  have gN : hpN g = hpN h := by rw [hg]; rfl
  have gS : hpS g = hpS h := by rw [hg]; rfl
  have gT : hpT g = hpT h := by rw [hg]; rfl
  have gO : Only [cs, e] h g := by rw [hg]; exact on_wI List.mem_cons_self
  have G : AL E.1 g cs e l := H.keep (by omega) (fun b _ => by rw [hg]; exact ⟨rfl, rfl⟩) (by rw [hg]; exact I_ne (Or.inr (by decide))) (by rw [hg]; rfl) (fun _ i _ => by rw [hg]; rfl) (fun q => by rw [hg]; exact ⟨q, rfl⟩)
  have fin : ∀ h', f_A_add2 E cs (some a) (some e) (nI l.length) g = some h' → f_A_add1 E cs (some a) h = some (1, h') := by
    intro h' hf
    refine zbw_s ?_ zb_1
    unfold f0_A_add1
    rw [gd_t (isK_of H.1), nm_v, ← hg, G.2.2.2.1, G.2.2.1, cv_s hf]
  have hag : hpT g a ≤ 8 ∧ a < hpN g := by rw [gT, gN]; exact ha
  have G0 := G
  obtain ⟨a1, a2, a3, a4, a5, a6, a7⟩ := G
  rcases a7 with ⟨q1, q2, q3, q4⟩ | ⟨k1, k2, k3, k4, k5, k6⟩
  · subst q4
    subst q1
    obtain ⟨h', f1, f2, f3, f4, f5⟩ := al_first (E := E) a1 a2 a4 a3 q2 q3 hag
    exact ⟨h', hpN g, fin h' f1, f2, gO.trans (f3.mono (fun x hx _ => by rw [List.mem_singleton.mp hx]; exact List.mem_cons_self)), Or.inr ⟨gN, by omega⟩, by omega, by omega⟩
  · rcases Nat.lt_or_ge l.length (hpL g e) with q | q
    · obtain ⟨h', f1, f2, f3, f4, f5⟩ := al_room (E := E) G0 k1 q hl hag
      exact ⟨h', e, fin h' f1, f2, gO.trans f3, Or.inl rfl, by omega, by omega⟩
    · obtain ⟨h', f1, f2, f3, f4, f5⟩ := al_full (E := E) G0 k1 (by omega) hl hag
      exact ⟨h', hpN g, fin h' f1, f2, gO.trans (f3.mono (fun x hx _ => by rw [List.mem_singleton.mp hx]; exact List.mem_cons_self)), Or.inr ⟨gN, by omega⟩, by omega, by omega⟩
theorem al_last {cs e n : Nat} {h : Hp} (t1 : hpT h cs = 9) (t2 : hpT h e = 73 ∨ hpT h e = 74) (t3 : n < hpL h e) (t4 : hpL h e ≤ 100) : j_A_fastRemove_34_M cs (some e) (nI n) h = some (wR (wI h cs 1 (nI n)) e n none) := by
  unfold j_A_fastRemove_34_M
  rw [gd_t (isK_of t1), nm_v, dr_s rfl, gd_t (isO6 (h := wI h cs 1 (nI n)) t2), gd_t (inb_n (show n < hpL (wI h cs 1 (nI n)) e from t3) (by show hpL h e < _; omega)), gd_t (show asV _ none _ = true from rfl), nm_v, nI_clamp (by omega)]
theorem al_remove {e0 cs e i : Nat} {h : Hp} {l : List Nat} (H : AL e0 h cs e l) (hi : i < l.length) :
    ∃ h', f_A_remove cs (nI i) h = some (l[i]?, h') ∧ AL e0 h' cs e (l.eraseIdx i) ∧ Only [cs, e] h h' ∧ hpN h' = hpN h ∧ hpS h' = hpS h := by
  obtain ⟨a1, a2, a3, a4, a5, a6, a7⟩ := H
  rcases a7 with ⟨-, -, -, q⟩ | ⟨k1, k2, k3, k4, k5, k6⟩
  · subst q; exact absurd hi (Nat.not_lt_zero _)
  · have hne : cs ≠ e := ne_T (h := h) (by rw [a1]; omega)
    obtain ⟨n, hn⟩ : ∃ n, l.length = n + 1 := ⟨l.length - 1, by omega⟩
    obtain ⟨g, hg⟩ : ∃ g, g = wI h cs 2 (hpI h cs 2 + 1) := ⟨_, rfl⟩
    have gT : hpT g = hpT h := by rw [hg]; rfl
    have gL : hpL g = hpL h := by rw [hg]; rfl
    have gR : hpR g = hpR h := by rw [hg]; rfl
    have gI : hpI g cs 1 - 1 = nI n := by rw [hg, I_ne (Or.inr (by decide)), a3, hn, nI_pred]
    have key : ∃ u, f_A_fastRemove cs (some e) (nI i) h = some (wR (wI u cs 1 (nI n)) e n none) ∧ Only [cs, e] h u ∧ hpT u = hpT h ∧ hpL u = hpL h ∧ hpR u cs = hpR h cs ∧ hpN u = hpN h ∧ hpS u = hpS h ∧ ∀ j, j < n → hpR u e j = (l.eraseIdx i)[j]? := by
      have el : ∀ j, (l.eraseIdx i)[j]? = if j < i then l[j]? else l[j + 1]? := fun j => List.getElem?_eraseIdx
      by_cases q : n ≤ i
      · refine ⟨g, ?_, by rw [hg]; exact on_wI List.mem_cons_self, gT, gL, by rw [gR], by rw [hg]; rfl, by rw [hg]; rfl, fun j hj => ?_⟩
        · unfold f_A_fastRemove
          rw [gd_t (isK_of a1), nm_v, ← hg, gI, if_pos (nI_le q (by omega))]
          exact al_last (by rw [gT]; exact a1) (by rw [gT]; exact k1) (by rw [gL]; omega) (by rw [gL]; exact k5)
        · rw [gR, el j, if_pos (by omega)]; exact k6 j (by omega)
      · refine ⟨cpR g e (i + 1) e i (n - i), ?_, Only.trans (h1 := g) (by rw [hg]; exact on_wI List.mem_cons_self) (on_cR (by simp)), gT, gL, ?_, by rw [hg]; rfl, by rw [hg]; rfl, fun j hj => ?_⟩
        · have es : nI n - nI i = nI (n - i) := pk_sub (by omega)
          unfold f_A_fastRemove
          rw [gd_t (isK_of a1), nm_v, ← hg, gI, if_neg (nI_ge (by omega) (by omega)), dr_s rfl, gd_t (isO6 (by rw [gT]; exact k1)), nI_1, es]
          rw [gd_t (by
            unfold cpB
            rw [nI_clamp (by omega), nI_clamp (by omega), nI_clamp (by omega), gL, decide_eq_false (nI_pos (n := i + 1) (by omega)), decide_eq_false (nI_pos (n := i) (by omega)), decide_eq_false (nI_pos (n := n - i) (by omega)), Nat.ble_eq_true_of_le (by omega), Nat.ble_eq_true_of_le (by omega)]
            rfl)]
          rw [gd_t (by
            unfold cpE
            rw [List.all_eq_true]
            intro j hj
            rw [List.mem_range, nI_clamp (by omega)] at hj
            rw [nI_clamp (by omega), gR, k6 _ (by omega), List.getElem?_eq_getElem (by omega)]
            have hm : l[i + 1 + j]'(by omega) ∈ l := List.getElem_mem _
            show Nat.ble (hpT g _) 8 = true
            rw [gT]
            exact Nat.ble_eq_true_of_le (a5 _ hm).1), nm_v, nI_clamp (by omega), nI_clamp (by omega), nI_clamp (by omega)]
          exact al_last (show hpT g cs = 9 by rw [gT]; exact a1) (show hpT g e = 73 ∨ hpT g e = 74 by rw [gT]; exact k1) (show n < hpL g e by rw [gL]; omega) (show hpL g e ≤ 100 by rw [gL]; exact k5)
        · funext j
          show (if cs = e ∧ _ then _ else hpR g cs j) = hpR h cs j
          rw [if_neg (fun z => hne z.1), gR]
        · show (if e = e ∧ i ≤ j ∧ j < i + (n - i) then hpR g e (i + 1 + (j - i)) else hpR g e j) = _
          rw [el j, gR]
          by_cases z : i ≤ j
          · rw [if_pos ⟨rfl, z, by omega⟩, if_neg (by omega), k6 _ (by omega), show i + 1 + (j - i) = j + 1 by omega]
          · rw [if_neg (fun w => z w.2.1), if_pos (by omega)]; exact k6 j (by omega)
    obtain ⟨u, u1, u2, u3, u4, u5, u6, u7, u8⟩ := key
    have hlen : (l.eraseIdx i).length = n := by rw [List.length_eraseIdx_of_lt hi, hn]; rfl
    refine ⟨wR (wI u cs 1 (nI n)) e n none, ?_, ?_, ?_, u6, u7⟩
    · unfold f_A_remove
      rw [gd_t (isK_of a1), a3, cl_s (ck_ix hi (by omega) h), gd_t (isK_of a1), dr_s a4, gd_t (isO6 k1), gd_t (inb_n (by omega) (by omega)), a4, cv_s u1, nI_clamp (by omega), k6 i hi]
    · refine ⟨by rw [T_wR, T_wI, u3]; exact a1, by show cs < hpN u; omega, ?_, ?_, fun a ha => ?_, by rw [hlen]; omega, Or.inr ⟨by rw [T_wR, T_wI, u3]; exact k1, by show e < hpN u; omega, by rw [L_wR, L_wI, u4, hlen]; omega, by rw [L_wR, L_wI, u4]; exact k4, by rw [L_wR, L_wI, u4]; exact k5, fun j hj => ?_⟩⟩
      · rw [I_wR, I_same, hlen]
      · rw [R_wR, if_neg (fun z => hne z.1), R_wI, u5]; exact a4
      · have q := a5 a (List.mem_of_mem_eraseIdx ha)
        rw [T_wR, T_wI, u3]
        exact ⟨q.1, by show a < hpN u; omega⟩
      · rw [hlen] at hj
        rw [R_wR, if_neg (fun z => by omega), R_wI]
        exact u8 j hj
    · exact u2.trans (Only.trans (h1 := wI u cs 1 (nI n)) (on_wI List.mem_cons_self) (on_wR (by simp)))
theorem al_clear {e0 cs e : Nat} {h : Hp} {l : List Nat} (H : AL e0 h cs e l) : ∃ h', f_A_clear cs h = some h' ∧ AL e0 h' cs e [] ∧ Only [cs, e] h h' ∧ hpN h' = hpN h ∧ hpS h' = hpS h := by
  obtain ⟨a1, a2, a3, a4, a5, a6, a7⟩ := H
  have hne : cs ≠ e := by
    rcases a7 with ⟨q1, q2, q3, q4⟩ | ⟨k1, k2, k3, k4, k5, k6⟩
    · exact ne_T (h := h) (by rw [a1, q2]; decide)
    · exact ne_T (h := h) (by rw [a1]; omega)
  obtain ⟨g, hg⟩ : ∃ g, g = wI (wI h cs 2 (hpI h cs 2 + 1)) cs 1 0 := ⟨_, rfl⟩
  have gT : hpT g = hpT h := by rw [hg]; rfl
  have gL : hpL g = hpL h := by rw [hg]; rfl
  have gR : hpR g = hpR h := by rw [hg]; rfl
  have key : ∃ r, l_A_clear_27 (some e) (nI l.length) ((0 : Int32), g) = some r ∧ (Only [cs, e] g r ∧ hpT r = hpT g ∧ hpL r = hpL g ∧ hpI r = hpI g ∧ hpR r cs = hpR g cs ∧ hpN r = hpN g ∧ hpS r = hpS g) := by
    unfold l_A_clear_27
    refine lp_up (fun k s => s.1 = nI k ∧ (Only [cs, e] g s.2 ∧ hpT s.2 = hpT g ∧ hpL s.2 = hpL g ∧ hpI s.2 = hpI g ∧ hpR s.2 cs = hpR g cs ∧ hpN s.2 = hpN g ∧ hpS s.2 = hpS g)) _ l.length (by omega) ⟨rfl, Only.refl _ _, rfl, rfl, rfl, rfl, rfl, rfl⟩ (fun k s hk hs => Or.inl ?_) (fun s hs => ⟨s.2, ?_, hs.2⟩)
    · obtain ⟨i, r⟩ := s
      obtain ⟨b1, b2, b3, b4, b5, b6, b7, b8⟩ := hs
      dsimp only at b1 b2 b3 b4 b5 b6 b7 b8
      subst b1
      rcases a7 with ⟨q1, q2, q3, q4⟩ | ⟨k1, k2, k3, k4, k5, k6⟩
      · rw [q4] at hk; exact absurd hk (Nat.not_lt_zero _)
      · refine ⟨(nI (k + 1), wR r e k none), ?_, rfl, b2.trans (on_wR (by simp)), b3, b4, b5, ?_, b7, b8⟩
        · show b_A_clear_27 (some e) (nI l.length) (nI k) r = _
          unfold b_A_clear_27
          rw [if_neg (nI_ge hk (by omega)), dr_s rfl, gd_t (isO6 (by rw [b3, gT]; exact k1)), gd_t (inb_n (by rw [b4, gL]; omega) (by rw [b4, gL]; omega)), gd_t (show asV _ none _ = true from rfl), nm_v, nI_clamp (by omega), nI_1]
        · dsimp only
          rw [← b6]; funext j; exact if_neg (fun z => hne z.1)
    · obtain ⟨i, r⟩ := s
      have b1 := hs.1
      dsimp only at b1
      subst b1
      show b_A_clear_27 (some e) (nI l.length) (nI l.length) r = _
      unfold b_A_clear_27
      rw [if_pos (nI_le (Nat.le_refl _) (by omega))]
  obtain ⟨r, r1, r2, r3, r4, r5, r6, r7, r8⟩ := key
  refine ⟨r, ?_, ?_, ?_, by rw [r7, hg]; rfl, by rw [r8, hg]; rfl⟩
  · unfold f_A_clear
    rw [gd_t (isK_of a1), nm_v, nm_v, ← hg, R_wI, a4, I_ne (Or.inr (by decide)), a3, bd_s r1]
  · refine ⟨by rw [r3, gT]; exact a1, by rw [r7, hg]; exact a2, by rw [r5, hg]; exact I_same, by rw [r6, gR]; exact a4, fun a ha => (by cases ha), by decide, ?_⟩
    rcases a7 with ⟨q1, q2, q3, q4⟩ | ⟨k1, k2, k3, k4, k5, k6⟩
    · exact Or.inl ⟨q1, by rw [r3, gT]; exact q2, by rw [r4, gL]; exact q3, rfl⟩
    · exact Or.inr ⟨by rw [r3, gT]; exact k1, by rw [r7, hg]; exact k2, Nat.zero_le _, by rw [r4, gL]; exact k4, by rw [r4, gL]; exact k5, fun i hi => absurd hi (Nat.not_lt_zero _)⟩
  · refine Only.trans (h1 := g) ?_ r2
    rw [hg]
    exact Only.trans (on_wI List.mem_cons_self) (on_wI List.mem_cons_self)

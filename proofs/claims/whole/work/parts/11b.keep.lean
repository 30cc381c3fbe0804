/-! FRAMES: what a function may write: fields of objects (kind, field), and arrays (kind) -/
abbrev Wl : Type := List (Nat × Nat) × List Nat
def inW (w : Wl) (κ k : Nat) : Prop := (κ, k) ∈ w.1 ∨ κ ∈ w.2
def Keep (w : Wl) (h h' : Hp) : Prop := hpN h ≤ hpN h' ∧ hpS h ≤ hpS h' ∧ (∀ a, a < hpN h → hpT h' a = hpT h a ∧ hpL h' a = hpL h a) ∧ ∀ a, a < hpN h → ∀ k, ¬ inW w (hpT h a) k → hpI h' a k = hpI h a k ∧ hpR h' a k = hpR h a k
theorem Keep.refl (w : Wl) (h : Hp) : Keep w h h := ⟨Nat.le_refl _, Nat.le_refl _, fun _ _ => ⟨rfl, rfl⟩, fun _ _ _ _ => ⟨rfl, rfl⟩⟩
theorem Keep.trans {w : Wl} {h h1 h2 : Hp} (a : Keep w h h1) (b : Keep w h1 h2) : Keep w h h2 := by
  obtain ⟨a1, a2, a3, a4⟩ := a
  obtain ⟨b1, b2, b3, b4⟩ := b
  refine ⟨Nat.le_trans a1 b1, Nat.le_trans a2 b2, fun x hx => ?_, fun x hx k hk => ?_⟩
  · have q := b3 x (Nat.lt_of_lt_of_le hx a1)
    rw [q.1, q.2]; exact a3 x hx
  · have q := b4 x (Nat.lt_of_lt_of_le hx a1) k (by rw [(a3 x hx).1]; exact hk)
    rw [q.1, q.2]; exact a4 x hx k hk
theorem Keep.mono {w w' : Wl} {h h1 : Hp} (a : Keep w h h1) (m1 : ∀ x ∈ w.1, x ∈ w'.1 ∨ x.1 ∈ w'.2) (m2 : ∀ x ∈ w.2, x ∈ w'.2) : Keep w' h h1 := by
  obtain ⟨a1, a2, a3, a4⟩ := a
  refine ⟨a1, a2, a3, fun x hx k hk => a4 x hx k fun q => hk ?_⟩
  rcases q with q | q
  · exact m1 _ q
  · exact Or.inr (m2 _ q)
theorem kw_I {w : Wl} {h h1 : Hp} {a k κ : Nat} {v : Int32} (e : h1 = wI h a k v) (t : hpT h a = κ) (q : inW w κ k) : Keep w h h1 := by
  subst e
  refine ⟨Nat.le_refl _, Nat.le_refl _, fun _ _ => ⟨rfl, rfl⟩, fun b hb j hj => ⟨?_, rfl⟩⟩
  refine if_neg fun z => hj ?_
  rw [z.1, z.2, t]; exact q
theorem kw_R {w : Wl} {h h1 : Hp} {a k κ : Nat} {v : Option Nat} (e : h1 = wR h a k v) (t : hpT h a = κ) (q : inW w κ k) : Keep w h h1 := by
  subst e
  refine ⟨Nat.le_refl _, Nat.le_refl _, fun _ _ => ⟨rfl, rfl⟩, fun b hb j hj => ⟨rfl, ?_⟩⟩
  refine if_neg fun z => hj ?_
  rw [z.1, z.2, t]; exact q
theorem kw_IP {w : Wl} {h h1 : Hp} {a k : Nat} {v : Int32} (e : h1 = wI h a k v) (t : isPg h a = true) (q3 : inW w 3 k) (q4 : inW w 4 k) (q6 : inW w 6 k) : Keep w h h1 := by
  rcases isPg_eq t with z | z | z
  · exact kw_I e z q3
  · exact kw_I e z q4
  · exact kw_I e z q6
theorem kw_RP {w : Wl} {h h1 : Hp} {a k : Nat} {v : Option Nat} (e : h1 = wR h a k v) (t : isPg h a = true) (q3 : inW w 3 k) (q4 : inW w 4 k) (q6 : inW w 6 k) : Keep w h h1 := by
  rcases isPg_eq t with z | z | z
  · exact kw_R e z q3
  · exact kw_R e z q4
  · exact kw_R e z q6
theorem kw_N {w : Wl} {h h1 : Hp} {κ n m : Nat} (e : h1 = nw h κ n m) : Keep w h h1 := by
  subst e
  refine ⟨Nat.le_succ _, Nat.le_add_right _ _, fun b hb => ⟨if_neg (by omega), if_neg (by omega)⟩, fun b hb j hj => ⟨if_neg (by omega), if_neg (by omega)⟩⟩
theorem kw_cI {w : Wl} {h h1 : Hp} {a sp b dp n κ : Nat} (e : h1 = cpI h a sp b dp n) (t : hpT h b = κ) (q : κ ∈ w.2) : Keep w h h1 := by
  subst e
  refine ⟨Nat.le_refl _, Nat.le_refl _, fun _ _ => ⟨rfl, rfl⟩, fun x hx j hj => ⟨?_, rfl⟩⟩
  refine if_neg fun z => hj ?_
  rw [z.1, t]; exact Or.inr q
theorem kw_cR {w : Wl} {h h1 : Hp} {a sp b dp n κ : Nat} (e : h1 = cpR h a sp b dp n) (t : hpT h b = κ) (q : κ ∈ w.2) : Keep w h h1 := by
  subst e
  refine ⟨Nat.le_refl _, Nat.le_refl _, fun _ _ => ⟨rfl, rfl⟩, fun x hx j hj => ⟨rfl, ?_⟩⟩
  refine if_neg fun z => hj ?_
  rw [z.1, t]; exact Or.inr q
theorem ao6 {κ : Nat} (h1 : 66 ≤ κ) (h2 : aty κ = 6) : κ = 73 ∨ κ = 74 := by
  rcases Nat.lt_or_ge κ 120 with q | q
  · have h3 : ∀ j, j < 120 → 66 ≤ j → aty j = 6 → j = 73 ∨ j = 74 := by decide
    exact h3 κ q h1 h2
  · exfalso
    unfold aty at h2
    have h4 : kat.length ≤ κ - 64 := by have : kat.length ≤ 50 := by decide
                                        omega
    rw [List.getD_eq_getElem?_getD, List.getElem?_eq_none h4] at h2
    cases h2
theorem kw_RO {w : Wl} {h h1 : Hp} {a k : Nat} {v : Option Nat} (e : h1 = wR h a k v) (g : isO h a 6 = true) (q1 : 73 ∈ w.2) (q2 : 74 ∈ w.2) : Keep w h h1 := by
  rcases ao6 (isO_eq g).1 (isO_eq g).2 with z | z
  · exact kw_R e z (Or.inr q1)
  · exact kw_R e z (Or.inr q2)
theorem kw_cO {w : Wl} {h h1 : Hp} {a sp b dp n : Nat} (e : h1 = cpR h a sp b dp n) (g : isO h b 6 = true) (q1 : 73 ∈ w.2) (q2 : 74 ∈ w.2) : Keep w h h1 := by
  rcases ao6 (isO_eq g).1 (isO_eq g).2 with z | z
  · exact kw_cR e z q1
  · exact kw_cR e z q2
theorem lpk {S R : Type} {b : S → Option (S ⊕ R)} {w : Wl} {sh : S → Hp} {rh : R → Hp} (hb : ∀ s q, b s = some q → Keep w (sh s) (Sum.elim sh rh q)) : ∀ (n : Nat) (s : S) (r : R), lp b n s = some r → Keep w (sh s) (rh r) := by
  intro n
  induction n with
  | zero => intro s r hl; cases hl
  | succ n ih =>
    intro s r hl
    rcases lp_some hl with ⟨s2, h1, h2⟩ | h1
    · exact (hb s _ h1).trans (ih s2 r h2)
    · exact hb s _ h1

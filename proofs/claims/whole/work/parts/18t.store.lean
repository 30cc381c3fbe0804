/-! the store: all pages that were written, by keys 32 * id + place; a page is its kind (0 leaf, 1 root, 2 meta), its leads, its values, its map, its number -/
abbrev Pg : Type := Nat × (Nat → Nat) × (Nat → Option Int32) × Nat × Nat
def kd (st : Nat → Pg) (k : Nat) : Nat := (st k).1
def ld (st : Nat → Pg) (k m : Nat) : Nat := (st k).2.1 m
def lfv (st : Nat → Pg) (k x : Nat) : Option Int32 := (st k).2.2.1 x
def pmp (st : Nat → Pg) (k : Nat) : Nat := (st k).2.2.2.1
def pwh (st : Nat → Pg) (k : Nat) : Nat := (st k).2.2.2.2
def vk (np : Nat → Nat) (nxt k : Nat) : Prop := 1 ≤ k / 32 ∧ k / 32 < nxt ∧ k % 32 < np (k / 32)
theorem vk.pos {np : Nat → Nat} {nxt k : Nat} (v : vk np nxt k) : 32 ≤ k := by
  have := v.1
  omega
/-- a sound store -/
def SW (st : Nat → Pg) (fs np : Nat → Nat) (nxt : Nat) : Prop := nxt < 2 ^ 14 ∧ (∀ id, 1 ≤ id → id < nxt → 1 ≤ np id ∧ np id ≤ 21 ∧ fs id + (np id + 1) / 2 ≤ 32) ∧ ∀ k, vk np nxt k → (kd st k ≤ 2 ∧ (kd st k = 2 ↔ k % 32 + 1 = np (k / 32)) ∧ pmp st k < 4 ∧ pwh st k < 2 ^ 20) ∧
  (kd st k = 0 → pwh st k < 4) ∧
  (kd st k = 2 → ∀ m, m < 4 → ld st k m = 0 ∨ (vk np nxt (ld st k m) ∧ kd st (ld st k m) = 1 ∧ ld st k m / 32 ≤ k / 32 ∧ pmp st (ld st k m) = m)) ∧
  (kd st k = 1 → ∀ j, j < 4 → ld st k j = 0 ∨ (vk np nxt (ld st k j) ∧ kd st (ld st k j) = 0 ∧ ld st k j / 32 ≤ k / 32 ∧ pmp st (ld st k j) = pmp st k ∧ pwh st (ld st k j) = j))
theorem SW.lt {st : Nat → Pg} {fs np : Nat → Nat} {nxt k : Nat} (S : SW st fs np nxt) (v : vk np nxt k) : k < 2 ^ 19 := by
  have := S.1
  have := v.2.1
  omega
theorem SW.root {st : Nat → Pg} {fs np : Nat → Nat} {nxt k m : Nat} (S : SW st fs np nxt) (v : vk np nxt k) (h2 : kd st k = 2) (hm : m < 4) (h0 : ld st k m ≠ 0) : vk np nxt (ld st k m) ∧ kd st (ld st k m) = 1 ∧ ld st k m / 32 ≤ k / 32 ∧ pmp st (ld st k m) = m := ((S.2.2 k v).2.2.1 h2 m hm).resolve_left h0
theorem SW.leaf {st : Nat → Pg} {fs np : Nat → Nat} {nxt k j : Nat} (S : SW st fs np nxt) (v : vk np nxt k) (h1 : kd st k = 1) (hj : j < 4) (h0 : ld st k j ≠ 0) : vk np nxt (ld st k j) ∧ kd st (ld st k j) = 0 ∧ ld st k j / 32 ≤ k / 32 ∧ pmp st (ld st k j) = pmp st k ∧ pwh st (ld st k j) = j := ((S.2.2 k v).2.2.2 h1 j hj).resolve_left h0
/-- the leaf j of the map m that a meta leads to -/
def lk2 (st : Nat → Pg) (k m j : Nat) : Nat := if ld st k m = 0 then 0 else ld st (ld st k m) j
theorem SW.lkk {st : Nat → Pg} {fs np : Nat → Nat} {nxt k m j : Nat} (S : SW st fs np nxt) (v : vk np nxt k) (h2 : kd st k = 2) (hm : m < 4) (hj : j < 4) (h0 : lk2 st k m j ≠ 0) : vk np nxt (lk2 st k m j) ∧ kd st (lk2 st k m j) = 0 ∧ lk2 st k m j / 32 ≤ k / 32 ∧ pmp st (lk2 st k m j) = m ∧ pwh st (lk2 st k m j) = j := by
  unfold lk2 at h0 ⊢
  by_cases c : ld st k m = 0
  · rw [if_pos c] at h0; exact absurd rfl h0
  · rw [if_neg c] at h0 ⊢
    obtain ⟨a1, a2, a3, a4⟩ := S.root v h2 hm c
    obtain ⟨b1, b2, b3, b4, b5⟩ := S.leaf a1 a2 hj h0
    exact ⟨b1, b2, Nat.le_trans b3 a3, by rw [b4, a4], b5⟩
/-- what a version reads -/
def rdv (st : Nat → Pg) (k m x : Nat) : Option Int32 := if k = 0 then none else if lk2 st k m (x / 8) = 0 then none else lfv st (lk2 st k m (x / 8)) (x % 8)
/-- what is reached -/
def rl (st : Nat → Pg) (r n x : Nat) : Bool := (List.range n).any fun j => decide (ld st r j ≠ 0) && decide (x = ld st r j)
def rr (st : Nat → Pg) (k n x : Nat) : Bool := (List.range n).any fun m => decide (ld st k m ≠ 0) && (decide (x = ld st k m) || rl st (ld st k m) 4 x)
def rcb (st : Nat → Pg) (k x : Nat) : Bool := decide (x = k) || rr st k 4 x
def lvb (st : Nat → Pg) (vers : List Vt) (x : Nat) : Bool := vers.any fun t => decide (t.2.2 ≠ 0) && rcb st t.2.2 x
theorem rl_s (st : Nat → Pg) (r n x : Nat) : rl st r (n + 1) x = (rl st r n x || (decide (ld st r n ≠ 0) && decide (x = ld st r n))) := by
  unfold rl
  rw [List.range_succ, List.any_append, List.any_cons, List.any_nil, Bool.or_false]
theorem rr_s (st : Nat → Pg) (k n x : Nat) : rr st k (n + 1) x = (rr st k n x || (decide (ld st k n ≠ 0) && (decide (x = ld st k n) || rl st (ld st k n) 4 x))) := by
  unfold rr
  rw [List.range_succ, List.any_append, List.any_cons, List.any_nil, Bool.or_false]
theorem rl_t {st : Nat → Pg} {r n x : Nat} : rl st r n x = true ↔ ∃ j, j < n ∧ ld st r j ≠ 0 ∧ x = ld st r j := by
  unfold rl
  rw [any_t]
  simp only [Bool.and_eq_true, decide_eq_true_eq]
theorem rr_t {st : Nat → Pg} {k n x : Nat} : rr st k n x = true ↔ ∃ m, m < n ∧ ld st k m ≠ 0 ∧ (x = ld st k m ∨ ∃ j, j < 4 ∧ ld st (ld st k m) j ≠ 0 ∧ x = ld st (ld st k m) j) := by
  unfold rr
  rw [any_t]
  simp only [Bool.and_eq_true, decide_eq_true_eq, Bool.or_eq_true, rl_t]
theorem rcb_t {st : Nat → Pg} {k x : Nat} : rcb st k x = true ↔ x = k ∨ (∃ m, m < 4 ∧ ld st k m ≠ 0 ∧ x = ld st k m) ∨ ∃ m j, m < 4 ∧ j < 4 ∧ lk2 st k m j ≠ 0 ∧ x = lk2 st k m j := by
  unfold rcb
  rw [Bool.or_eq_true, decide_eq_true_eq, rr_t]
  constructor
  · rintro (q | ⟨m, hm, h0, q | ⟨j, hj, h1, q⟩⟩)
    · exact Or.inl q
    · exact Or.inr (Or.inl ⟨m, hm, h0, q⟩)
    · exact Or.inr (Or.inr ⟨m, j, hm, hj, by unfold lk2; rw [if_neg h0]; exact h1, by unfold lk2; rw [if_neg h0]; exact q⟩)
  · rintro (q | ⟨m, hm, h0, q⟩ | ⟨m, j, hm, hj, h1, q⟩)
    · exact Or.inl q
    · exact Or.inr ⟨m, hm, h0, Or.inl q⟩
    · unfold lk2 at h1 q
      by_cases c : ld st k m = 0
      · rw [if_pos c] at h1; exact absurd rfl h1
      · rw [if_neg c] at h1 q
        exact Or.inr ⟨m, hm, c, Or.inr ⟨j, hj, h1, q⟩⟩
theorem dec_n {p : Nat} (h : p = 0) : decide (p ≠ 0) = false := decide_eq_false (fun z => z h)
theorem dec_p {p : Nat} (h : p ≠ 0) : decide (p ≠ 0) = true := decide_eq_true h
theorem lvb_t {st : Nat → Pg} {vers : List Vt} {x : Nat} : lvb st vers x = true ↔ ∃ t ∈ vers, t.2.2 ≠ 0 ∧ rcb st t.2.2 x = true := by
  unfold lvb
  rw [List.any_eq_true]
  simp only [Bool.and_eq_true, decide_eq_true_eq]
theorem SW.rc {st : Nat → Pg} {fs np : Nat → Nat} {nxt k x : Nat} (S : SW st fs np nxt) (v : vk np nxt k) (h2 : kd st k = 2) (h : rcb st k x = true) : vk np nxt x ∧ x / 32 ≤ k / 32 := by
  rcases rcb_t.mp h with q | ⟨m, hm, h0, q⟩ | ⟨m, j, hm, hj, h0, q⟩
  · rw [q]; exact ⟨v, Nat.le_refl _⟩
  · obtain ⟨a1, a2, a3, a4⟩ := S.root v h2 hm h0
    rw [q]; exact ⟨a1, a3⟩
  · obtain ⟨a1, a2, a3, a4⟩ := S.lkk v h2 hm hj h0
    rw [q]; exact ⟨a1, a3⟩
/-! the class's pages -/
/-- what a page's object holds; its array lies right behind it -/
def CO (h : Hp) (a : Nat) (pa : Nat → Nat) (pg : Pg) : Prop :=
  (pg.1 = 0 ∧ hpT h a = 3 ∧ hpR h a 3 = some (a + 1) ∧ hpT h (a + 1) = 106 ∧ hpL h (a + 1) = 8 ∧ a + 1 < hpN h ∧ (∀ x, x < 8 → bt (hpI h a 4) x = (pg.2.2.1 x).isSome ∧ ∀ w, pg.2.2.1 x = some w → hpI h (a + 1) x = w) ∧ ∀ x, 8 ≤ x → bt (hpI h a 4) x = false) ∨
  (pg.1 = 1 ∧ hpT h a = 6 ∧ hpR h a 3 = some (a + 1) ∧ hpT h (a + 1) = 105 ∧ hpL h (a + 1) = 4 ∧ a + 1 < hpN h ∧ ∀ j, j < 4 → hpR h (a + 1) j = ck pa (pg.2.1 j)) ∨
  (pg.1 = 2 ∧ hpT h a = 4 ∧ hpI h a 3 = nI pg.2.2.2.2 ∧ hpR h a 4 = some (a + 1) ∧ hpT h (a + 1) = 104 ∧ hpL h (a + 1) = 4 ∧ a + 1 < hpN h ∧ ∀ m, m < 4 → hpR h (a + 1) m = ck pa (pg.2.1 m))
def PO (h : Hp) (ca pa : Nat → Nat) (st : Nat → Pg) (k : Nat) : Prop := pa k < hpN h ∧ hpR h (pa k) 0 = some (ca (k / 32)) ∧ hpI h (pa k) 1 = nI (k % 32) ∧ CO h (pa k) pa (st k)
theorem CO.kk {h : Hp} {a : Nat} {pa : Nat → Nat} {pg : Pg} (P : CO h a pa pg) : (hpT h a = 3 ∨ hpT h a = 4 ∨ hpT h a = 6) ∧ (103 < hpT h (a + 1) ∧ hpT h (a + 1) ≤ 106) ∧ a + 1 < hpN h := by
  rcases P with q | q | q
  · refine ⟨Or.inl q.2.1, ?_, q.2.2.2.2.2.1⟩
    have := q.2.2.2.1
    omega
  · refine ⟨Or.inr (Or.inr q.2.1), ?_, q.2.2.2.2.2.1⟩
    have := q.2.2.2.1
    omega
  · refine ⟨Or.inr (Or.inl q.2.1), ?_, q.2.2.2.2.2.2.1⟩
    have := q.2.2.2.2.1
    omega
theorem CO.at {h h' : Hp} {a : Nat} {pa pa' : Nat → Nat} {pg : Pg} (P : CO h a pa pg) (n : hpN h ≤ hpN h') (t1 : hpT h' a = hpT h a) (t2 : hpT h' (a + 1) = hpT h (a + 1)) (t3 : hpL h' (a + 1) = hpL h (a + 1)) (e1 : ∀ k, 3 ≤ k → hpI h' a k = hpI h a k ∧ hpR h' a k = hpR h a k) (e2 : hpI h' (a + 1) = hpI h (a + 1) ∧ hpR h' (a + 1) = hpR h (a + 1)) (e3 : pg.1 ≠ 0 → ∀ j, j < 4 → pg.2.1 j ≠ 0 → pa' (pg.2.1 j) = pa (pg.2.1 j)) : CO h' a pa' pg := by
  have ec : pg.1 ≠ 0 → ∀ j, j < 4 → ck pa' (pg.2.1 j) = ck pa (pg.2.1 j) := fun hp j hj => by
    by_cases c : pg.2.1 j = 0
    · rw [c, ck_0, ck_0]
    · rw [ck_s c, ck_s c, e3 hp j hj c]
  unfold CO at *
  rw [t1, t2, t3, e2.1, e2.2, (e1 3 (by decide)).1, (e1 3 (by decide)).2, (e1 4 (by decide)).1, (e1 4 (by decide)).2]
  rcases P with q | q | q
  · exact Or.inl ⟨q.1, q.2.1, q.2.2.1, q.2.2.2.1, q.2.2.2.2.1, Nat.lt_of_lt_of_le q.2.2.2.2.2.1 n, q.2.2.2.2.2.2⟩
  · exact Or.inr (Or.inl ⟨q.1, q.2.1, q.2.2.1, q.2.2.2.1, q.2.2.2.2.1, Nat.lt_of_lt_of_le q.2.2.2.2.2.1 n, fun j hj => by rw [ec (by rw [q.1]; decide) j hj]; exact q.2.2.2.2.2.2 j hj⟩)
  · exact Or.inr (Or.inr ⟨q.1, q.2.1, q.2.2.1, q.2.2.2.1, q.2.2.2.2.1, q.2.2.2.2.2.1, Nat.lt_of_lt_of_le q.2.2.2.2.2.2.1 n, fun j hj => by rw [ec (by rw [q.1]; decide) j hj]; exact q.2.2.2.2.2.2.2 j hj⟩)
theorem PO.leaf {h : Hp} {ca pa : Nat → Nat} {st : Nat → Pg} {k : Nat} (P : PO h ca pa st k) (hk : kd st k = 0) : hpT h (pa k) = 3 ∧ hpR h (pa k) 3 = some (pa k + 1) ∧ hpT h (pa k + 1) = 106 ∧ hpL h (pa k + 1) = 8 ∧ pa k + 1 < hpN h ∧ (∀ x, x < 8 → bt (hpI h (pa k) 4) x = (lfv st k x).isSome ∧ ∀ w, lfv st k x = some w → hpI h (pa k + 1) x = w) ∧ ∀ x, 8 ≤ x → bt (hpI h (pa k) 4) x = false := by
  unfold kd at hk
  obtain ⟨-, -, -, q | q | q⟩ := P
  · exact q.2
  · rw [q.1] at hk; cases hk
  · rw [q.1] at hk; cases hk
theorem PO.root {h : Hp} {ca pa : Nat → Nat} {st : Nat → Pg} {k : Nat} (P : PO h ca pa st k) (hk : kd st k = 1) : hpT h (pa k) = 6 ∧ hpR h (pa k) 3 = some (pa k + 1) ∧ hpT h (pa k + 1) = 105 ∧ hpL h (pa k + 1) = 4 ∧ pa k + 1 < hpN h ∧ ∀ j, j < 4 → hpR h (pa k + 1) j = ck pa (ld st k j) := by
  unfold kd at hk
  obtain ⟨-, -, -, q | q | q⟩ := P
  · rw [q.1] at hk; cases hk
  · exact q.2
  · rw [q.1] at hk; cases hk
theorem PO.meta {h : Hp} {ca pa : Nat → Nat} {st : Nat → Pg} {k : Nat} (P : PO h ca pa st k) (hk : kd st k = 2) : hpT h (pa k) = 4 ∧ hpI h (pa k) 3 = nI (pwh st k) ∧ hpR h (pa k) 4 = some (pa k + 1) ∧ hpT h (pa k + 1) = 104 ∧ hpL h (pa k + 1) = 4 ∧ pa k + 1 < hpN h ∧ ∀ m, m < 4 → hpR h (pa k + 1) m = ck pa (ld st k m) := by
  unfold kd at hk
  obtain ⟨-, -, -, q | q | q⟩ := P
  · rw [q.1] at hk; cases hk
  · rw [q.1] at hk; cases hk
  · exact q.2
theorem PO.kk {h : Hp} {ca pa : Nat → Nat} {st : Nat → Pg} {k : Nat} (P : PO h ca pa st k) : hpT h (pa k) = 3 ∨ hpT h (pa k) = 4 ∨ hpT h (pa k) = 6 := P.2.2.2.kk.1
theorem PO.pg {h : Hp} {ca pa : Nat → Nat} {st : Nat → Pg} {k : Nat} (P : PO h ca pa st k) : isPg h (pa k) = true := by
  rcases P.kk with q | q | q
  · exact isPg_3 q
  · exact isPg_4 q
  · exact isPg_6 q
def XG (h : Hp) (ca ka pa : Nat → Nat) (st : Nat → Pg) (fs np : Nat → Nat) (nxt : Nat) : Prop := ∀ id, 1 ≤ id → id < nxt → KO h (ca id) (ka id) id (fs id) (np id) ∧ hpR h (ca id) 4 = some (pa (32 * id + np id - 1)) ∧ ∀ i, i < np id → hpR h (ka id) i = some (pa (32 * id + i)) ∧ PO h ca pa st (32 * id + i)
theorem XG.po {h : Hp} {ca ka pa : Nat → Nat} {st : Nat → Pg} {fs np : Nat → Nat} {nxt k : Nat} (G : XG h ca ka pa st fs np nxt) (v : vk np nxt k) : PO h ca pa st k := by
  have := ((G (k / 32) v.1 v.2.1).2.2 (k % 32) v.2.2).2
  rwa [Nat.div_add_mod] at this
theorem XG.ca {h : Hp} {ca ka pa : Nat → Nat} {st : Nat → Pg} {fs np : Nat → Nat} {nxt a b : Nat} (G : XG h ca ka pa st fs np nxt) (S : SW st fs np nxt) (ha : 1 ≤ a) (ha2 : a < nxt) (hb : 1 ≤ b) (hb2 : b < nxt) (e : ca a = ca b) : a = b := by
  have p := (G a ha ha2).1.2.2.1
  have q := (G b hb hb2).1.2.2.1
  have := S.1
  rw [e, q] at p
  exact ((nI_eq (by omega) (by omega)).mp p).symm
theorem XG.pa {h : Hp} {ca ka pa : Nat → Nat} {st : Nat → Pg} {fs np : Nat → Nat} {nxt a b : Nat} (G : XG h ca ka pa st fs np nxt) (S : SW st fs np nxt) (va : vk np nxt a) (vb : vk np nxt b) (e : pa a = pa b) : a = b := by
  have p := G.po va
  have q := G.po vb
  have h1 := p.2.1
  rw [e, q.2.1] at h1
  have h2 := G.ca S vb.1 vb.2.1 va.1 va.2.1 (Option.some.inj h1)
  have h3 := p.2.2.1
  rw [e, q.2.2.1] at h3
  have h4 := (nI_eq (by omega) (by omega)).mp h3
  omega
/-- what keeps the pages (but their marks) -/
def Sx (h h' : Hp) : Prop := hpN h ≤ hpN h' ∧ ∀ a, a < hpN h → hpT h' a = hpT h a ∧ hpL h' a = hpL h a ∧ ∀ k, ((hpT h a = 2 ∧ k ≠ 3) ∨ ((hpT h a = 3 ∨ hpT h a = 4 ∨ hpT h a = 6) ∧ k ≠ 2) ∨ (103 ≤ hpT h a ∧ hpT h a ≤ 106)) → hpI h' a k = hpI h a k ∧ hpR h' a k = hpR h a k
theorem Sx.trans {h h1 h2 : Hp} (a : Sx h h1) (b : Sx h1 h2) : Sx h h2 := by
  refine ⟨Nat.le_trans a.1 b.1, fun x hx => ?_⟩
  obtain ⟨p1, p2, p3⟩ := a.2 x hx
  obtain ⟨q1, q2, q3⟩ := b.2 x (Nat.lt_of_lt_of_le hx a.1)
  refine ⟨q1.trans p1, q2.trans p2, fun k hk => ?_⟩
  obtain ⟨u1, u2⟩ := p3 k hk
  obtain ⟨w1, w2⟩ := q3 k (by rw [p1]; exact hk)
  exact ⟨w1.trans u1, w2.trans u2⟩
def okX (w : Wl) : Bool := w.1.all (fun x => (!decide (x.1 = 2) || decide (x.2 = 3)) && ((!decide (x.1 = 3) && (!decide (x.1 = 4) && !decide (x.1 = 6))) || decide (x.2 = 2)) && (decide (x.1 < 103) || decide (106 < x.1))) && w.2.all fun x => !decide (x = 2) && (!decide (x = 3) && (!decide (x = 4) && (!decide (x = 6) && (decide (x < 103) || decide (106 < x)))))
theorem Sx.k {h h' : Hp} {w : Wl} (K : Keep w h h') (hw : okX w = true) : Sx h h' := by
  unfold okX at hw
  rw [Bool.and_eq_true, List.all_eq_true, List.all_eq_true] at hw
  obtain ⟨w1, w2⟩ := hw
  refine ⟨K.1, fun a ha => ⟨(K.2.2.1 a ha).1, (K.2.2.1 a ha).2, fun k hk => K.2.2.2 a ha k ?_⟩⟩
  rintro (q | q)
  · have := w1 _ q
    simp only [Bool.and_eq_true, Bool.or_eq_true, decide_eq_true_eq, Bool.not_eq_true', decide_eq_false_iff_not] at this
    omega
  · have := w2 _ q
    simp only [Bool.and_eq_true, Bool.or_eq_true, decide_eq_true_eq, Bool.not_eq_true', decide_eq_false_iff_not] at this
    omega
theorem Sx.o {h h' : Hp} {L : List Nat} (K : Only L h h') (hw : ∀ a ∈ L, a < hpN h → hpT h a ≠ 2 ∧ hpT h a ≠ 3 ∧ hpT h a ≠ 4 ∧ hpT h a ≠ 6 ∧ (hpT h a < 103 ∨ 106 < hpT h a)) : Sx h h' := by
  refine ⟨K.1, fun a ha => ⟨(K.2.2.1 a ha).1, (K.2.2.1 a ha).2, fun k hk => ?_⟩⟩
  have n : a ∉ L := fun z => by
    have := hw a z ha
    omega
  obtain ⟨q1, q2⟩ := K.2.2.2 a ha n
  rw [q1, q2]; exact ⟨rfl, rfl⟩
theorem PO.ext {h h' : Hp} {ca pa : Nat → Nat} {st : Nat → Pg} {k : Nat} (P : PO h ca pa st k) (s : Sx h h') : PO h' ca pa st k := by
  obtain ⟨p1, p2, p3, p4⟩ := P
  obtain ⟨k1, k2, k3⟩ := p4.kk
  obtain ⟨s1, s2⟩ := s
  obtain ⟨t1, t2, t3⟩ := s2 _ p1
  obtain ⟨u1, u2, u3⟩ := s2 _ k3
  have g : ∀ j, j ≠ 2 → hpI h' (pa k) j = hpI h (pa k) j ∧ hpR h' (pa k) j = hpR h (pa k) j := fun j hj => t3 j (Or.inr (Or.inl ⟨k1, hj⟩))
  have g2 := fun x => u3 x (Or.inr (Or.inr (by omega)))
  exact ⟨by omega, by rw [(g 0 (by decide)).2]; exact p2, by rw [(g 1 (by decide)).1]; exact p3, p4.at s1 t1 u1 u2 (fun j hj => g j (by omega)) ⟨funext fun x => (g2 x).1, funext fun x => (g2 x).2⟩ (fun _ _ _ _ => rfl)⟩
theorem KO.ext {h h' : Hp} {k ar id fs np : Nat} (K : KO h k ar id fs np) (s : Sx h h') : KO h' k ar id fs np := by
  obtain ⟨k1, k2, k3, k4, k5, k6, k7, k8⟩ := K
  obtain ⟨s1, s2⟩ := s
  obtain ⟨t1, t2, t3⟩ := s2 _ k2
  obtain ⟨u1, u2, u3⟩ := s2 _ k8
  have g : ∀ j, j ≠ 3 → hpI h' k j = hpI h k j ∧ hpR h' k j = hpR h k j := fun j hj => t3 j (Or.inl ⟨k1, hj⟩)
  exact ⟨by rw [t1]; exact k1, by omega, by rw [(g 0 (by decide)).1]; exact k3, by rw [(g 1 (by decide)).1]; exact k4, by rw [(g 2 (by decide)).2]; exact k5, by rw [u1]; exact k6, by rw [u2]; exact k7, by omega⟩
theorem XG.ext {h h' : Hp} {ca ka pa : Nat → Nat} {st : Nat → Pg} {fs np : Nat → Nat} {nxt : Nat} (G : XG h ca ka pa st fs np nxt) (s : Sx h h') : XG h' ca ka pa st fs np nxt := by
  intro id h1 h2
  obtain ⟨K, g1, g2⟩ := G id h1 h2
  obtain ⟨u1, u2, u3⟩ := s.2 _ K.2.2.2.2.2.2.2
  refine ⟨K.ext s, ?_, fun i hi => ⟨?_, (g2 i hi).2.ext s⟩⟩
  · rw [((s.2 _ K.2.1).2.2 4 (Or.inl ⟨K.1, by decide⟩)).2]; exact g1
  · rw [(u3 i (Or.inr (Or.inr (by have := K.2.2.2.2.2.1; omega)))).2]; exact (g2 i hi).1
/-! reading a version, class -/
theorem e_leafOf {h : Hp} {ca ka pa : Nat → Nat} {st : Nat → Pg} {fs np : Nat → Nat} {nxt k m j : Nat} (G : XG h ca ka pa st fs np nxt) (S : SW st fs np nxt) (v : vk np nxt k) (h2 : kd st k = 2) (hm : m < 4) (hj : j < 4) : f_E_leafOf (pa k) (nI m) (nI j) h = some (ck pa (lk2 st k m j), h) := by
  obtain ⟨a1, a2, a3, a4, a5, a6, a7⟩ := (G.po v).meta h2
  unfold f_E_leafOf lk2
  have a8 := a7 m hm
  by_cases c : ld st k m = 0
  · rw [c, ck_0] at a8
    rw [if_pos c, ck_0]
    simp (disch := omega) only [gd_T, dr_S, nm_v, cl_S, cv_S, bd_S, lk_L, lk_R, zbw_b, isK_e, isPg_3, isPg_4, isPg_6, asV_n, beq_self_eq_true, inb_N, inb_0, le_T, le_F, lt_T, lt_F, eq_F, le_0T, lt_0F, le_0F, eq_0F, nI_1, nI_add, pk_mul, nI_clamp, cl_0, if_true, if_false, of_nI, T_wI, L_wI, R_wI, N_wI, S_wI, T_wR, L_wR, I_wR, N_wR, S_wR, I_same, R_same, I_wIn, I_wIk, R_wRn, R_wRk, T_nwo, T_nwn, L_nwo, L_nwn, I_nwo, I_nwn, R_nwo, R_nwn, N_nw, S_nw, nar_1, nar_0, nar_01, b01_t0, b01_f0, b01_t1, b01_f1, ne_sn, eq_sn, sn_inj, a1, a3, a4, a5, a8]
  · rw [ck_s c] at a8
    obtain ⟨b1, b2, -⟩ := S.root v h2 hm c
    obtain ⟨c1, c3, c4, c5, c6, c7⟩ := (G.po b1).root b2
    rw [if_neg c]
    simp (disch := omega) only [gd_T, dr_S, nm_v, cl_S, cv_S, bd_S, lk_L, lk_R, zbw_b, isK_e, isPg_3, isPg_4, isPg_6, asV_n, beq_self_eq_true, inb_N, inb_0, le_T, le_F, lt_T, lt_F, eq_F, le_0T, lt_0F, le_0F, eq_0F, nI_1, nI_add, pk_mul, nI_clamp, cl_0, if_true, if_false, of_nI, T_wI, L_wI, R_wI, N_wI, S_wI, T_wR, L_wR, I_wR, N_wR, S_wR, I_same, R_same, I_wIn, I_wIk, R_wRn, R_wRk, T_nwo, T_nwn, L_nwo, L_nwn, I_nwo, I_nwn, R_nwo, R_nwn, N_nw, S_nw, nar_1, nar_0, nar_01, b01_t0, b01_f0, b01_t1, b01_f1, ne_sn, eq_sn, sn_inj, a1, a3, a4, a5, a8, c1, c3, c4, c5, c7 j hj]
theorem md8 {x : Nat} (h : x < 32) : nI x - nI (x / 8) * nI 8 = nI (x % 8) := by
  rw [pk_mul, pk_sub (by omega)]
  congr 1
  omega
theorem e_valueOf {h : Hp} {ca ka pa : Nat → Nat} {st : Nat → Pg} {fs np : Nat → Nat} {nxt k m x : Nat} (G : XG h ca ka pa st fs np nxt) (S : SW st fs np nxt) (v : vk np nxt k) (h2 : kd st k = 2) (hm : m < 4) (hx : x < 32) : f_E_valueOf (pa k) (nI m) (nI x) h = some (gv (rdv st k m x), h) := by
  obtain ⟨a1, -⟩ := (G.po v).meta h2
  have hk := v.pos
  unfold f_E_valueOf rdv
  rw [if_neg (by omega), gd_t (isK_of a1), ix_d8 (by omega), md8 hx, cl_s (e_leafOf G S v h2 hm (by omega))]
  by_cases c : lk2 st k m (x / 8) = 0
  · rw [c, ck_0, if_pos rfl, if_pos rfl]; rfl
  · obtain ⟨b1, b2, -⟩ := S.lkk v h2 hm (by omega) c
    obtain ⟨c1, c3, c4, c5, c6, c7, c8⟩ := (G.po b1).leaf b2
    obtain ⟨d1, d2⟩ := c7 (x % 8) (by omega)
    rw [ck_s c, if_neg c, if_neg (by intro z; cases z), dr_s rfl, gd_t (isK_of c1), sshr_1 _ (by omega), d1]
    cases e : lfv st (lk2 st k m (x / 8)) (x % 8) with
    | none => rfl
    | some w =>
      simp (disch := omega) only [gd_T, dr_S, nm_v, cl_S, cv_S, bd_S, lk_L, lk_R, zbw_b, isK_e, isPg_3, isPg_4, isPg_6, asV_n, beq_self_eq_true, inb_N, inb_0, le_T, le_F, lt_T, lt_F, eq_F, le_0T, lt_0F, le_0F, eq_0F, nI_1, nI_add, pk_mul, nI_clamp, cl_0, if_true, if_false, of_nI, T_wI, L_wI, R_wI, N_wI, S_wI, T_wR, L_wR, I_wR, N_wR, S_wR, I_same, R_same, I_wIn, I_wIk, R_wRn, R_wRk, T_nwo, T_nwn, L_nwo, L_nwn, I_nwo, I_nwn, R_nwo, R_nwn, N_nw, S_nw, nar_1, nar_0, nar_01, b01_t0, b01_f0, b01_t1, b01_f1, ne_sn, eq_sn, sn_inj, Option.isSome, c3, c4, c5, d2 w e]
      rfl

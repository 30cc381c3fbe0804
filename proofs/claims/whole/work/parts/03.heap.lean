/-! THE ABSTRACT HEAP: next address, slots used, kind of each cell, length, its ints, its references -/
abbrev Hp : Type := Nat × Nat × (Nat → Nat) × (Nat → Nat) × (Nat → Nat → Int32) × (Nat → Nat → Option Nat)
def hpN (h : Hp) : Nat := h.1
def hpS (h : Hp) : Nat := h.2.1
def hpT (h : Hp) : Nat → Nat := h.2.2.1
def hpL (h : Hp) : Nat → Nat := h.2.2.2.1
def hpI (h : Hp) : Nat → Nat → Int32 := h.2.2.2.2.1
def hpR (h : Hp) : Nat → Nat → Option Nat := h.2.2.2.2.2
def wI (h : Hp) (a k : Nat) (v : Int32) : Hp := (hpN h, hpS h, hpT h, hpL h, fun b j => if b = a ∧ j = k then v else hpI h b j, hpR h)
def wR (h : Hp) (a k : Nat) (v : Option Nat) : Hp := (hpN h, hpS h, hpT h, hpL h, hpI h, fun b j => if b = a ∧ j = k then v else hpR h b j)
/-- a new cell of kind κ, n its length (0 for objects), w its slots -/
def nw (h : Hp) (κ n w : Nat) : Hp := (hpN h + 1, hpS h + w, fun b => if b = hpN h then κ else hpT h b, fun b => if b = hpN h then n else hpL h b, fun b j => if b = hpN h then 0 else hpI h b j, fun b j => if b = hpN h then none else hpR h b j)
/-- n places from sp of a to dp of b -/
def cpI (h : Hp) (a sp b dp n : Nat) : Hp := (hpN h, hpS h, hpT h, hpL h, fun x j => if x = b ∧ dp ≤ j ∧ j < dp + n then hpI h a (sp + (j - dp)) else hpI h x j, hpR h)
def cpR (h : Hp) (a sp b dp n : Nat) : Hp := (hpN h, hpS h, hpT h, hpL h, hpI h, fun x j => if x = b ∧ dp ≤ j ∧ j < dp + n then hpR h a (sp + (j - dp)) else hpR h x j)
/-- kinds: below 63 the objects of class κ; 63: nothing there; from 64 on arrays: 64 the empty array of ArrayList, 65 the law's script, from 66 on those that are made, by the place that makes them -/
def kat : List Nat := [6, 0, 0, 0, 2, 2, 1, 1, 0, 6, 6, 1, 1, 1, 0, 0, 0, 0, 0, 0, 0, 0, 0, 1, 0, 0, 0, 0, 0, 1, 0, 0, 0, 0, 0, 0, 0, 0, 0, 3, 4, 5, 0]
def aty (κ : Nat) : Nat := kat.getD (κ - 64) 0
def aref (κ : Nat) : Bool := Nat.ble 2 (aty κ)
def fV (h : Hp) (a k : Nat) : Value := if fint (hpT h a) k then .int (hpI h a k) else va_rf (hpR h a k)
def aV (h : Hp) (a j : Nat) : Value := if aref (hpT h a) then va_rf (hpR h a j) else .int (hpI h a j)
/-- the class numbers and slots; array class numbers; the first address of ours; the empty array; the script, its length, its ints -/
abbrev Ct : Type := va_G × (Nat → ClassId) × Nat × Nat × Nat × Nat × (Nat → Int32)
def cD (C : Ct) : va_G := C.1
def cA (C : Ct) : Nat → ClassId := C.2.1
def cB (C : Ct) : Nat := C.2.2.1
def cE (C : Ct) : Nat := C.2.2.2.1
def cS (C : Ct) : Nat := C.2.2.2.2.1
def cL (C : Ct) : Nat := C.2.2.2.2.2.1
def cX (C : Ct) : Nat → Int32 := C.2.2.2.2.2.2
def atH (C : Ct) (h : Hp) (H : Heap) (a : Nat) : Prop :=
  (hpT h a < 63 → ∃ r, kcl[hpT h a]? = some r ∧ t_OB a ((cD C).1 (hpT h a)) r.2.2 ((cD C).2 (hpT h a)) H (fV h a)) ∧
  (66 ≤ hpT h a → H[a]? = some (arrV (cA C (aty (hpT h a))) (hpL h a) (aV h a)))
/-- an address of ours -/
def inD (C : Ct) (h : Hp) (a : Nat) : Prop := cB C ≤ a ∧ a < hpN h
/-- the two arrays that were there before -/
def exH (C : Ct) (h : Hp) : Prop := hpT h (cE C) = 64 ∧ hpT h (cS C) = 65 ∧ hpL h (cE C) = 0 ∧ hpL h (cS C) = cL C ∧ hpI h (cS C) = cX C ∧ cE C < cB C ∧ cS C < cB C
def HP (C : Ct) (h : Hp) (H : Heap) : Prop :=
  H.size = hpN h ∧ cB C ≤ hpN h ∧ (∀ a, inD C h a → atH C h H a ∧ hpT h a ≠ 64 ∧ hpT h a ≠ 65) ∧ (∀ a, ¬ inD C h a → a ≠ cE C → a ≠ cS C → hpT h a = 63) ∧ exH C h
theorem HP.dom {C : Ct} {h : Hp} {H : Heap} (P : HP C h H) {a : Nat} (ht : hpT h a ≠ 63) (h4 : hpT h a ≠ 64) (h5 : hpT h a ≠ 65) : inD C h a := Classical.byContradiction fun q => ht (P.2.2.2.1 a q (fun e => h4 (by rw [e]; exact P.2.2.2.2.1)) (fun e => h5 (by rw [e]; exact P.2.2.2.2.2.1)))
theorem HP.obj {C : Ct} {h : Hp} {H : Heap} (P : HP C h H) {a κ : Nat} (ht : hpT h a = κ) (hk : κ < 63) : ∃ r, kcl[κ]? = some r ∧ t_OB a ((cD C).1 κ) r.2.2 ((cD C).2 κ) H (fV h a) := by
  have hd := P.dom (a := a) (by omega) (by omega) (by omega)
  obtain ⟨r, h1, h2⟩ := (P.2.2.1 a hd).1.1 (by omega)
  rw [ht] at h1 h2
  exact ⟨r, h1, h2⟩
theorem HP.arr {C : Ct} {h : Hp} {H : Heap} (P : HP C h H) {a κ : Nat} (ht : hpT h a = κ) (hk : 66 ≤ κ) : H[a]? = some (arrV (cA C (aty κ)) (hpL h a) (aV h a)) := by
  have hd := P.dom (a := a) (by omega) (by omega) (by omega)
  have h2 := (P.2.2.1 a hd).1.2 (by omega)
  rw [ht] at h2
  exact h2
theorem HP.own {C : Ct} {h : Hp} {H : Heap} (P : HP C h H) {a κ : Nat} (ht : hpT h a = κ) (hk : κ < 63 ∨ 66 ≤ κ) : cB C ≤ a ∧ a < hpN h := P.dom (a := a) (by omega) (by omega) (by omega)
/-- the empty array and the script by their kinds -/
theorem HP.ext {C : Ct} {h : Hp} {H : Heap} (P : HP C h H) {a : Nat} : (hpT h a = 64 → a = cE C) ∧ (hpT h a = 65 → a = cS C) := by
  obtain ⟨-, -, p3, p4, p5, p6, -⟩ := P
  by_cases hd : inD C h a
  · exact ⟨fun q => absurd q (p3 a hd).2.1, fun q => absurd q (p3 a hd).2.2⟩
  · refine ⟨fun q => ?_, fun q => ?_⟩
    · by_cases e : a = cE C
      · exact e
      · by_cases e2 : a = cS C
        · rw [e2, p6] at q; cases q
        · rw [p4 a hd e e2] at q; cases q
    · by_cases e : a = cS C
      · exact e
      · by_cases e2 : a = cE C
        · rw [e2, p5] at q; cases q
        · rw [p4 a hd e2 e] at q; cases q
/-- a cell of ours is written: the others stay -/
theorem HP.put {C : Ct} {h h1 : Hp} {H H1 : Heap} (P : HP C h H) {a κ : Nat} (ht : hpT h a = κ) (hk : κ < 63 ∨ 66 ≤ κ) (z : H1.size = H.size) (oq : ∀ q : Nat, q ≠ a → H1[q]? = H[q]?)
    (e1 : hpN h1 = hpN h) (e2 : hpT h1 = hpT h) (e3 : hpL h1 = hpL h) (e4 : ∀ b, b ≠ a → hpI h1 b = hpI h b) (e5 : ∀ b, b ≠ a → hpR h1 b = hpR h b) (hat : atH C h1 H1 a) : HP C h1 H1 := by
  have hown := P.own ht hk
  obtain ⟨p1, p2, p3, p4, x1, x2, x3, x4, x5, x6, x7⟩ := P
  refine ⟨by rw [z, e1]; exact p1, by rw [e1]; exact p2, fun b hb => ?_, fun b hb => ?_, by rw [e2]; exact x1, by rw [e2]; exact x2, by rw [e3]; exact x3, by rw [e3]; exact x4, by rw [e4 _ (by omega)]; exact x5, x6, x7⟩
  · have h0 := p3 b (by unfold inD at hb ⊢; rw [e1] at hb; exact hb)
    by_cases hba : b = a
    · rw [e2]
      exact ⟨by rw [hba]; exact hat, h0.2⟩
    · refine ⟨?_, by rw [e2]; exact h0.2⟩
      have h0 := h0.1
      unfold atH at h0 ⊢
      rw [e2, e3]
      have f1 : fV h1 b = fV h b := by funext k; unfold fV; rw [e2, e4 b hba, e5 b hba]
      have f2 : aV h1 b = aV h b := by funext k; unfold aV; rw [e2, e4 b hba, e5 b hba]
      rw [f1, f2]
      refine ⟨fun q => ?_, fun q => ?_⟩
      · obtain ⟨r, g1, g2⟩ := h0.1 q
        exact ⟨r, g1, g2.kept (oq b hba)⟩
      · rw [oq b hba]; exact h0.2 q
  · rw [e2]; exact p4 b (by unfold inD at hb ⊢; rw [e1] at hb; exact hb)
/-- a cell is made -/
theorem HP.new {C : Ct} {h : Hp} {H H1 : Heap} {κ n w : Nat} (P : HP C h H) (z : H1.size = H.size + 1) (oq : ∀ q : Nat, q < H.size → H1[q]? = H[q]?) (hk : κ < 63 ∨ 66 ≤ κ) (hat : atH C (nw h κ n w) H1 (hpN h)) : HP C (nw h κ n w) H1 := by
  obtain ⟨p1, p2, p3, p4, x1, x2, x3, x4, x5, x6, x7⟩ := P
  have eT : ∀ b, b ≠ hpN h → hpT (nw h κ n w) b = hpT h b := fun b hb => if_neg hb
  have eL : ∀ b, b ≠ hpN h → hpL (nw h κ n w) b = hpL h b := fun b hb => if_neg hb
  have eI : ∀ b, b ≠ hpN h → hpI (nw h κ n w) b = hpI h b := fun b hb => by funext k; exact if_neg hb
  have eR : ∀ b, b ≠ hpN h → hpR (nw h κ n w) b = hpR h b := fun b hb => by funext k; exact if_neg hb
  have eN : hpN (nw h κ n w) = hpN h + 1 := rfl
  have eK : hpT (nw h κ n w) (hpN h) = κ := if_pos rfl
  refine ⟨by rw [z, eN, p1], by rw [eN]; omega, fun b hb => ?_, fun b hb => ?_, by rw [eT _ (by omega)]; exact x1, by rw [eT _ (by omega)]; exact x2, by rw [eL _ (by omega)]; exact x3, by rw [eL _ (by omega)]; exact x4, by rw [eI _ (by omega)]; exact x5, x6, x7⟩
  · by_cases hba : b = hpN h
    · rw [hba]; exact ⟨hat, by rw [eK]; omega, by rw [eK]; omega⟩
    · have hlt : b < hpN h := by have := hb.2; rw [eN] at this; omega
      have h0 := p3 b ⟨hb.1, hlt⟩
      refine ⟨?_, by rw [eT b hba]; exact h0.2⟩
      have h0 := h0.1
      unfold atH at h0 ⊢
      rw [eT b hba, eL b hba]
      have f1 : fV (nw h κ n w) b = fV h b := by funext k; unfold fV; rw [eT b hba, eI b hba, eR b hba]
      have f2 : aV (nw h κ n w) b = aV h b := by funext k; unfold aV; rw [eT b hba, eI b hba, eR b hba]
      rw [f1, f2]
      refine ⟨fun q => ?_, fun q => ?_⟩
      · obtain ⟨r, g1, g2⟩ := h0.1 q
        exact ⟨r, g1, g2.kept (oq b (by rw [p1]; exact hlt))⟩
      · rw [oq b (by rw [p1]; exact hlt)]; exact h0.2 q
  · have hba : b ≠ hpN h := fun q => hb ⟨by rw [q]; exact p2, by rw [q, eN]; omega⟩
    rw [eT b hba]
    exact p4 b (fun q => hb ⟨q.1, by rw [eN]; have := q.2; omega⟩)
/-! TYPED VALUES -/
abbrev Tv : Type := Int32 ⊕ (Option Nat ⊕ Int64)
abbrev vi (x : Int32) : Tv := .inl x
abbrev vr (r : Option Nat) : Tv := .inr (.inl r)
abbrev vl (x : Int64) : Tv := .inr (.inr x)
def tv : Tv → Value
  | .inl x => .int x
  | .inr (.inl r) => va_rf r
  | .inr (.inr x) => .long x
def cat2 : Tv → Bool
  | .inr (.inr _) => true
  | _ => false
theorem rf_cat (r : Option Nat) : (va_rf r).category = 1 := by cases r <;> rfl
theorem tv_cat (t : Tv) : ((tv t).category == 2) = cat2 t := by
  rcases t with x | r | x
  · rfl
  · show ((va_rf r).category == 2) = false
    rw [rf_cat]; rfl
  · rfl
theorem tv_cat1 {t : Tv} (h : cat2 t = false) : (tv t).category = 1 := by
  have h1 := tv_cat t
  rcases lv_cat (tv t) with q | q
  · exact q
  · rw [q, h] at h1; exact absurd h1 (by decide)
def LR (lv : Array Slot) (n : Nat) (ls : List (Nat × Tv)) : Prop := lv_has lv n (ls.map fun q => (q.1, tv q.2))
theorem LR.at {lv : Array Slot} {n : Nat} {ls : List (Nat × Tv)} (h : LR lv n ls) (k : Nat) {i : Nat} {t : Tv} (hk : ls[k]? = some (i, t)) : lv[i]? = some (.val (tv t)) := lv_at h k (by rw [List.getElem?_map, hk]; rfl)
def lf (i : Nat) (ls : List (Nat × Tv)) : List (Nat × Tv) := ls.filter (fun q => !(q.1 == i) && !(q.1 + 1 == i && cat2 q.2))
theorem lf_map (i : Nat) (ls : List (Nat × Tv)) : (ls.map fun q => (q.1, tv q.2)).filter (fun q => !(q.1 == i) && !(q.1 + 1 == i && q.2.category == 2)) = (lf i ls).map fun q => (q.1, tv q.2) := by
  unfold lf
  rw [List.filter_map]
  congr 1
  apply List.filter_congr
  intro q _
  show (!(q.1 == i) && !(q.1 + 1 == i && ((tv q.2).category == 2))) = _
  rw [tv_cat]
theorem LR.sub {lv : Array Slot} {n : Nat} {ls ls' : List (Nat × Tv)} (h : LR lv n ls) (ks : List Nat) (e : ks.filterMap (fun k => ls[k]?) = ls') : LR lv n ls' := by
  refine ⟨h.1, h.2.1, fun q hq => ?_⟩
  obtain ⟨x, hx, rfl⟩ := List.mem_map.mp hq
  rw [← e] at hx
  obtain ⟨k, -, hk⟩ := List.mem_filterMap.mp hx
  exact h.2.2 _ (List.mem_map.mpr ⟨x, List.mem_of_getElem? hk, rfl⟩)

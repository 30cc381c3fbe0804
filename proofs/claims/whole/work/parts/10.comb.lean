/-! COMBINATORS of the functions, and what a result says of them -/
def gd {α : Type} (c : Bool) (k : Option α) : Option α := bif c then k else none
def dr {α : Type} (x : Option Nat) (f : Nat → Option α) : Option α := x.bind f
def nm {α β : Type} (v : α) (f : α → Option β) : Option β := f v
def cl {α β : Type} (o : Option (α × Hp)) (f : α → Hp → Option β) : Option β := o.bind fun q => f q.1 q.2
def cv {β : Type} (o : Option Hp) (f : Hp → Option β) : Option β := o.bind f
def bd {α β : Type} (o : Option α) (f : α → Option β) : Option β := o.bind f
def lk {α β γ : Type} (o : Option (α ⊕ β)) (f : α → Option γ) (g : β → Option γ) : Option γ := o.bind (Sum.elim f g)
def lp {S R : Type} (b : S → Option (S ⊕ R)) : Nat → S → Option R
  | 0, _ => none
  | n + 1, s => (b s).bind (Sum.elim (lp b n) some)
theorem gd_some {α : Type} {c : Bool} {k : Option α} {z : α} (h : gd c k = some z) : c = true ∧ k = some z := by
  cases c with
  | true => exact ⟨rfl, h⟩
  | false => cases h
theorem dr_some {α : Type} {x : Option Nat} {f : Nat → Option α} {z : α} (h : dr x f = some z) : ∃ a, x = some a ∧ f a = some z := by
  cases x with
  | none => cases h
  | some a => exact ⟨a, rfl, h⟩
theorem nm_some {α β : Type} {v : α} {f : α → Option β} {z : β} (h : nm v f = some z) : ∃ x, x = v ∧ f x = some z := ⟨v, rfl, h⟩
theorem cl_some {α β : Type} {o : Option (α × Hp)} {f : α → Hp → Option β} {z : β} (h : cl o f = some z) : ∃ v h1, o = some (v, h1) ∧ f v h1 = some z := by
  cases o with
  | none => cases h
  | some q => exact ⟨q.1, q.2, rfl, h⟩
theorem cv_some {β : Type} {o : Option Hp} {f : Hp → Option β} {z : β} (h : cv o f = some z) : ∃ h1, o = some h1 ∧ f h1 = some z := by
  cases o with
  | none => cases h
  | some q => exact ⟨q, rfl, h⟩
theorem bd_some {α β : Type} {o : Option α} {f : α → Option β} {z : β} (h : bd o f = some z) : ∃ x, o = some x ∧ f x = some z := by
  cases o with
  | none => cases h
  | some q => exact ⟨q, rfl, h⟩
theorem lk_some {α β γ : Type} {o : Option (α ⊕ β)} {f : α → Option γ} {g : β → Option γ} {z : γ} (h : lk o f g = some z) : (∃ x, o = some (.inl x) ∧ f x = some z) ∨ ∃ y, o = some (.inr y) ∧ g y = some z := by
  cases o with
  | none => cases h
  | some q =>
    cases q with
    | inl x => exact Or.inl ⟨x, rfl, h⟩
    | inr y => exact Or.inr ⟨y, rfl, h⟩
theorem lp_some {S R : Type} {b : S → Option (S ⊕ R)} {n : Nat} {s : S} {z : R} (h : lp b (n + 1) s = some z) : (∃ s', b s = some (.inl s') ∧ lp b n s' = some z) ∨ b s = some (.inr z) := by
  have h0 : (b s).bind (Sum.elim (lp b n) some) = some z := h
  cases hb : b s with
  | none => rw [hb] at h0; cases h0
  | some q =>
    rw [hb] at h0
    cases q with
    | inl x => exact Or.inl ⟨x, rfl, h0⟩
    | inr y => exact Or.inr (by cases h0; rfl)
/-- how often a loop may turn -/
def FU : Nat := 4096
/-! GUARDS -/
def inb (i : Int32) (n : Nat) : Bool := !(decide (i < 0) || Nat.ble n i.toNatClampNeg)
theorem inb_vp {i : Int32} {n : Nat} (h : inb i n = true) : vp_in i n := by
  unfold inb at h
  intro q
  rcases q with q | q
  · rw [decide_eq_true q] at h; cases h
  · rw [Nat.ble_eq_true_of_le q, Bool.or_true] at h; cases h
def isK (h : Hp) (a κ : Nat) : Bool := hpT h a == κ
theorem isK_eq {h : Hp} {a κ : Nat} (g : isK h a κ = true) : hpT h a = κ := eq_of_beq g
def isPg (h : Hp) (a : Nat) : Bool := hpT h a == 3 || (hpT h a == 4 || hpT h a == 6)
theorem isPg_eq {h : Hp} {a : Nat} (g : isPg h a = true) : hpT h a = 3 ∨ hpT h a = 4 ∨ hpT h a = 6 := by
  unfold isPg at g
  simp only [Bool.or_eq_true, beq_iff_eq] at g
  exact g
/-- an array of type t -/
def isA (h : Hp) (a t : Nat) : Bool := Nat.ble 64 (hpT h a) && aty (hpT h a) == t
/-- one that is ours -/
def isO (h : Hp) (a t : Nat) : Bool := Nat.ble 66 (hpT h a) && aty (hpT h a) == t
theorem isA_eq {h : Hp} {a t : Nat} (g : isA h a t = true) : 64 ≤ hpT h a ∧ aty (hpT h a) = t := by
  unfold isA at g
  simp only [Bool.and_eq_true, beq_iff_eq] at g
  exact ⟨Nat.le_of_ble_eq_true g.1, g.2⟩
theorem isO_eq {h : Hp} {a t : Nat} (g : isO h a t = true) : 66 ≤ hpT h a ∧ aty (hpT h a) = t := by
  unfold isO at g
  simp only [Bool.and_eq_true, beq_iff_eq] at g
  exact ⟨Nat.le_of_ble_eq_true g.1, g.2⟩
/-- may an object of kind κ stand in an array of type t -/
def asK (κ t : Nat) : Bool := match t with
  | 2 => κ == 2
  | 3 => κ == 3 || (κ == 4 || κ == 6)
  | 4 => κ == 6
  | 5 => κ == 3
  | 6 => Nat.ble κ 8
  | _ => false
def asV (h : Hp) (v : Option Nat) (a : Nat) : Bool := match v with
  | none => true
  | some b => asK (hpT h b) (aty (hpT h a))
theorem asK_ok {κ t : Nat} (g : asK κ t = true) : as_ok κ t := by
  unfold asK at g
  split at g
  · cases eq_of_beq g; exact ⟨_, rfl, Or.inl rfl⟩
  · simp only [Bool.or_eq_true, beq_iff_eq] at g
    rcases g with e | e | e <;> subst e
    · exact ⟨_, rfl, Or.inr (by decide +kernel)⟩
    · exact ⟨_, rfl, Or.inr (by decide +kernel)⟩
    · exact ⟨_, rfl, Or.inr (by decide +kernel)⟩
  · cases eq_of_beq g; exact ⟨_, rfl, Or.inl rfl⟩
  · cases eq_of_beq g; exact ⟨_, rfl, Or.inl rfl⟩
  · have h8 := Nat.le_of_ble_eq_true g
    have : κ = 0 ∨ κ = 1 ∨ κ = 2 ∨ κ = 3 ∨ κ = 4 ∨ κ = 5 ∨ κ = 6 ∨ κ = 7 ∨ κ = 8 := by omega
    rcases this with e | e | e | e | e | e | e | e | e <;> subst e <;> exact ⟨_, rfl, Or.inr (by decide +kernel)⟩
  · cases g
theorem asV_ok {h : Hp} {v : Option Nat} {a : Nat} (g : asV h v a = true) : ∀ b, v = some b → as_ok (hpT h b) (aty (hpT h a)) := by
  intro b hb
  subst hb
  exact asK_ok g
/-- places to be copied -/
def cpB (h : Hp) (a b : Nat) (sp dp n : Int32) : Bool := !decide (sp < 0) && (!decide (dp < 0) && (!decide (n < 0) && (Nat.ble (sp.toNatClampNeg + n.toNatClampNeg) (hpL h a) && Nat.ble (dp.toNatClampNeg + n.toNatClampNeg) (hpL h b))))
theorem cpB_eq {h : Hp} {a b : Nat} {sp dp n : Int32} (g : cpB h a b sp dp n = true) : ¬ sp < 0 ∧ ¬ dp < 0 ∧ ¬ n < 0 ∧ sp.toNatClampNeg + n.toNatClampNeg ≤ hpL h a ∧ dp.toNatClampNeg + n.toNatClampNeg ≤ hpL h b := by
  unfold cpB at g
  simp only [Bool.and_eq_true, Bool.not_eq_true', decide_eq_false_iff_not] at g
  exact ⟨g.1, g.2.1, g.2.2.1, Nat.le_of_ble_eq_true g.2.2.2.1, Nat.le_of_ble_eq_true g.2.2.2.2⟩
/-- the elements that are copied are objects -/
def cpE (h : Hp) (a : Nat) (sp n : Int32) : Bool := (List.range n.toNatClampNeg).all fun i => match hpR h a (sp.toNatClampNeg + i) with
  | none => true
  | some y => asK (hpT h y) 6
theorem cpE_ok {h : Hp} {a : Nat} {sp n : Int32} (g : cpE h a sp n = true) : ∀ i, i < n.toNatClampNeg → ∀ y, hpR h a (sp.toNatClampNeg + i) = some y → as_ok (hpT h y) 6 := by
  intro i hi y hy
  have h1 := List.all_eq_true.mp g i (List.mem_range.mpr hi)
  rw [hy] at h1
  exact asK_ok h1
/-- a length that may be made -/
def lnB (n : Int32) : Bool := !decide (n < 0) && Nat.ble n.toNatClampNeg 65536
theorem lnB_eq {n : Int32} (g : lnB n = true) : ¬ n < 0 ∧ n.toNatClampNeg ≤ 65536 := by
  unfold lnB at g
  simp only [Bool.and_eq_true, Bool.not_eq_true', decide_eq_false_iff_not] at g
  exact ⟨g.1, Nat.le_of_ble_eq_true g.2⟩
def zb (v : Int32) : Bool := vp_nar .boolean v == v
theorem zb_eq {v : Int32} (g : zb v = true) : narrow .boolean (.int v) = .int v := by
  rw [nar_b, eq_of_beq g]
/-- checkcast to class t (Version 7, Chunk 2) -/
def caB (h : Hp) (x : Option Nat) (κ : Nat) : Bool := match x with
  | none => true
  | some a => hpT h a == κ
theorem caB_ok {h : Hp} {x : Option Nat} {κ : Nat} {nm' : String} {q : vw_C} (g : caB h x κ = true) (hq : kcl[κ]? = some q) (hc : Cond.castable q.1 nm' ∈ lw_w) : ∀ a, x = some a → ∃ q : vw_C, kcl[hpT h a]? = some q ∧ Cond.castable q.1 nm' ∈ lw_w := by
  intro a ha
  subst ha
  have e : hpT h a = κ := eq_of_beq g
  rw [e]
  exact ⟨q, hq, hc⟩
section Glue
variable {l : Launch} {C : Ct} {mi : Nat} {M : Mi} {d pc : Nat} {ls : List (Nat × Tv)} {st : List Tv} {h h' : Hp} {r : Option Tv}
theorem z_hp {h1 : Hp} (e : h1 = h) (k : Z l C mi M d pc ls st h1 r h') : Z l C mi M d pc ls st h r h' := e ▸ k
theorem z_topi {x y : Int32} (e : y = x) (k : Z l C mi M d pc ls (vi y :: st) h r h') : Z l C mi M d pc ls (vi x :: st) h r h' := e ▸ k
theorem z_topr {x y : Option Nat} (e : y = x) (k : Z l C mi M d pc ls (vr y :: st) h r h') : Z l C mi M d pc ls (vr x :: st) h r h' := e ▸ k
theorem fl_K {own : String} {idx κ k : Nat} {a : Nat} (e : hpT h a = κ) (f : fl_ok own idx κ k) : fl_ok own idx (hpT h a) k := e.symm ▸ f
theorem fl_P {own : String} {idx k : Nat} {a : Nat} (g : isPg h a = true) (f3 : fl_ok own idx 3 k) (f4 : fl_ok own idx 4 k) (f6 : fl_ok own idx 6 k) : fl_ok own idx (hpT h a) k := by
  rcases isPg_eq g with e | e | e <;> rw [e] <;> assumption
theorem fi_K {κ k : Nat} {a : Nat} {b : Bool} (e : hpT h a = κ) (f : fint κ k = b) : fint (hpT h a) k = b := e.symm ▸ f
theorem fi_P {k : Nat} {a : Nat} {b : Bool} (g : isPg h a = true) (f3 : fint 3 k = b) (f4 : fint 4 k = b) (f6 : fint 6 k = b) : fint (hpT h a) k = b := by
  rcases isPg_eq g with e | e | e <;> rw [e] <;> assumption
theorem pu_K {κ k : Nat} {a : Nat} (e : hpT h a = κ) (f : pu_ok M κ k) : pu_ok M (hpT h a) k := e.symm ▸ f
theorem pu_P {k : Nat} {a : Nat} (g : isPg h a = true) (f3 : pu_ok M 3 k) (f4 : pu_ok M 4 k) (f6 : pu_ok M 6 k) : pu_ok M (hpT h a) k := by
  rcases isPg_eq g with e | e | e <;> rw [e] <;> assumption
theorem kc_K {κ : Nat} {a : Nat} {q : vw_C} (e : hpT h a = κ) (f : kcl[κ]? = some q) : kcl[hpT h a]? = some q := e.symm ▸ f
theorem isK_wI {h1 : Hp} {a k b κ : Nat} {v : Int32} (e : h1 = wI h a k v) (g : isK h b κ = true) : isK h1 b κ = true := by rw [e]; exact g
theorem isK_wR {h1 : Hp} {a k b κ : Nat} {v : Option Nat} (e : h1 = wR h a k v) (g : isK h b κ = true) : isK h1 b κ = true := by rw [e]; exact g
theorem isPg_wI {h1 : Hp} {a k b : Nat} {v : Int32} (e : h1 = wI h a k v) (g : isPg h b = true) : isPg h1 b = true := by rw [e]; exact g
theorem isPg_wR {h1 : Hp} {a k b : Nat} {v : Option Nat} (e : h1 = wR h a k v) (g : isPg h b = true) : isPg h1 b = true := by rw [e]; exact g
theorem z_callVx {N : Mi} {d1 idx b : Nat} {x : Option Nat} {q0 : vw_C} {av st0 : List Tv} {r1 : Option Tv} {h1 : Hp} (ha : x = some b) (hM : Mt l C mi N d1 (vr (some b) :: av) h r1 h1) (hd : decode M.2.1 pc = .ok (.invokevirtual idx, 3)) (hw : cw_ok N av.length) (hl : Cond.methodLink M.1.cls idx N.1 ∈ lw_w) (hi : Cond.instanceMethod N.1 ∈ lw_w) (hs : Cond.selects q0.1 N.1 N.1 ∈ lw_w) (hb : kcl[hpT h b]? = some q0) (hR : d1 + 1 ≤ d ∧ N.2.2.1 ≤ 17) (hc : (st.map fun t => bif cat2 t then 2 else 1).sum ≤ 8) (hst : st0 = (vr x :: av).reverse ++ st)
    (k : Z l C mi M d (pc + 3) ls (r1.toList ++ st) h1 r h') : Z l C mi M d pc ls st0 h r h' := by
  subst ha
  exact z_callV hM hd hw hl hi hs hb hR hc hst k
theorem z_getC {x : Option Nat} {a idx : Nat} (hd : decode M.2.1 pc = .ok (.invokevirtual idx, 3)) (hl : Cond.methodLink M.1.cls idx ⟨"java/lang/Object", "getClass", "()Ljava/lang/Class;"⟩ ∈ lw_w) (hs : Cond.selects "[Ljava/lang/Object;" ⟨"java/lang/Object", "getClass", "()Ljava/lang/Class;"⟩ ⟨"java/lang/Object", "getClass", "()Ljava/lang/Class;"⟩ ∈ lw_w) (ha : x = some a) (hk : 66 ≤ hpT h a) (ht : aty (hpT h a) = 6) (hd1 : 1 ≤ d) (hst : (st.map fun t => bif cat2 t then 2 else 1).sum ≤ 8) (k : Z l C mi M d (pc + 3) ls (vr (some mi) :: st) h r h') : Z l C mi M d pc ls (vr x :: st) h r h' := by
  subst ha
  refine z_of k fun p e R s m args below meth c H locs cells slots lv Q X P S L kk => ?_
  obtain ⟨x1, x2, x3, x4, K, x6, x7, x8⟩ := X
  have hA := P.arr (a := a) rfl hk
  rw [ht] at hA
  refine va_getC x1 x2 (by rw [x3]; exact L.1.symm) (C := "[Ljava/lang/Object;") x4 (K.1.use _ hl) (K.1.use _ (show Cond.declares ⟨"java/lang/Object", "getClass", "()Ljava/lang/Class;"⟩ ∈ lw_w by decide +kernel)) (K.1.use _ hs) (K.1.use _ (show Cond.instanceMethod ⟨"java/lang/Object", "getClass", "()Ljava/lang/Class;"⟩ ∈ lw_w by decide +kernel)) (K.1.use _ (show Cond.native ⟨"java/lang/Object", "getClass", "()Ljava/lang/Class;"⟩ ∈ lw_w by decide +kernel)) K.2.2.2.1 ⟨_, hA, rfl, ?_⟩ (by omega) (by rw [st_cat]; omega) hd (kk lv L)
  exact va_nmO (K.2.1.2 6 _ rfl).2 rfl
theorem ts_out {x : Int32} (n : Nat) (hn : n < 1000) (hx : ∀ j, j < n → ¬ x = Int32.ofNat j) : x.toInt < 0 ∨ (n : Int) - 1 < x.toInt := by
  rcases Int.lt_or_le x.toInt 0 with q | q
  · exact Or.inl q
  · rcases Int.lt_or_le ((n : Int) - 1) x.toInt with q2 | q2
    · exact Or.inr q2
    · exfalso
      obtain ⟨j, hj⟩ := Int.eq_ofNat_of_zero_le q
      refine hx j (by omega) ?_
      apply Int32.toInt_inj.mp
      have e : (Int32.ofNat j).toInt = (j : Int) := nI_toInt (n := j) (by omega)
      rw [e]
      exact hj
end Glue

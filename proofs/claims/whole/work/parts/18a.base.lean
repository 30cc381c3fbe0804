/-! ===== Int32 by its bits: bt x i ===== -/
def bt (x : Int32) (i : Nat) : Bool := x.toBitVec.getLsbD i
theorem b_ext {x y : Int32} (h : ∀ i, i < 32 → bt x i = bt y i) : x = y := Int32.toBitVec_inj.mp (BitVec.eq_of_getLsbD_eq (fun i hi => h i hi))
theorem b_or (x y : Int32) (i : Nat) : bt (x ||| y) i = (bt x i || bt y i) := by unfold bt; rw [Int32.toBitVec_or, BitVec.getLsbD_or]
theorem b_and (x y : Int32) (i : Nat) : bt (x &&& y) i = (bt x i && bt y i) := by unfold bt; rw [Int32.toBitVec_and, BitVec.getLsbD_and]
theorem b_xor (x y : Int32) (i : Nat) : bt (x ^^^ y) i = (bt x i ^^ bt y i) := by unfold bt; rw [Int32.toBitVec_xor, BitVec.getLsbD_xor]
theorem b_big {x : Int32} {i : Nat} (h : 32 ≤ i) : bt x i = false := BitVec.getLsbD_of_ge _ _ h
theorem b_255 (i : Nat) : bt 255 i = decide (i < 8) := by
  rcases Nat.lt_or_ge i 32 with h | h
  · exact (by decide +kernel : ∀ i, i < 32 → bt 255 i = decide (i < 8)) i h
  · rw [b_big h, decide_eq_false (by omega)]
theorem b_65535 (i : Nat) : bt 65535 i = decide (i < 16) := by
  rcases Nat.lt_or_ge i 32 with h | h
  · exact (by decide +kernel : ∀ i, i < 32 → bt 65535 i = decide (i < 16)) i h
  · rw [b_big h, decide_eq_false (by omega)]
theorem b_m1 : ∀ i, i < 32 → bt (-1) i = true := by decide +kernel
theorem b_0 (i : Nat) : bt 0 i = false := BitVec.getLsbD_zero
theorem s_l : ∀ n, n < 32 → ((nI n &&& 31).toBitVec.smod 32).toNat = n := by decide +kernel
theorem s_u : ∀ n, n < 32 → (((nI n).toUInt32 &&& Int32.toUInt32 31).toBitVec % 32).toNat = n := by decide +kernel
theorem b_shl (n : Nat) (hn : n < 32) (x : Int32) {i : Nat} (hi : i < 32) : bt (x <<< (nI n &&& 31)) i = (decide (n ≤ i) && bt x (i - n)) := by
  unfold bt
  rw [Int32.toBitVec_shiftLeft]
  show (x.toBitVec <<< ((nI n &&& 31).toBitVec.smod 32).toNat).getLsbD i = _
  rw [s_l n hn, BitVec.getLsbD_shiftLeft]
  rcases Nat.lt_or_ge i n with h | h
  · simp [h, Nat.not_le.mpr h]
  · simp [hi, h, Nat.not_lt.mpr h]
theorem b_ushr (n : Nat) (hn : n < 32) (x : Int32) (i : Nat) : bt ((x.toUInt32 >>> ((nI n).toUInt32 &&& Int32.toUInt32 31)).toInt32) i = bt x (n + i) := by
  show (x.toUInt32 >>> ((nI n).toUInt32 &&& Int32.toUInt32 31)).toBitVec.getLsbD i = x.toUInt32.toBitVec.getLsbD (n + i)
  rw [UInt32.toBitVec_shiftRight]
  show (x.toUInt32.toBitVec >>> (((nI n).toUInt32 &&& Int32.toUInt32 31).toBitVec % 32).toNat).getLsbD i = _
  rw [s_u n hn, BitVec.getLsbD_ushiftRight]
theorem b_sshr (n : Nat) (hn : n < 32) (x : Int32) {i : Nat} (hi : i < 32) : bt (x >>> (nI n &&& 31)) i = if n + i < 32 then bt x (n + i) else bt x 31 := by
  unfold bt
  rw [Int32.toBitVec_shiftRight]
  show (x.toBitVec.sshiftRight ((nI n &&& 31).toBitVec.smod 32).toNat).getLsbD i = _
  rw [s_l n hn, BitVec.getLsbD_sshiftRight, BitVec.msb_eq_getLsbD_last]
  simp [hi]
theorem b_shl8 (x : Int32) {i : Nat} (hi : i < 32) : bt (x <<< ((8 : Int32) &&& 31)) i = (decide (8 ≤ i) && bt x (i - 8)) := b_shl 8 (by omega) x hi
theorem b_shl16 (x : Int32) {i : Nat} (hi : i < 32) : bt (x <<< ((16 : Int32) &&& 31)) i = (decide (16 ≤ i) && bt x (i - 16)) := b_shl 16 (by omega) x hi
theorem b_shl24 (x : Int32) {i : Nat} (hi : i < 32) : bt (x <<< ((24 : Int32) &&& 31)) i = (decide (24 ≤ i) && bt x (i - 24)) := b_shl 24 (by omega) x hi
theorem b_sshr8 (x : Int32) {i : Nat} (hi : i < 32) : bt (x >>> ((8 : Int32) &&& 31)) i = if 8 + i < 32 then bt x (8 + i) else bt x 31 := b_sshr 8 (by omega) x hi
/-! LOOPS: the invariant P k s at the k-th turn -/
theorem lp_for {S R : Type} {b : S → Option (S ⊕ R)} (P : Nat → S → Prop) (Q : R → Prop) (N : Nat) (hs : ∀ k s, k < N → P k s → (∃ s', b s = some (.inl s') ∧ P (k + 1) s') ∨ ∃ r, b s = some (.inr r) ∧ Q r)
    (he : ∀ s, P N s → ∃ r, b s = some (.inr r) ∧ Q r) : ∀ (n k : Nat) (s : S), k ≤ N → N - k < n → P k s → ∃ r, lp b n s = some r ∧ Q r := by
  intro n
  induction n with
  | zero => intro k s _ h; exact absurd h (Nat.not_lt_zero _)
  | succ n ih =>
    intro k s hk hn hp
    have fin : (∃ r, b s = some (.inr r) ∧ Q r) → ∃ r, lp b (n + 1) s = some r ∧ Q r := by
      intro ⟨r, h1, h2⟩
      refine ⟨r, ?_, h2⟩
      show (b s).bind (Sum.elim (lp b n) some) = some r
      rw [h1]; rfl
    rcases Nat.lt_or_ge k N with q | q
    · rcases hs k s q hp with ⟨s', h1, h2⟩ | h1
      · obtain ⟨r, h3, h4⟩ := ih (k + 1) s' q (by omega) h2
        refine ⟨r, ?_, h4⟩
        show (b s).bind (Sum.elim (lp b n) some) = some r
        rw [h1]; exact h3
      · exact fin h1
    · have : k = N := by omega
      subst this
      exact fin (he s hp)
/-- a loop upwards from 0 -/
theorem lp_up {S R : Type} {b : S → Option (S ⊕ R)} (P : Nat → S → Prop) (Q : R → Prop) (N : Nat) (hN : N < 4096) {s : S} (h0 : P 0 s) (hs : ∀ k s, k < N → P k s → (∃ s', b s = some (.inl s') ∧ P (k + 1) s') ∨ ∃ r, b s = some (.inr r) ∧ Q r)
    (he : ∀ s, P N s → ∃ r, b s = some (.inr r) ∧ Q r) : ∃ r, lp b FU s = some r ∧ Q r := lp_for P Q N hs he FU 0 s (Nat.zero_le _) (by show N - 0 < 4096; omega) h0
/-! the combinators at known values -/
theorem gd_t {α : Type} {c : Bool} {k : Option α} (h : c = true) : gd c k = k := by rw [h]; rfl
theorem dr_s {α : Type} {x : Option Nat} {a : Nat} {f : Nat → Option α} (h : x = some a) : dr x f = f a := by rw [h]; rfl
theorem nm_v {α β : Type} (v : α) (f : α → Option β) : nm v f = f v := rfl
theorem cl_s {α β : Type} {o : Option (α × Hp)} {v : α} {h : Hp} {f : α → Hp → Option β} (e : o = some (v, h)) : cl o f = f v h := by rw [e]; rfl
theorem cv_s {β : Type} {o : Option Hp} {h : Hp} {f : Hp → Option β} (e : o = some h) : cv o f = f h := by rw [e]; rfl
theorem bd_s {α β : Type} {o : Option α} {x : α} {f : α → Option β} (e : o = some x) : bd o f = f x := by rw [e]; rfl
theorem lk_l {α β γ : Type} {o : Option (α ⊕ β)} {x : α} {f : α → Option γ} {g : β → Option γ} (e : o = some (.inl x)) : lk o f g = f x := by rw [e]; rfl
theorem lk_r {α β γ : Type} {o : Option (α ⊕ β)} {x : β} {f : α → Option γ} {g : β → Option γ} (e : o = some (.inr x)) : lk o f g = g x := by rw [e]; rfl
theorem isK_of {h : Hp} {a κ : Nat} (e : hpT h a = κ) : isK h a κ = true := by unfold isK; rw [e]; exact beq_self_eq_true κ
theorem inb_n {k n : Nat} (hk : k < n) (hn : n < 2 ^ 31) : inb (nI k) n = true := by
  unfold inb
  have h1 := nI_pos (n := k) (by omega)
  have h2 : Nat.ble n (nI k).toNatClampNeg = false := by
    rw [nI_clamp (by omega)]
    cases hb : Nat.ble n k with
    | false => rfl
    | true => have := Nat.le_of_ble_eq_true hb; omega
  rw [h2, decide_eq_false h1]; rfl
theorem zbw_s {v : Int32} {h : Hp} {o : Option (Int32 × Hp)} (e : o = some (v, h)) (g : zb v = true) : zbw o = some (v, h) := by
  rw [e]
  show gd (zb v) (some (v, h)) = _
  rw [gd_t g]
theorem zb_0 : zb 0 = true := by decide
theorem zb_1 : zb 1 = true := by decide
/-! reads behind writes -/
theorem I_wI (h : Hp) (a k b j : Nat) (v : Int32) : hpI (wI h a k v) b j = if b = a ∧ j = k then v else hpI h b j := rfl
theorem R_wI (h : Hp) (a k : Nat) (v : Int32) : hpR (wI h a k v) = hpR h := rfl
theorem T_wI (h : Hp) (a k : Nat) (v : Int32) : hpT (wI h a k v) = hpT h := rfl
theorem L_wI (h : Hp) (a k : Nat) (v : Int32) : hpL (wI h a k v) = hpL h := rfl
theorem R_wR (h : Hp) (a k b j : Nat) (v : Option Nat) : hpR (wR h a k v) b j = if b = a ∧ j = k then v else hpR h b j := rfl
theorem I_wR (h : Hp) (a k : Nat) (v : Option Nat) : hpI (wR h a k v) = hpI h := rfl
theorem T_wR (h : Hp) (a k : Nat) (v : Option Nat) : hpT (wR h a k v) = hpT h := rfl
theorem L_wR (h : Hp) (a k : Nat) (v : Option Nat) : hpL (wR h a k v) = hpL h := rfl
theorem K_wI (h : Hp) (a k b κ : Nat) (v : Int32) : isK (wI h a k v) b κ = isK h b κ := rfl
theorem K_wR (h : Hp) (a k b κ : Nat) (v : Option Nat) : isK (wR h a k v) b κ = isK h b κ := rfl
theorem O_wI (h : Hp) (a k b κ : Nat) (v : Int32) : isO (wI h a k v) b κ = isO h b κ := rfl
theorem O_wR (h : Hp) (a k b κ : Nat) (v : Option Nat) : isO (wR h a k v) b κ = isO h b κ := rfl
theorem I_same {h : Hp} {a k : Nat} {v : Int32} : hpI (wI h a k v) a k = v := if_pos ⟨rfl, rfl⟩
theorem I_ne {h : Hp} {a k b j : Nat} {v : Int32} (q : b ≠ a ∨ j ≠ k) : hpI (wI h a k v) b j = hpI h b j := if_neg (fun z => q.elim (fun n => n z.1) (fun n => n z.2))
/-! THE REFERENCE'S ARRAYS: field j of the object y is the array A j, of kind mk j and length ml j -/
def ml (j : Nat) : Nat := ([128, 16, 4, 128, 160, 160, 160, 160, 160, 160, 1280, 640, 160, 32, 32, 32, 32, 32, 32, 0, 32, 32, 32, 32, 32, 0, 0, 48, 48, 48, 0, 0, 0, 4] : List Nat).getD j 0
def mk (j : Nat) : Nat := ([75, 76, 77, 78, 79, 80, 81, 82, 83, 84, 85, 86, 87, 88, 89, 90, 91, 92, 93, 0, 94, 95, 96, 97, 98, 0, 0, 99, 100, 101, 0, 0, 0, 102] : List Nat).getD j 0
def MOK (h : Hp) (y : Nat) (A : Nat → Nat) : Prop := hpT h y = 8 ∧ y < hpN h ∧ ∀ j, 66 ≤ mk j → hpR h y j = some (A j) ∧ hpT h (A j) = mk j ∧ hpL h (A j) = ml j ∧ A j < hpN h
theorem mk_inj : ∀ i, i < 34 → ∀ j, j < 34 → 66 ≤ mk i → mk i = mk j → i = j := by decide
theorem mk_lt {j : Nat} (h : 66 ≤ mk j) : j < 34 := by
  rcases Nat.lt_or_ge j 34 with q | q
  · exact q
  · exfalso
    unfold mk at h
    rw [List.getD_eq_getElem?_getD, List.getElem?_eq_none (by exact q)] at h
    exact absurd h (by decide)
theorem MOK.ne {h : Hp} {y : Nat} {A : Nat → Nat} (M : MOK h y A) {i j : Nat} (hi : 66 ≤ mk i) (hj : 66 ≤ mk j) (hn : i ≠ j) : A i ≠ A j := by
  intro e
  have h1 := (M.2.2 i hi).2.1
  have h2 := (M.2.2 j hj).2.1
  rw [e, h2] at h1
  exact hn (mk_inj i (mk_lt hi) j (mk_lt hj) hi h1.symm)
theorem MOK.ny {h : Hp} {y : Nat} {A : Nat → Nat} (M : MOK h y A) {i : Nat} (hi : 66 ≤ mk i) : A i ≠ y := by
  intro e
  have h1 := (M.2.2 i hi).2.1
  rw [e, M.1] at h1
  omega
theorem MOK.keep {h h' : Hp} {y : Nat} {A : Nat → Nat} {w : Wl} (M : MOK h y A) (K : Keep w h h') (h1 : ∀ j, 66 ≤ mk j → ¬ inW w 8 j) : MOK h' y A := by
  obtain ⟨m1, m2, m3⟩ := M
  obtain ⟨k1, k2, k3, k4⟩ := K
  refine ⟨by rw [(k3 y m2).1]; exact m1, by omega, fun j hj => ?_⟩
  obtain ⟨q1, q2, q3, q4⟩ := m3 j hj
  refine ⟨?_, by rw [(k3 _ q4).1]; exact q2, by rw [(k3 _ q4).2]; exact q3, by omega⟩
  rw [(k4 y m2 j (by rw [m1]; exact h1 j hj)).2]
  exact q1
theorem MOK.wI {h : Hp} {y : Nat} {A : Nat → Nat} (M : MOK h y A) (a k : Nat) (v : Int32) : MOK (wI h a k v) y A := M
theorem MOK.a0 {h : Hp} {y : Nat} {A : Nat → Nat} (M : MOK h y A) : hpR h y 0 = some (A 0) ∧ hpT h (A 0) = 75 ∧ hpL h (A 0) = 128 ∧ A 0 < hpN h := M.2.2 0 (by decide)
theorem MOK.a1 {h : Hp} {y : Nat} {A : Nat → Nat} (M : MOK h y A) : hpR h y 1 = some (A 1) ∧ hpT h (A 1) = 76 ∧ hpL h (A 1) = 16 ∧ A 1 < hpN h := M.2.2 1 (by decide)
theorem MOK.a2 {h : Hp} {y : Nat} {A : Nat → Nat} (M : MOK h y A) : hpR h y 2 = some (A 2) ∧ hpT h (A 2) = 77 ∧ hpL h (A 2) = 4 ∧ A 2 < hpN h := M.2.2 2 (by decide)
theorem MOK.a3 {h : Hp} {y : Nat} {A : Nat → Nat} (M : MOK h y A) : hpR h y 3 = some (A 3) ∧ hpT h (A 3) = 78 ∧ hpL h (A 3) = 128 ∧ A 3 < hpN h := M.2.2 3 (by decide)
theorem MOK.a4 {h : Hp} {y : Nat} {A : Nat → Nat} (M : MOK h y A) : hpR h y 4 = some (A 4) ∧ hpT h (A 4) = 79 ∧ hpL h (A 4) = 160 ∧ A 4 < hpN h := M.2.2 4 (by decide)
theorem MOK.a5 {h : Hp} {y : Nat} {A : Nat → Nat} (M : MOK h y A) : hpR h y 5 = some (A 5) ∧ hpT h (A 5) = 80 ∧ hpL h (A 5) = 160 ∧ A 5 < hpN h := M.2.2 5 (by decide)
theorem MOK.a6 {h : Hp} {y : Nat} {A : Nat → Nat} (M : MOK h y A) : hpR h y 6 = some (A 6) ∧ hpT h (A 6) = 81 ∧ hpL h (A 6) = 160 ∧ A 6 < hpN h := M.2.2 6 (by decide)
theorem MOK.a7 {h : Hp} {y : Nat} {A : Nat → Nat} (M : MOK h y A) : hpR h y 7 = some (A 7) ∧ hpT h (A 7) = 82 ∧ hpL h (A 7) = 160 ∧ A 7 < hpN h := M.2.2 7 (by decide)
theorem MOK.a8 {h : Hp} {y : Nat} {A : Nat → Nat} (M : MOK h y A) : hpR h y 8 = some (A 8) ∧ hpT h (A 8) = 83 ∧ hpL h (A 8) = 160 ∧ A 8 < hpN h := M.2.2 8 (by decide)
theorem MOK.a9 {h : Hp} {y : Nat} {A : Nat → Nat} (M : MOK h y A) : hpR h y 9 = some (A 9) ∧ hpT h (A 9) = 84 ∧ hpL h (A 9) = 160 ∧ A 9 < hpN h := M.2.2 9 (by decide)
theorem MOK.a10 {h : Hp} {y : Nat} {A : Nat → Nat} (M : MOK h y A) : hpR h y 10 = some (A 10) ∧ hpT h (A 10) = 85 ∧ hpL h (A 10) = 1280 ∧ A 10 < hpN h := M.2.2 10 (by decide)
theorem MOK.a11 {h : Hp} {y : Nat} {A : Nat → Nat} (M : MOK h y A) : hpR h y 11 = some (A 11) ∧ hpT h (A 11) = 86 ∧ hpL h (A 11) = 640 ∧ A 11 < hpN h := M.2.2 11 (by decide)
theorem MOK.a12 {h : Hp} {y : Nat} {A : Nat → Nat} (M : MOK h y A) : hpR h y 12 = some (A 12) ∧ hpT h (A 12) = 87 ∧ hpL h (A 12) = 160 ∧ A 12 < hpN h := M.2.2 12 (by decide)
theorem MOK.a13 {h : Hp} {y : Nat} {A : Nat → Nat} (M : MOK h y A) : hpR h y 13 = some (A 13) ∧ hpT h (A 13) = 88 ∧ hpL h (A 13) = 32 ∧ A 13 < hpN h := M.2.2 13 (by decide)
theorem MOK.a14 {h : Hp} {y : Nat} {A : Nat → Nat} (M : MOK h y A) : hpR h y 14 = some (A 14) ∧ hpT h (A 14) = 89 ∧ hpL h (A 14) = 32 ∧ A 14 < hpN h := M.2.2 14 (by decide)
theorem MOK.a15 {h : Hp} {y : Nat} {A : Nat → Nat} (M : MOK h y A) : hpR h y 15 = some (A 15) ∧ hpT h (A 15) = 90 ∧ hpL h (A 15) = 32 ∧ A 15 < hpN h := M.2.2 15 (by decide)
theorem MOK.a16 {h : Hp} {y : Nat} {A : Nat → Nat} (M : MOK h y A) : hpR h y 16 = some (A 16) ∧ hpT h (A 16) = 91 ∧ hpL h (A 16) = 32 ∧ A 16 < hpN h := M.2.2 16 (by decide)
theorem MOK.a17 {h : Hp} {y : Nat} {A : Nat → Nat} (M : MOK h y A) : hpR h y 17 = some (A 17) ∧ hpT h (A 17) = 92 ∧ hpL h (A 17) = 32 ∧ A 17 < hpN h := M.2.2 17 (by decide)
theorem MOK.a18 {h : Hp} {y : Nat} {A : Nat → Nat} (M : MOK h y A) : hpR h y 18 = some (A 18) ∧ hpT h (A 18) = 93 ∧ hpL h (A 18) = 32 ∧ A 18 < hpN h := M.2.2 18 (by decide)
theorem MOK.a20 {h : Hp} {y : Nat} {A : Nat → Nat} (M : MOK h y A) : hpR h y 20 = some (A 20) ∧ hpT h (A 20) = 94 ∧ hpL h (A 20) = 32 ∧ A 20 < hpN h := M.2.2 20 (by decide)
theorem MOK.a21 {h : Hp} {y : Nat} {A : Nat → Nat} (M : MOK h y A) : hpR h y 21 = some (A 21) ∧ hpT h (A 21) = 95 ∧ hpL h (A 21) = 32 ∧ A 21 < hpN h := M.2.2 21 (by decide)
theorem MOK.a22 {h : Hp} {y : Nat} {A : Nat → Nat} (M : MOK h y A) : hpR h y 22 = some (A 22) ∧ hpT h (A 22) = 96 ∧ hpL h (A 22) = 32 ∧ A 22 < hpN h := M.2.2 22 (by decide)
theorem MOK.a23 {h : Hp} {y : Nat} {A : Nat → Nat} (M : MOK h y A) : hpR h y 23 = some (A 23) ∧ hpT h (A 23) = 97 ∧ hpL h (A 23) = 32 ∧ A 23 < hpN h := M.2.2 23 (by decide)
theorem MOK.a24 {h : Hp} {y : Nat} {A : Nat → Nat} (M : MOK h y A) : hpR h y 24 = some (A 24) ∧ hpT h (A 24) = 98 ∧ hpL h (A 24) = 32 ∧ A 24 < hpN h := M.2.2 24 (by decide)
theorem MOK.a27 {h : Hp} {y : Nat} {A : Nat → Nat} (M : MOK h y A) : hpR h y 27 = some (A 27) ∧ hpT h (A 27) = 99 ∧ hpL h (A 27) = 48 ∧ A 27 < hpN h := M.2.2 27 (by decide)
theorem MOK.a28 {h : Hp} {y : Nat} {A : Nat → Nat} (M : MOK h y A) : hpR h y 28 = some (A 28) ∧ hpT h (A 28) = 100 ∧ hpL h (A 28) = 48 ∧ A 28 < hpN h := M.2.2 28 (by decide)
theorem MOK.a29 {h : Hp} {y : Nat} {A : Nat → Nat} (M : MOK h y A) : hpR h y 29 = some (A 29) ∧ hpT h (A 29) = 101 ∧ hpL h (A 29) = 48 ∧ A 29 < hpN h := M.2.2 29 (by decide)
theorem MOK.a33 {h : Hp} {y : Nat} {A : Nat → Nat} (M : MOK h y A) : hpR h y 33 = some (A 33) ∧ hpT h (A 33) = 102 ∧ hpL h (A 33) = 4 ∧ A 33 < hpN h := M.2.2 33 (by decide)

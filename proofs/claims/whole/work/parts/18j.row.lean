/-! THE FIRST ROW OF n FREE BLOCKS -/
def RW (free : Nat → Bool) (n : Nat) (o : Option Nat) : Prop := match o with
  | some b => b + n ≤ 32 ∧ (∀ z, b ≤ z → z < b + n → free z = true) ∧ ∀ b', b' < b → ∃ z, b' ≤ z ∧ z < b' + n ∧ free z = false
  | none => ∀ b', b' + n ≤ 32 → ∃ z, b' ≤ z ∧ z < b' + n ∧ free z = false
theorem RW.uniq {free : Nat → Bool} {n : Nat} {o o' : Option Nat} (a : RW free n o) (b : RW free n o') : o = o' := by
  cases o with
  | none =>
    cases o' with
    | none => rfl
    | some y =>
      obtain ⟨z, z1, z2, z3⟩ := a y b.1
      rw [b.2.1 z z1 z2] at z3; cases z3
  | some x =>
    cases o' with
    | none =>
      obtain ⟨z, z1, z2, z3⟩ := b x a.1
      rw [a.2.1 z z1 z2] at z3; cases z3
    | some y =>
      rcases Nat.lt_trichotomy x y with q | q | q
      · obtain ⟨z, z1, z2, z3⟩ := b.2.2 x q
        rw [a.2.1 z z1 z2] at z3; cases z3
      · rw [q]
      · obtain ⟨z, z1, z2, z3⟩ := a.2.2 y q
        rw [b.2.1 z z1 z2] at z3; cases z3
def RQ (free : Nat → Bool) (n b r : Nat) : Prop := r < n ∧ r ≤ b ∧ (∀ z, b - r ≤ z → z < b → free z = true) ∧ (r < b → free (b - r - 1) = false) ∧ ∀ b', b' + n ≤ b → ∃ z, b' ≤ z ∧ z < b' + n ∧ free z = false
theorem RQ.z {free : Nat → Bool} {n : Nat} (hn : 0 < n) : RQ free n 0 0 := ⟨hn, Nat.le_refl _, fun z _ hz => absurd hz (Nat.not_lt_zero _), fun q => absurd q (Nat.not_lt_zero _), fun b' h => absurd h (by omega)⟩
theorem RQ.no {free : Nat → Bool} {n b r : Nat} (q : RQ free n b r) (hf : free b = false) : RQ free n (b + 1) 0 := by
  obtain ⟨q1, q2, q3, q4, q5⟩ := q
  refine ⟨by omega, Nat.zero_le _, fun z h1 h2 => absurd h2 (by omega), fun _ => by simpa using hf, fun b' h => ?_⟩
  by_cases e : b' + n = b + 1
  · exact ⟨b, by omega, by omega, hf⟩
  · exact q5 b' (by omega)
theorem RQ.more {free : Nat → Bool} {n b r : Nat} (q : RQ free n b r) (hf : free b = true) (hr : r + 1 < n) : RQ free n (b + 1) (r + 1) := by
  obtain ⟨q1, q2, q3, q4, q5⟩ := q
  refine ⟨hr, by omega, fun z h1 h2 => ?_, fun h => ?_, fun b' h => ?_⟩
  · by_cases e : z = b
    · rw [e]; exact hf
    · exact q3 z (by omega) (by omega)
  · rw [show b + 1 - (r + 1) - 1 = b - r - 1 by omega]; exact q4 (by omega)
  · by_cases e : b' + n = b + 1
    · exact ⟨b - r - 1, by omega, by omega, q4 (by omega)⟩
    · exact q5 b' (by omega)
theorem RQ.hit {free : Nat → Bool} {n b r : Nat} (q : RQ free n b r) (hf : free b = true) (hr : r + 1 = n) (hb : b < 32) : RW free n (some (b + 1 - n)) := by
  obtain ⟨q1, q2, q3, q4, q5⟩ := q
  refine ⟨by omega, fun z h1 h2 => ?_, fun b' h => q5 b' (by omega)⟩
  by_cases e : z = b
  · rw [e]; exact hf
  · exact q3 z (by omega) (by omega)
theorem RQ.end {free : Nat → Bool} {n r : Nat} (q : RQ free n 32 r) : RW free n none := fun b' h => q.2.2.2.2 b' h
/-- the class's file: its arrays contents, settled, isFree, isPending, pendingBlocks -/
def FO (h : Hp) (F c0 c1 c2 c3 c4 : Nat) : Prop := hpT h F = 1 ∧ F < hpN h ∧ (hpR h F 0 = some c0 ∧ hpT h c0 = 68 ∧ hpL h c0 = 32 ∧ c0 < hpN h) ∧ (hpR h F 1 = some c1 ∧ hpT h c1 = 69 ∧ hpL h c1 = 32 ∧ c1 < hpN h) ∧ (hpR h F 2 = some c2 ∧ hpT h c2 = 70 ∧ hpL h c2 = 32 ∧ c2 < hpN h) ∧ (hpR h F 3 = some c3 ∧ hpT h c3 = 71 ∧ hpL h c3 = 32 ∧ c3 < hpN h) ∧ (hpR h F 4 = some c4 ∧ hpT h c4 = 72 ∧ hpL h c4 = 32 ∧ c4 < hpN h)
/-- ints 0, 1 in an array of 32 places -/
def Bs (h : Hp) (c : Nat) (f : Nat → Bool) : Prop := ∀ b, b < 32 → hpI h c b = b01 (f b)
theorem row_ix {b n : Nat} (hn : n ≤ b + 1) (hb : b < 32) : nI b - nI n + 1 = nI (b + 1 - n) := by
  rcases Nat.lt_or_ge b n with q | q
  · have : n = b + 1 := by omega
    subst this
    rw [Nat.sub_self]
    have e : nI b - nI (b + 1) + 1 = 0 := by
      rw [← nI_1 b, Int32.sub_eq_add_neg, Int32.neg_add]
      have : nI b + (-nI b + -1) + 1 = 0 := by
        rw [← Int32.add_assoc, Int32.add_right_neg, Int32.zero_add]; rfl
      simpa [Int32.sub_eq_add_neg] using this
    rw [e]; rfl
  · rw [pk_sub q, nI_1]
    congr 1; omega
theorem x_room {h : Hp} {F c0 c1 c2 c3 c4 n : Nat} {free : Nat → Bool} (O : FO h F c0 c1 c2 c3 c4) (B : Bs h c2 free) (hn : 0 < n) (hn2 : n < 100) : ∃ o, RW free n o ∧ f_F_findFreeRow F (nI n) h = some (match o with | none => -2 | some b => nI b, h) := by
  have r2 := O.2.2.2.2.1
  have key : ∃ r, l_F_findFreeRow_4 F (nI n) ((0 : Int32), (0 : Int32), h) = some r ∧ ((r = .inl h ∧ RW free n none) ∨ ∃ b, r = .inr (nI b, h) ∧ RW free n (some b)) := by
    unfold l_F_findFreeRow_4
    refine lp_up (fun j s => ∃ r, s = (nI r, nI j, h) ∧ RQ free n j r) _ 32 (by decide) ⟨0, rfl, RQ.z hn⟩ (fun j s hj hs => ?_) (fun s hs => ?_)
    · obtain ⟨r, rfl, q⟩ := hs
      have q1 := q.1
      have q2 := q.2.1
      have eb : b_F_findFreeRow_4 F (nI n) (nI r) (nI j) h = if b01 (free j) = 0 then j_F_findFreeRow_26_L4 F (nI n) (nI j) 0 h else j_F_findFreeRow_26_L4 F (nI n) (nI j) (nI (r + 1)) h := by
        unfold b_F_findFreeRow_4
        rw [if_neg (nI_ge hj (by decide)), gd_t (isK_of O.1), dr_s r2.1, gd_t (isK_of r2.2.1), gd_t (inb_n (by rw [r2.2.2.1]; exact hj) (by rw [r2.2.2.1]; decide)), nI_clamp (by omega), B j hj, nI_1]
      show (∃ s', b_F_findFreeRow_4 F (nI n) (nI r) (nI j) h = some (.inl s') ∧ _) ∨ ∃ z, b_F_findFreeRow_4 F (nI n) (nI r) (nI j) h = some (.inr z) ∧ _
      rw [eb]
      cases hf : free j with
      | false =>
        rw [if_pos (by decide)]
        unfold j_F_findFreeRow_26_L4
        rw [if_pos (show (0 : Int32) < nI n from nI_lt (a := 0) hn (by omega)), nI_1]
        exact Or.inl ⟨_, rfl, 0, rfl, q.no hf⟩
      | true =>
        rw [if_neg (by decide)]
        unfold j_F_findFreeRow_26_L4
        by_cases e : r + 1 < n
        · rw [if_pos (nI_lt e (by omega)), nI_1]
          exact Or.inl ⟨_, rfl, r + 1, rfl, q.more hf e⟩
        · rw [if_neg (nI_nlt (by omega) (by omega)), row_ix (by omega) hj]
          exact Or.inr ⟨_, rfl, Or.inr ⟨_, rfl, q.hit hf (by omega) hj⟩⟩
    · obtain ⟨r, rfl, q⟩ := hs
      refine ⟨.inl h, ?_, Or.inl ⟨rfl, q.end⟩⟩
      show b_F_findFreeRow_4 F (nI n) (nI r) (nI 32) h = _
      unfold b_F_findFreeRow_4
      rw [if_pos (nI_le (Nat.le_refl _) (by decide))]
  obtain ⟨r, e, q⟩ := key
  unfold f_F_findFreeRow
  rcases q with ⟨rfl, q⟩ | ⟨b, rfl, q⟩
  · exact ⟨none, q, by rw [lk_l e]⟩
  · exact ⟨some b, q, by rw [lk_r e]⟩
theorem m_room {h : Hp} {y : Nat} {A : Nat → Nat} {n : Nat} {free : Nat → Bool} (M : MOK h y A) (B : Bs h (A 18) free) (hn : 0 < n) (hn2 : n < 100) : ∃ o, RW free n o ∧ f_M_room y (nI n) h = some (match o with | none => -1 | some b => nI b, h) := by
  have r2 := M.a18
  have key : ∃ r, l_M_room_4 y (nI n) ((0 : Int32), (0 : Int32), h) = some r ∧ ((r = .inl h ∧ RW free n none) ∨ ∃ b, r = .inr (nI b, h) ∧ RW free n (some b)) := by
    unfold l_M_room_4
    refine lp_up (fun j s => ∃ r, s = (nI r, nI j, h) ∧ RQ free n j r) _ 32 (by decide) ⟨0, rfl, RQ.z hn⟩ (fun j s hj hs => ?_) (fun s hs => ?_)
    · obtain ⟨r, rfl, q⟩ := hs
      have q1 := q.1
      have q2 := q.2.1
      have eb : b_M_room_4 y (nI n) (nI r) (nI j) h = if b01 (free j) = 0 then j_M_room_26_L4 y (nI n) (nI j) 0 h else j_M_room_26_L4 y (nI n) (nI j) (nI (r + 1)) h := by
        unfold b_M_room_4
        rw [if_neg (nI_ge hj (by decide)), gd_t (isK_of M.1), dr_s r2.1, gd_t (isK_of r2.2.1), gd_t (inb_n (by rw [r2.2.2.1]; exact hj) (by rw [r2.2.2.1]; decide)), nI_clamp (by omega), B j hj, nI_1]
      show (∃ s', b_M_room_4 y (nI n) (nI r) (nI j) h = some (.inl s') ∧ _) ∨ ∃ z, b_M_room_4 y (nI n) (nI r) (nI j) h = some (.inr z) ∧ _
      rw [eb]
      cases hf : free j with
      | false =>
        rw [if_pos (by decide)]
        unfold j_M_room_26_L4
        rw [if_neg (show ¬ (0 : Int32) = nI n from fun z => nI_ne0 hn (by omega) z.symm), nI_1]
        exact Or.inl ⟨_, rfl, 0, rfl, q.no hf⟩
      | true =>
        rw [if_neg (by decide)]
        unfold j_M_room_26_L4
        by_cases e : r + 1 < n
        · rw [if_neg (fun z => absurd ((nI_inj (by omega) (by omega)).mp z) (by omega)), nI_1]
          exact Or.inl ⟨_, rfl, r + 1, rfl, q.more hf e⟩
        · rw [if_pos (by congr 1; omega), row_ix (by omega) hj]
          exact Or.inr ⟨_, rfl, Or.inr ⟨_, rfl, q.hit hf (by omega) hj⟩⟩
    · obtain ⟨r, rfl, q⟩ := hs
      refine ⟨.inl h, ?_, Or.inl ⟨rfl, q.end⟩⟩
      show b_M_room_4 y (nI n) (nI r) (nI 32) h = _
      unfold b_M_room_4
      rw [if_pos (nI_le (Nat.le_refl _) (by decide))]
  obtain ⟨r, e, q⟩ := key
  unfold f_M_room
  rcases q with ⟨rfl, q⟩ | ⟨b, rfl, q⟩
  · exact ⟨none, q, by rw [lk_l e]⟩
  · exact ⟨some b, q, by rw [lk_r e]⟩

/-- a loop that searches: the first j with P j -/
theorem lp_find {R : Type} {b : Int32 × Hp → Option ((Int32 × Hp) ⊕ (Hp ⊕ (R × Hp)))} (h : Hp) (N : Nat) (hN : N < 4096) (P : Nat → Prop) (res : Nat → R) (hy : ∀ j, j < N → P j → b (nI j, h) = some (.inr (.inr (res j, h)))) (hn : ∀ j, j < N → ¬ P j → b (nI j, h) = some (.inl (nI (j + 1), h))) (he : b (nI N, h) = some (.inr (.inl h))) :
    (lp b FU ((0 : Int32), h) = some (.inl h) ∧ ∀ j, j < N → ¬ P j) ∨ ∃ j, j < N ∧ P j ∧ (∀ i, i < j → ¬ P i) ∧ lp b FU ((0 : Int32), h) = some (.inr (res j, h)) := by
  have key := lp_up (b := b) (fun j s => s = (nI j, h) ∧ ∀ i, i < j → ¬ P i) (fun r => (r = .inl h ∧ ∀ j, j < N → ¬ P j) ∨ ∃ j, j < N ∧ P j ∧ (∀ i, i < j → ¬ P i) ∧ r = .inr (res j, h)) N hN (s := ((0 : Int32), h)) ⟨rfl, fun i hi => absurd hi (Nat.not_lt_zero _)⟩ (fun j s hj hs => by
    obtain ⟨rfl, hs⟩ := hs
    by_cases c : P j
    · exact Or.inr ⟨_, hy j hj c, Or.inr ⟨j, hj, c, hs, rfl⟩⟩
    · refine Or.inl ⟨_, hn j hj c, rfl, fun i hi => ?_⟩
      by_cases e : i = j
      · rw [e]; exact c
      · exact hs i (by omega)) (fun s hs => by
    obtain ⟨rfl, hs⟩ := hs
    exact ⟨_, he, Or.inl ⟨rfl, hs⟩⟩)
  obtain ⟨r, e, q⟩ := key
  rcases q with ⟨rfl, q⟩ | ⟨j, q1, q2, q3, rfl⟩
  · exact Or.inl ⟨e, q⟩
  · exact Or.inr ⟨j, q1, q2, q3, e⟩
/-! THE REFERENCE'S POOL OF PAGES: ids and places -/
def PgR (h : Hp) (A : Nat → Nat) (pid pat : Nat → Nat) : Prop := ∀ i, i < 160 → hpI h (A 4) i = nI (pid i) ∧ hpI h (A 5) i = nI (pat i) ∧ pid i < 2 ^ 20 ∧ pat i < 2 ^ 20
def PgF (pid pat : Nat → Nat) (key : Nat) (o : Option Nat) : Prop := match o with
  | none => key = 0 ∨ ∀ i, i < 160 → ¬ (pid i = key / 32 ∧ pat i = key % 32)
  | some i => 0 < key ∧ i < 160 ∧ (pid i = key / 32 ∧ pat i = key % 32) ∧ ∀ j, j < i → ¬ (pid j = key / 32 ∧ pat j = key % 32)
theorem m_page {h : Hp} {y : Nat} {A : Nat → Nat} {pid pat : Nat → Nat} {key : Nat} (M : MOK h y A) (G : PgR h A pid pat) (hk : key < 2 ^ 25) : ∃ o, PgF pid pat key o ∧ f_M_page y (nI key) h = some (fi o, h) := by
  have r4 := M.a4
  have r5 := M.a5
  rcases Nat.eq_zero_or_pos key with h0 | h0
  · subst h0
    refine ⟨none, Or.inl rfl, ?_⟩
    have e : l_M_page_2 y (nI 0) ((0 : Int32), h) = some (.inl h) := by
      unfold l_M_page_2
      show (b_M_page_2 y (nI 0) 0 h).bind _ = _
      have : b_M_page_2 y (nI 0) 0 h = some (.inr (.inl h)) := by
        unfold b_M_page_2
        rw [if_neg (by decide), if_pos (by decide)]
      rw [this]; rfl
    unfold f_M_page
    rw [lk_l e]; rfl
  · have eb : ∀ j, j < 160 → b_M_page_2 y (nI key) (nI j) h = if nI (pid j) = nI (key / 32) then (if nI (pat j) = nI (key % 32) then some (.inr (.inr (nI j, h))) else some (.inl (nI (j + 1), h))) else some (.inl (nI (j + 1), h)) := by
      intro j hj
      obtain ⟨g1, g2, g3, g4⟩ := G j hj
      unfold b_M_page_2
      rw [if_neg (nI_ge hj (by decide)), if_neg (nI_nle h0 (by omega)), gd_t (isK_of M.1), dr_s r4.1, gd_t (isK_of r4.2.1), gd_t (inb_n (by rw [r4.2.2.1]; exact hj) (by rw [r4.2.2.1]; decide)), nI_clamp (by omega), g1, pk_div (by omega) (by decide) (by decide), dr_s r5.1, gd_t (isK_of r5.2.1), gd_t (inb_n (by rw [r5.2.2.1]; exact hj) (by rw [r5.2.2.1]; decide)), g2, ← pk_div (a := key) (d := 32) (by omega) (by decide) (by decide), pk_rem (by omega) (by decide) (by decide), nI_1]
    have F := lp_find (b := fun s => b_M_page_2 y (nI key) s.1 s.2) h 160 (by decide) (fun j => pid j = key / 32 ∧ pat j = key % 32) (fun j => nI j) (fun j hj c => by
      show b_M_page_2 y (nI key) (nI j) h = _
      rw [eb j hj, if_pos (by rw [c.1]), if_pos (by rw [c.2])]) (fun j hj c => by
      show b_M_page_2 y (nI key) (nI j) h = _
      obtain ⟨g1, g2, g3, g4⟩ := G j hj
      rw [eb j hj]
      by_cases c1 : pid j = key / 32
      · rw [if_pos (by rw [c1]), if_neg (fun z => c ⟨c1, (nI_inj (by omega) (by omega)).mp z⟩)]
      · rw [if_neg (fun z => c1 ((nI_inj (by omega) (by omega)).mp z))]) (by
      show b_M_page_2 y (nI key) (nI 160) h = _
      unfold b_M_page_2
      rw [if_pos (nI_le (Nat.le_refl _) (by decide))])
    unfold f_M_page
    rcases F with ⟨e, q⟩ | ⟨j, q1, q2, q3, e⟩
    · exact ⟨none, Or.inr q, by rw [lk_l (show l_M_page_2 y (nI key) ((0 : Int32), h) = some (.inl h) from e)]; rfl⟩
    · exact ⟨some j, ⟨h0, q1, q2, q3⟩, by rw [lk_r (show l_M_page_2 y (nI key) ((0 : Int32), h) = some (.inr (nI j, h)) from e)]; rfl⟩
/-! WHO HOLDS A BLOCK: pairs in two arrays of 32 -/
def Bp (h : Hp) (c d : Nat) (f : Nat → Nat × Nat) : Prop := ∀ b, b < 32 → hpI h c b = nI (f b).1 ∧ hpI h d b = nI (f b).2 ∧ (f b).1 < 2 ^ 20 ∧ (f b).2 < 2 ^ 20
def hb (f : Nat → Nat × Nat) (id q : Nat) : Bool := (List.range 32).any fun b => decide (f b = (id, q))
theorem hb_t {f : Nat → Nat × Nat} {id q : Nat} : hb f id q = true ↔ ∃ b, b < 32 ∧ f b = (id, q) := by
  unfold hb
  rw [List.any_eq_true]
  refine ⟨fun ⟨b, h1, h2⟩ => ⟨b, List.mem_range.mp h1, of_decide_eq_true h2⟩, fun ⟨b, h1, h2⟩ => ⟨b, List.mem_range.mpr h1, decide_eq_true h2⟩⟩
theorem hb_f {f : Nat → Nat × Nat} {id q : Nat} (h : ∀ b, b < 32 → ¬ f b = (id, q)) : hb f id q = false := by
  cases e : hb f id q with
  | false => rfl
  | true =>
    obtain ⟨b, h1, h2⟩ := hb_t.mp e
    exact absurd h2 (h b h1)
theorem m_holds {h : Hp} {y : Nat} {A : Nat → Nat} {f g : Nat → Nat × Nat} {id q : Nat} (M : MOK h y A) (C : Bp h (A 13) (A 14) f) (S : Bp h (A 15) (A 16) g) (hi : id < 2 ^ 20) (hq : q < 2 ^ 20) (s : Bool) : f_M_holds y (nI id) (nI q) (b01 s) h = some (b01 (hb (bif s then g else f) id q), h) := by
  have r13 := M.a13
  have r14 := M.a14
  have r15 := M.a15
  have r16 := M.a16
  have zz : ∀ b : Bool, zb (b01 b) = true := fun b => by cases b <;> decide
  obtain ⟨w, hw⟩ : ∃ w : Nat → Nat × Nat, w = (bif s then g else f) := ⟨_, rfl⟩
  have hb2 : ∀ b, b < 32 → (w b).1 < 2 ^ 20 ∧ (w b).2 < 2 ^ 20 := fun b hb => by
    rw [hw]
    cases s
    · exact (C b hb).2.2
    · exact (S b hb).2.2
  have eb : ∀ j, j < 32 → b_M_holds_3 y (nI id) (nI q) (b01 s) (nI j) h = if nI (w j).1 = nI id then (if nI (w j).2 = nI q then some (.inr (.inr ((1 : Int32), h))) else some (.inl (nI (j + 1), h))) else some (.inl (nI (j + 1), h)) := by
    intro j hj
    obtain ⟨c1, c2, -⟩ := C j hj
    obtain ⟨s1, s2, -⟩ := S j hj
    unfold b_M_holds_3
    rw [if_neg (nI_ge hj (by decide)), hw]
    cases s
    · rw [if_pos (show b01 false = 0 from rfl), gd_t (isK_of M.1), dr_s r13.1, gd_t (isK_of r13.2.1), gd_t (inb_n (by rw [r13.2.2.1]; exact hj) (by rw [r13.2.2.1]; decide)), nI_clamp (by omega), c1, dr_s r14.1, gd_t (isK_of r14.2.1), gd_t (inb_n (by rw [r14.2.2.1]; exact hj) (by rw [r14.2.2.1]; decide)), c2, nI_1]
      rfl
    · rw [if_neg (show ¬ b01 true = 0 by decide), gd_t (isK_of M.1), dr_s r15.1, gd_t (isK_of r15.2.1), gd_t (inb_n (by rw [r15.2.2.1]; exact hj) (by rw [r15.2.2.1]; decide)), nI_clamp (by omega), s1, dr_s r16.1, gd_t (isK_of r16.2.1), gd_t (inb_n (by rw [r16.2.2.1]; exact hj) (by rw [r16.2.2.1]; decide)), s2, nI_1]
      rfl
  have F := lp_find (b := fun z => b_M_holds_3 y (nI id) (nI q) (b01 s) z.1 z.2) h 32 (by decide) (fun j => w j = (id, q)) (fun _ => (1 : Int32)) (fun j hj c => by
    show b_M_holds_3 y (nI id) (nI q) (b01 s) (nI j) h = _
    rw [eb j hj, if_pos (by rw [c]), if_pos (by rw [c])]) (fun j hj c => by
    show b_M_holds_3 y (nI id) (nI q) (b01 s) (nI j) h = _
    have h2 := hb2 j hj
    rw [eb j hj]
    by_cases c1 : (w j).1 = id
    · rw [if_pos (by rw [c1]), if_neg (fun z => c (Prod.ext c1 ((nI_inj (by omega) (by omega)).mp z)))]
    · rw [if_neg (fun z => c1 ((nI_inj (by omega) (by omega)).mp z))]) (by
    show b_M_holds_3 y (nI id) (nI q) (b01 s) (nI 32) h = _
    unfold b_M_holds_3
    rw [if_pos (nI_le (Nat.le_refl _) (by decide))])
  rw [← hw]
  refine zbw_s ?_ (zz _)
  unfold f0_M_holds
  rcases F with ⟨e, z⟩ | ⟨j, z1, z2, -, e⟩
  · rw [lk_l (show l_M_holds_3 y (nI id) (nI q) (b01 s) ((0 : Int32), h) = some (.inl h) from e), hb_f z]
    rfl
  · rw [lk_r (show l_M_holds_3 y (nI id) (nI q) (b01 s) ((0 : Int32), h) = some (.inr ((1 : Int32), h)) from e), hb_t.mpr ⟨j, z1, z2⟩]
    rfl

theorem ts_nf {x : Bool} (h : ¬ x = false) : x = true := by cases x <;> first | rfl | exact absurd rfl h
theorem ts_nt {x : Bool} (h : ¬ x = true) : x = false := by cases x <;> first | rfl | exact absurd rfl h
/-- a search from k0 on -/
theorem lp_findF {R : Type} {b : Int32 × Hp → Option ((Int32 × Hp) ⊕ (Hp ⊕ (R × Hp)))} (h : Hp) (k0 N : Nat) (hk : k0 ≤ N) (hN : N < 4096) (P : Nat → Prop) (res : Nat → R) (hy : ∀ j, k0 ≤ j → j < N → P j → b (nI j, h) = some (.inr (.inr (res j, h)))) (hn : ∀ j, k0 ≤ j → j < N → ¬ P j → b (nI j, h) = some (.inl (nI (j + 1), h))) (he : b (nI N, h) = some (.inr (.inl h))) :
    (lp b FU (nI k0, h) = some (.inl h) ∧ ∀ j, k0 ≤ j → j < N → ¬ P j) ∨ ∃ j, k0 ≤ j ∧ j < N ∧ P j ∧ lp b FU (nI k0, h) = some (.inr (res j, h)) := by
  have key := lp_for (b := b) (fun j s => k0 ≤ j ∧ s = (nI j, h) ∧ ∀ i, k0 ≤ i → i < j → ¬ P i) (fun r => (r = .inl h ∧ ∀ j, k0 ≤ j → j < N → ¬ P j) ∨ ∃ j, k0 ≤ j ∧ j < N ∧ P j ∧ r = .inr (res j, h)) N (fun j s hj hs => by
    obtain ⟨hjj, rfl, hs⟩ := hs
    by_cases c : P j
    · exact Or.inr ⟨_, hy j hjj hj c, Or.inr ⟨j, hjj, hj, c, rfl⟩⟩
    · refine Or.inl ⟨_, hn j hjj hj c, by omega, rfl, fun i hi1 hi => ?_⟩
      by_cases e : i = j
      · rw [e]; exact c
      · exact hs i hi1 (by omega)) (fun s hs => by
    obtain ⟨-, rfl, hs⟩ := hs
    exact ⟨_, he, Or.inl ⟨rfl, hs⟩⟩) FU k0 (nI k0, h) hk (by show N - k0 < 4096; omega) ⟨Nat.le_refl _, rfl, fun i h1 h2 => absurd h2 (by omega)⟩
  obtain ⟨r, e, q⟩ := key
  rcases q with ⟨rfl, q⟩ | ⟨j, q1, q2, q3, rfl⟩
  · exact Or.inl ⟨e, q⟩
  · exact Or.inr ⟨j, q1, q2, q3, e⟩
/-! has the leaf, the map a key; is the map changed -/
def lh (now : Nat → Option Int32) (m j : Nat) : Bool := (List.range 8).any fun x => (now (32 * m + (8 * j + x))).isSome
def mh (now : Nat → Option Int32) (m : Nat) : Bool := (List.range 4).any fun j => lh now m j
def mc (tl tm : Nat → Bool) (m : Nat) : Bool := tm m || (tl (4 * m) || (tl (4 * m + 1) || (tl (4 * m + 2) || tl (4 * m + 3))))
theorem any_t {f : Nat → Bool} {n : Nat} : (List.range n).any f = true ↔ ∃ x, x < n ∧ f x = true := by
  rw [List.any_eq_true]
  exact ⟨fun ⟨x, h1, h2⟩ => ⟨x, List.mem_range.mp h1, h2⟩, fun ⟨x, h1, h2⟩ => ⟨x, List.mem_range.mpr h1, h2⟩⟩
theorem any_f {f : Nat → Bool} {n : Nat} (h : ∀ x, x < n → f x = false) : (List.range n).any f = false := by
  cases e : (List.range n).any f with
  | false => rfl
  | true =>
    obtain ⟨x, h1, h2⟩ := any_t.mp e
    rw [h x h1] at h2; cases h2
theorem zb_b (b : Bool) : zb (b01 b) = true := by cases b <;> decide
theorem m_leafHas {h : Hp} {y : Nat} {A : Nat → Nat} {now : Nat → Option Int32} {m j : Nat} (M : MOK h y A) (N : MNow h A now) (hm : m < 4) (hj : j < 4) : f_M_leafHas y (nI m) (nI j) h = some (b01 (lh now m j), h) := by
  have r0 := M.a0
  have e8 : nI 8 * nI j = nI (8 * j) := pk_mul 8 j
  have eb : ∀ x, 8 * j ≤ x → x < 8 * j + 8 → b_M_leafHas_5 y (nI m) (nI j) (nI x) h = if b01 (now (32 * m + x)).isSome = 0 then some (.inl (nI (x + 1), h)) else some (.inr (.inr ((1 : Int32), h))) := by
    intro x h1 h2
    unfold b_M_leafHas_5
    rw [e8, nI_add, if_neg (nI_ge h2 (by omega)), gd_t (isK_of M.1), dr_s r0.1, gd_t (isK_of r0.2.1), ix_32, gd_t (inb_n (by rw [r0.2.2.1]; omega) (by rw [r0.2.2.1]; decide)), nI_clamp (by omega), (N _ (by omega)).1, nI_1]
  have F := lp_findF (b := fun z => b_M_leafHas_5 y (nI m) (nI j) z.1 z.2) h (8 * j) (8 * j + 8) (by omega) (by omega) (fun x => (now (32 * m + x)).isSome = true) (fun _ => (1 : Int32)) (fun x h1 h2 c => by
    show b_M_leafHas_5 y (nI m) (nI j) (nI x) h = _
    rw [eb x h1 h2, c, if_neg (by decide)]) (fun x h1 h2 c => by
    show b_M_leafHas_5 y (nI m) (nI j) (nI x) h = _
    rw [eb x h1 h2, ts_nt c, if_pos (by decide)]) (by
    show b_M_leafHas_5 y (nI m) (nI j) (nI (8 * j + 8)) h = _
    unfold b_M_leafHas_5
    rw [e8, nI_add, if_pos (nI_le (Nat.le_refl _) (by omega))])
  refine zbw_s ?_ (zb_b _)
  unfold f0_M_leafHas
  rw [e8]
  rcases F with ⟨e, z⟩ | ⟨x, z1, z2, z3, e⟩
  · rw [lk_l (show l_M_leafHas_5 y (nI m) (nI j) (nI (8 * j), h) = some (.inl h) from e), show lh now m j = false from any_f (fun x hx => ts_nt (z (8 * j + x) (by omega) (by omega)))]
    rfl
  · rw [lk_r (show l_M_leafHas_5 y (nI m) (nI j) (nI (8 * j), h) = some (.inr ((1 : Int32), h)) from e), show lh now m j = true from any_t.mpr ⟨x - 8 * j, by omega, by rw [show 8 * j + (x - 8 * j) = x by omega]; exact z3⟩]
    rfl
theorem m_mapHas {h : Hp} {y : Nat} {A : Nat → Nat} {now : Nat → Option Int32} {m : Nat} (M : MOK h y A) (N : MNow h A now) (hm : m < 4) : f_M_mapHas y (nI m) h = some (b01 (mh now m), h) := by
  have eb : ∀ j, j < 4 → b_M_mapHas_2 y (nI m) (nI j) h = if b01 (lh now m j) = 0 then some (.inl (nI (j + 1), h)) else some (.inr (.inr ((1 : Int32), h))) := by
    intro j hj
    unfold b_M_mapHas_2
    rw [if_neg (nI_ge hj (by decide)), gd_t (isK_of M.1), cl_s (m_leafHas M N hm hj), nI_1]
  have F := lp_find (b := fun z => b_M_mapHas_2 y (nI m) z.1 z.2) h 4 (by decide) (fun j => lh now m j = true) (fun _ => (1 : Int32)) (fun j hj c => by
    show b_M_mapHas_2 y (nI m) (nI j) h = _
    rw [eb j hj, c, if_neg (by decide)]) (fun j hj c => by
    show b_M_mapHas_2 y (nI m) (nI j) h = _
    rw [eb j hj, ts_nt c, if_pos (by decide)]) (by
    show b_M_mapHas_2 y (nI m) (nI 4) h = _
    unfold b_M_mapHas_2
    rw [if_pos (nI_le (Nat.le_refl _) (by decide))])
  refine zbw_s ?_ (zb_b _)
  unfold f0_M_mapHas
  rcases F with ⟨e, z⟩ | ⟨j, z1, z2, -, e⟩
  · rw [lk_l (show l_M_mapHas_2 y (nI m) ((0 : Int32), h) = some (.inl h) from e), show mh now m = false from any_f (fun j hj => ts_nt (z j hj))]
    rfl
  · rw [lk_r (show l_M_mapHas_2 y (nI m) ((0 : Int32), h) = some (.inr ((1 : Int32), h)) from e), show mh now m = true from any_t.mpr ⟨j, z1, z2⟩]
    rfl
theorem b01_or (a b : Bool) : b01 a ||| b01 b = b01 (a || b) := by cases a <;> cases b <;> decide
def mcp (tl tm : Nat → Bool) (m : Nat) : Nat → Bool
  | 0 => tm m
  | j + 1 => mcp tl tm m j || tl (4 * m + j)
theorem mcp_4 (tl tm : Nat → Bool) (m : Nat) : mcp tl tm m 4 = mc tl tm m := by
  show ((((tm m || tl (4 * m + 0)) || tl (4 * m + 1)) || tl (4 * m + 2)) || tl (4 * m + 3)) = _
  unfold mc
  simp only [Bool.or_assoc, Nat.add_zero]
theorem m_isTouched {h : Hp} {y : Nat} {A : Nat → Nat} {tl tm : Nat → Bool} {m : Nat} (M : MOK h y A) (T : MTl h A tl) (T2 : MTm h A tm) (hm : m < 4) : f_M_isTouched y (nI m) h = some (b01 (mc tl tm m), h) := by
  have r1 := M.a1
  have r2 := M.a2
  have key : ∃ r, l_M_isTouched_9 y (nI m) (b01 (tm m), (0 : Int32), h) = some r ∧ r = (b01 (mc tl tm m), h) := by
    unfold l_M_isTouched_9
    refine lp_up (fun j s => s = (b01 (mcp tl tm m j), nI j, h)) _ 4 (by decide) rfl (fun j s hj hs => Or.inl ?_) (fun s hs => ?_)
    · subst hs
      refine ⟨(b01 (mcp tl tm m (j + 1)), nI (j + 1), h), ?_, rfl⟩
      show b_M_isTouched_9 y (nI m) (b01 (mcp tl tm m j)) (nI j) h = _
      unfold b_M_isTouched_9
      rw [if_neg (nI_ge hj (by decide)), gd_t (isK_of M.1), dr_s r1.1, gd_t (isK_of r1.2.1), ix_4, gd_t (inb_n (by rw [r1.2.2.1]; omega) (by rw [r1.2.2.1]; decide)), nI_clamp (by omega), T _ (by omega), b01_or, nm_v, nI_1]
      rfl
    · subst hs
      refine ⟨_, ?_, rfl⟩
      show b_M_isTouched_9 y (nI m) (b01 (mcp tl tm m 4)) (nI 4) h = _
      unfold b_M_isTouched_9
      rw [if_pos (nI_le (Nat.le_refl _) (by decide)), mcp_4]
  obtain ⟨r, e, rfl⟩ := key
  refine zbw_s ?_ (zb_b _)
  unfold f0_M_isTouched
  rw [gd_t (isK_of M.1), dr_s r2.1, gd_t (isK_of r2.2.1), gd_t (inb_n (by rw [r2.2.2.1]; exact hm) (by rw [r2.2.2.1]; decide)), nI_clamp (by omega), T2 m hm, bd_s e]

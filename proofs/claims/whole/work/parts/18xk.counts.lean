/-! counting: the bounds, and the live pages -/
theorem nd_le {l : List Nat} {K : Nat} (h1 : ∀ i j b : Nat, l[i]? = some b → l[j]? = some b → i = j) (h2 : ∀ b ∈ l, b < K) : l.length ≤ K := by
  have e := cn_inj (g := fun _ => true) (P := fun _ => true) (f := fun i => (l[i]?).getD 0) (n := l.length) (K := K) (fun i hi _ => by
    rw [List.getElem?_eq_getElem hi]; exact h2 _ (List.getElem_mem hi)) (fun i j hi hj _ _ e => by
    rw [List.getElem?_eq_getElem hi, List.getElem?_eq_getElem hj] at e
    refine h1 i j l[i] (List.getElem?_eq_getElem hi) ?_
    rw [List.getElem?_eq_getElem hj]
    exact congrArg some e.symm)
  have a : ∀ n, cn (fun _ => true && true) n = n := fun n => by
    induction n with
    | zero => rfl
    | succ n ih => show cn _ n + 1 = n + 1; rw [ih]
  rw [← a l.length, e]
  exact cn_le _ _
theorem Ivt.pend_le {s : Ab} {base gen : Nat} (I : Ivt s base gen) : s.pend.length ≤ 32 := nd_le I.2.2.2.2.1.1 (fun b hb => (I.2.2.2.2.1.2.1 b hb).1)
theorem Ivt.chs_fs {s : Ab} {base gen a b : Nat} (I : Ivt s base gen) (ha : a ∈ s.chs) (hb : b ∈ s.chs) (e : s.fs a = s.fs b) : a = b := by
  refine Classical.byContradiction fun hn => ?_
  obtain ⟨S, i1, i2, i3, -⟩ := I
  obtain ⟨a1, a2⟩ := i3.1 a ha
  obtain ⟨b1, b2⟩ := i3.1 b hb
  have na := S.2.1 a a1 a2
  have nb := S.2.1 b b1 b2
  exact i3.2.2.2 a ha b hb hn (s.fs a) (by unfold inB nbk; omega) (by unfold inB nbk; omega)
theorem Ivt.chs_le {s : Ab} {base gen : Nat} (I : Ivt s base gen) : s.chs.length ≤ 32 := by
  have := nd_le (l := s.chs.map s.fs) (K := 32) (fun i j b hi hj => ?_) (fun b hb => ?_)
  · rwa [List.length_map] at this
  · rw [List.getElem?_map] at hi hj
    cases ha : s.chs[i]? with
    | none => rw [ha] at hi; cases hi
    | some x =>
      cases hb : s.chs[j]? with
      | none => rw [hb] at hj; cases hj
      | some y =>
        rw [ha] at hi
        rw [hb] at hj
        have e : x = y := I.chs_fs (List.mem_of_getElem? ha) (List.mem_of_getElem? hb) ((Option.some.inj hi).trans (Option.some.inj hj).symm)
        subst e
        have inc := I.2.2.2.1.2.1
        rcases Nat.lt_trichotomy i j with q | q | q
        · exact absurd (inc i j x x ha hb q) (Nat.lt_irrefl _)
        · exact q
        · exact absurd (inc j i x x hb ha q) (Nat.lt_irrefl _)
  · obtain ⟨x, hx, e⟩ := List.mem_map.mp hb
    obtain ⟨x1, x2⟩ := I.2.2.2.1.1 x hx
    have := I.1.2.1 x x1 x2
    omega
theorem Ivt.vers_le {s : Ab} {base gen : Nat} (I : Ivt s base gen) : s.vers.length ≤ 33 := by
  have i5 := I.2.2.2.2.2.1
  have i6 := I.2.2.2.2.2.2.1
  have inc := i5.2.1
  have mc : ∀ t ∈ s.vers, t.2.2 ≠ 0 → vk s.np s.nxt t.2.2 ∧ t.2.2 / 32 ∈ s.chs ∧ mkk s.np (t.2.2 / 32) = t.2.2 := fun t ht h0 => by
    obtain ⟨v, k2⟩ := i5.2.2.2.2 t ht h0
    exact ⟨v, (i6.1 _ (lvb_t.mpr ⟨t, ht, h0, rcb_t.mpr (Or.inl rfl)⟩)).1, mkk_of I.1 v k2⟩
  have := nd_le (l := s.vers.map fun t => if t.2.2 = 0 then 32 else s.fs (t.2.2 / 32)) (K := 33) (fun i j b hi hj => ?_) (fun b hb => ?_)
  · rwa [List.length_map] at this
  · rw [List.getElem?_map] at hi hj
    cases ha : s.vers[i]? with
    | none => rw [ha] at hi; cases hi
    | some x =>
      cases hb : s.vers[j]? with
      | none => rw [hb] at hj; cases hj
      | some y =>
        rw [ha] at hi
        rw [hb] at hj
        have fl : ∀ t ∈ s.vers, t.2.2 ≠ 0 → s.fs (t.2.2 / 32) < 32 := fun t ht h0 => by
          have v := (mc t ht h0).1
          have := I.1.2.1 _ v.1 v.2.1
          omega
        have e : (if x.2.2 = 0 then 32 else s.fs (x.2.2 / 32)) = (if y.2.2 = 0 then 32 else s.fs (y.2.2 / 32)) := (Option.some.inj hi).trans (Option.some.inj hj).symm
        have xm := List.mem_of_getElem? ha
        have ym := List.mem_of_getElem? hb
        have em : x.2.2 = y.2.2 := by
          by_cases c : x.2.2 = 0
          · by_cases d : y.2.2 = 0
            · rw [c, d]
            · rw [if_pos c, if_neg d] at e
              have := fl y ym d
              omega
          · by_cases d : y.2.2 = 0
            · rw [if_neg c, if_pos d] at e
              have := fl x xm c
              omega
            · rw [if_neg c, if_neg d] at e
              obtain ⟨-, x2, x3⟩ := mc x xm c
              obtain ⟨-, y2, y3⟩ := mc y ym d
              rw [← x3, ← y3, I.chs_fs x2 y2 e]
        rcases Nat.lt_trichotomy i j with q | q | q
        · have := inc i j x y ha hb q
          omega
        · exact q
        · have := inc j i y x hb ha q
          omega
  · obtain ⟨x, hx, e⟩ := List.mem_map.mp hb
    by_cases c : x.2.2 = 0
    · rw [if_pos c] at e; omega
    · rw [if_neg c] at e
      have v := (mc x hx c).1
      have := I.1.2.1 _ v.1 v.2.1
      omega
/-- after a purge there is room -/
theorem tk_le {pid pat : Nat → Nat} {f g : Nat → Nat × Nat} (h1 : ∀ i, i < 160 → pid i ≠ 0 → ∃ b, b < 32 ∧ (f b = (pid i, pat i / 2) ∨ g b = (pid i, pat i / 2))) (h2 : ∀ i j, i < 160 → j < 160 → pid i ≠ 0 → pid i = pid j → pat i = pat j → i = j) : tk pid ≤ 128 := by
  have hex : ∀ i, ∃ c, i < 160 → pid i ≠ 0 → c < 64 ∧ (if c < 32 then f c else g (c - 32)) = (pid i, pat i / 2) := fun i => by
    by_cases z : i < 160 ∧ pid i ≠ 0
    · obtain ⟨b, b1, b2 | b2⟩ := h1 i z.1 z.2
      · exact ⟨b, fun _ _ => ⟨by omega, by rw [if_pos b1]; exact b2⟩⟩
      · exact ⟨b + 32, fun _ _ => ⟨by omega, by rw [if_neg (by omega), Nat.add_sub_cancel]; exact b2⟩⟩
    · exact ⟨0, fun a b => absurd ⟨a, b⟩ z⟩
  have e := cn_inj (g := fun t => decide (pid t ≠ 0)) (P := fun _ => true) (f := fun i => 2 * Classical.choose (hex i) + pat i % 2) (n := 160) (K := 128) (fun i hi hg => by
    have := (Classical.choose_spec (hex i) hi (of_decide_eq_true hg)).1
    omega) (fun i j hi hj gi gj e => by
    have ni := of_decide_eq_true gi
    have nj := of_decide_eq_true gj
    obtain ⟨-, a⟩ := Classical.choose_spec (hex i) hi ni
    obtain ⟨-, b⟩ := Classical.choose_spec (hex j) hj nj
    have ec : Classical.choose (hex i) = Classical.choose (hex j) := by omega
    have ep : pat i % 2 = pat j % 2 := by omega
    rw [ec, b] at a
    have a1 := (Prod.mk.inj a).1
    have a2 := (Prod.mk.inj a).2
    exact h2 i j hi hj ni a1.symm (by omega))
  unfold tk
  rw [cn_ext (g := fun i => decide (pid i ≠ 0) && true) (fun i _ => (Bool.and_true _).symm), e]
  exact cn_le _ _
theorem sm_one {g g' : Nat → Nat} {a v n : Nat} (ha : a < n) (h : g a = g' a + v) (hn : ∀ k, k ≠ a → g k = g' k) : sm g n = sm g' n + v := by
  have ex : ∀ n, n ≤ a → sm g n = sm g' n := fun n => by
    induction n with
    | zero => intro _; rfl
    | succ n ih => intro hle; show sm g n + g n = sm g' n + g' n; rw [ih (by omega), hn n (by omega)]
  induction n with
  | zero => omega
  | succ n ih =>
    show sm g n + g n = sm g' n + g' n + v
    by_cases e : a = n
    · subst e
      rw [ex a (Nat.le_refl _), h]; omega
    · rw [ih (by omega), hn n (fun z => e z.symm)]; omega
theorem sm_ext {g g' : Nat → Nat} {n : Nat} (h : ∀ k, k < n → g k = g' k) : sm g n = sm g' n := by
  induction n with
  | zero => rfl
  | succ n ih => show sm g n + g n = sm g' n + g' n; rw [ih (fun k hk => h k (by omega)), h n (by omega)]
theorem tot_sm {f : Nat → Nat} {l : List Nat} {n : Nat} (h1 : l.Pairwise fun a b => a < b) (h2 : ∀ a ∈ l, a < n) : tot f l = sm (fun id => if id ∈ l then f id else 0) n := by
  induction l with
  | nil =>
    have : ∀ n, sm (fun id => if id ∈ ([] : List Nat) then f id else 0) n = 0 := fun n => by
      induction n with
      | zero => rfl
      | succ n ih => show sm _ n + (if n ∈ ([] : List Nat) then f n else 0) = 0; rw [ih, if_neg List.not_mem_nil]
    rw [this]; rfl
  | cons a l ih =>
    obtain ⟨p1, p2⟩ := List.pairwise_cons.mp h1
    have na : a ∉ l := fun z => Nat.lt_irrefl _ (p1 a z)
    show f a + tot f l = _
    rw [ih p2 (fun b hb => h2 b (List.mem_cons_of_mem _ hb))]
    rw [sm_one (a := a) (v := f a) (g := fun id => if id ∈ a :: l then f id else 0) (g' := fun id => if id ∈ l then f id else 0) (h2 a List.mem_cons_self) ?_ (fun k hk => ?_)]
    · omega
    · rw [if_pos List.mem_cons_self, if_neg na]; omega
    · by_cases c : k ∈ l
      · rw [if_pos c, if_pos (List.mem_cons_of_mem _ c)]
      · rw [if_neg c, if_neg (fun z => by rcases List.mem_cons.mp z with q | q; exact hk q; exact c q)]
theorem cn_add (f : Nat → Bool) (a n : Nat) : cn f (a + n) = cn f a + cn (fun i => f (a + i)) n := by
  induction n with
  | zero => rfl
  | succ n ih =>
    show cn f (a + n) + (bif f (a + n) then 1 else 0) = cn f a + (cn (fun i => f (a + i)) n + (bif f (a + n) then 1 else 0))
    rw [ih]; omega
theorem cn_blk (f : Nat → Bool) (n : Nat) : cn f (32 * n) = sm (fun id => cn (fun i => f (32 * id + i)) 32) n := by
  induction n with
  | zero => rfl
  | succ n ih =>
    rw [show 32 * (n + 1) = 32 * n + 32 by omega, cn_add, ih]; rfl
theorem Ivt.lvk {s : Ab} {base gen k : Nat} (I : Ivt s base gen) (h : lvb s.st s.vers k = true) : vk s.np s.nxt k := by
  obtain ⟨t, h1, h2, h3⟩ := lvb_t.mp h
  obtain ⟨v, k2⟩ := I.2.2.2.2.2.1.2.2.2.2 t h1 h2
  exact (I.1.rc v k2 h3).1
theorem Ivt.tot {s : Ab} {base gen : Nat} (I : Ivt s base gen) : tot (lo s.st s.np s.vers) s.chs = cn (lvb s.st s.vers) (32 * s.nxt) := by
  have i3 := I.2.2.2.1
  rw [tot_sm (pw_ix.mp i3.2.1) (fun a ha => (i3.1 a ha).2), cn_blk]
  refine sm_ext fun id hid => ?_
  by_cases c : id ∈ s.chs
  · obtain ⟨c1, c2⟩ := i3.1 id c
    have n2 := (I.1.2.1 id c1 c2).2.1
    rw [if_pos c]
    unfold lo
    rw [cn_cut (n := s.np id) (K := 32) (by omega) (fun i h1 h2 => ?_)]
    cases e : lvb s.st s.vers (32 * id + i) with
    | false => rfl
    | true =>
      exfalso
      have q := (I.lvk e).2.2
      rw [show (32 * id + i) / 32 = id by omega, show (32 * id + i) % 32 = i by omega] at q
      omega
  · rw [if_neg c, cn_z (fun i hi => ?_)]
    cases e : lvb s.st s.vers (32 * id + i) with
    | false => rfl
    | true =>
      exfalso
      have q := (I.2.2.2.2.2.2.1.1 _ e).1
      rw [show (32 * id + i) / 32 = id by omega] at q
      exact c q
theorem Ivt.pool {s : Ab} {base gen : Nat} {pid pat : Nat → Nat} (I : Ivt s base gen) (h1 : ∀ i, i < 160 → pat i < 32) (h2 : ∀ i j, i < 160 → j < 160 → pid i ≠ 0 → pid i = pid j → pat i = pat j → i = j) (h3 : ∀ k, lvb s.st s.vers k = true → inP pid pat k) : cn (fun i => lvb s.st s.vers (ky pid pat i)) 160 = cn (lvb s.st s.vers) (32 * s.nxt) := by
  have nz : ∀ i, i < 160 → pid i = 0 → lvb s.st s.vers (ky pid pat i) = false := fun i hi h0 => by
    cases e : lvb s.st s.vers (ky pid pat i) with
    | false => rfl
    | true =>
      exfalso
      have a := (I.lvk e).pos
      have b := h1 i hi
      unfold ky at a
      rw [h0] at a
      omega
  rw [cn_ext (g := fun i => (decide (pid i ≠ 0) && lvb s.st s.vers (ky pid pat i)) && lvb s.st s.vers (ky pid pat i)) (fun i hi => ?_)]
  · rw [cn_inj (g := fun i => decide (pid i ≠ 0) && lvb s.st s.vers (ky pid pat i)) (P := lvb s.st s.vers) (f := ky pid pat) (K := 32 * s.nxt) (fun i hi hg => ?_) (fun i j hi hj gi gj e => ?_)]
    · refine cn_ext fun k hk => ?_
      cases e : lvb s.st s.vers k with
      | false => rfl
      | true =>
        rw [Bool.true_and]
        obtain ⟨i, q1, q2, q3⟩ := h3 k e
        have v := (I.lvk e).1
        have kk : ky pid pat i = k := by unfold ky; omega
        rw [any_t]
        refine ⟨i, q1, ?_⟩
        rw [kk, e, Bool.and_true, Bool.and_eq_true, decide_eq_true_eq, decide_eq_true_eq]
        exact ⟨by omega, rfl⟩
    · rw [Bool.and_eq_true] at hg
      have := (I.lvk hg.2).2.1
      omega
    · rw [Bool.and_eq_true, decide_eq_true_eq] at gi
      have := h1 i hi
      have := h1 j hj
      unfold ky at e
      exact h2 i j hi hj gi.1 (by omega) (by omega)
  · by_cases c : pid i = 0
    · rw [nz i hi c]; simp
    · rw [decide_eq_true c]; simp

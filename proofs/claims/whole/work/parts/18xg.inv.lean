/-! how the calls change the state: versions -/
theorem pw_ix {T : Type} {l : List T} {R : T → T → Prop} : (∀ (i j : Nat) (t u : T), l[i]? = some t → l[j]? = some u → i < j → R t u) ↔ l.Pairwise R := by
  rw [List.pairwise_iff_getElem]
  constructor
  · intro h i j hi hj hij
    exact h i j _ _ (List.getElem?_eq_getElem hi) (List.getElem?_eq_getElem hj) hij
  · intro h i j t u hi hj hij
    obtain ⟨hi1, hi2⟩ := List.getElem?_eq_some_iff.mp hi
    obtain ⟨hj1, hj2⟩ := List.getElem?_eq_some_iff.mp hj
    rw [← hi2, ← hj2]
    exact h i j hi1 hj1 hij
theorem mem_ix {T : Type} {l : List T} {P : T → Prop} : (∀ (i : Nat) (t : T), l[i]? = some t → P t) ↔ ∀ t ∈ l, P t := by
  constructor
  · intro h t ht
    obtain ⟨i, hi⟩ := List.getElem?_of_mem ht
    exact h i t hi
  · intro h i t hi
    exact h t (List.mem_of_getElem? hi)
theorem I5.of {s : Ab} (vers : List Vt) (lat : Nat) (h1 : vers.Pairwise fun t u => t.1 < u.1) (h2 : ∀ t ∈ vers, t.1 < 2 ^ 20 ∧ t.2.1 ≤ 9 ∧ t.2.2 < 2 ^ 20) (h3 : vers.Pairwise fun t u => t.2.2 < u.2.2) (h4 : ∃ t, vers.getLast? = some t ∧ t.1 = lat) (h5 : s.hold ≤ 4) (h6 : VK s.st s.np s.nxt vers) (e1 : s.vers = vers) (e2 : s.lat = lat) : I5 s := by
  unfold I5 VI
  rw [e1, e2]
  exact ⟨⟨pw_ix.mpr h1, mem_ix.mpr h2⟩, pw_ix.mpr h3, h4, h5, h6⟩
theorem I5.to {s : Ab} (h : I5 s) : (s.vers.Pairwise fun t u => t.1 < u.1) ∧ (∀ t ∈ s.vers, t.1 < 2 ^ 20 ∧ t.2.1 ≤ 9 ∧ t.2.2 < 2 ^ 20) ∧ (s.vers.Pairwise fun t u => t.2.2 < u.2.2) := ⟨pw_ix.mp h.1.1, mem_ix.mp h.1.2, pw_ix.mp h.2.1⟩
def sVers (s : Ab) (vers : List Vt) : Ab := (s.now, s.tl, s.tm, s.cont, s.sett, s.free, s.pend, s.chs, vers, s.lat, s.hold, s.nxt, s.st, s.fs, s.np)
theorem Ivt.vers {s : Ab} {base gen : Nat} (I : Ivt s base gen) (vers : List Vt) (h5 : I5 (sVers s vers)) (hl : ∀ k, lvb s.st vers k = true → lvb s.st s.vers k = true) (hm : lmk vers = lmk s.vers) : Ivt (sVers s vers) base gen := by
  obtain ⟨S, i1, i2, i3, i4, i5, i6, i7⟩ := I
  refine ⟨S, i1, i2, i3, i4, h5, ⟨fun k hk => i6.1 k (hl k hk), ?_⟩, i7.1, i7.2.1, i7.2.2.1, i7.2.2.2.1, ?_, i7.2.2.2.2.2⟩
  · show lmk vers ≠ 0 → whl s.cont s.fs s.np (lmk vers / 32)
    rw [hm]; exact i6.2
  · show ∀ id, lmk vers / 32 < id → id < s.nxt → ¬ Rd s.st s.cont s.fs s.np id
    rw [hm]; exact i7.2.2.2.2.1
theorem dr1_sub {T : Type} (fl : T → Bool) (l : List T) : ∀ (n : Nat) (S : List T), ∃ l' : List T, l'.Sublist l ∧ dr1 fl l n S = l'.reverse ++ S ∧ ∀ e r, l = e :: r → fl e = true → ∃ r', l' = e :: r' := by
  induction l with
  | nil => intro n S; exact ⟨[], List.Sublist.refl _, rfl, fun e r h => by cases h⟩
  | cons a l ih =>
    intro n S
    cases h : fl a with
    | true =>
      obtain ⟨l', h1, h2, -⟩ := ih n (a :: S)
      refine ⟨a :: l', h1.cons₂ a, ?_, fun e r he _ => ?_⟩
      · show (bif fl a then _ else _) = _
        rw [h]
        show dr1 fl l n (a :: S) = _
        rw [h2, List.reverse_cons, List.append_assoc]; rfl
      · cases he; exact ⟨l', rfl⟩
    | false =>
      cases n with
      | zero =>
        obtain ⟨l', h1, h2, -⟩ := ih 0 S
        refine ⟨l', h1.cons a, ?_, fun e r he hf => by cases he; rw [h] at hf; cases hf⟩
        show (bif fl a then _ else _) = _
        rw [h]; exact h2
      | succ n =>
        obtain ⟨l', h1, h2, -⟩ := ih n (a :: S)
        refine ⟨a :: l', h1.cons₂ a, ?_, fun e r he hf => by cases he; rw [h] at hf; cases hf⟩
        show (bif fl a then _ else _) = _
        rw [h]
        show dr1 fl l n (a :: S) = _
        rw [h2, List.reverse_cons, List.append_assoc]; rfl
def dVers (s : Ab) : List Vt := dr1 (vfl s.lat) s.vers.reverse s.hold []
theorem dVers_sub {s : Ab} : (dVers s).Sublist s.vers := by
  obtain ⟨l', h1, h2, -⟩ := dr1_sub (vfl s.lat) s.vers.reverse s.hold []
  unfold dVers
  rw [h2, List.append_nil]
  have := h1.reverse
  rwa [List.reverse_reverse] at this
theorem dVers_last {s : Ab} (h : ∃ t, s.vers.getLast? = some t ∧ t.1 = s.lat) : (dVers s).getLast? = s.vers.getLast? := by
  obtain ⟨t, ht, tl⟩ := h
  obtain ⟨l', h1, h2, h3⟩ := dr1_sub (vfl s.lat) s.vers.reverse s.hold []
  unfold dVers
  rw [h2, List.append_nil, List.getLast?_reverse]
  rw [← List.head?_reverse] at ht
  obtain ⟨r, hr⟩ : ∃ r, s.vers.reverse = t :: r := by
    cases e : s.vers.reverse with
    | nil => rw [e] at ht; cases ht
    | cons a r => rw [e] at ht; cases ht; exact ⟨r, rfl⟩
  obtain ⟨r', hr'⟩ := h3 t r hr (by unfold vfl; rw [decide_eq_true tl]; rfl)
  rw [hr', ← List.head?_reverse, hr]; rfl
theorem lvb_sub {st : Nat → Pg} {l l' : List Vt} (h : ∀ t ∈ l', t ∈ l) {k : Nat} (hk : lvb st l' k = true) : lvb st l k = true := by
  obtain ⟨t, h1, h2⟩ := lvb_t.mp hk
  exact lvb_t.mpr ⟨t, h t h1, h2⟩
theorem Ivt.drop {s : Ab} {base gen : Nat} (I : Ivt s base gen) : Ivt (sVers s (dVers s)) base gen := by
  have i5 := I.2.2.2.2.2.1
  obtain ⟨p1, p2, p3⟩ := i5.to
  have sb : ∀ t ∈ dVers s, t ∈ s.vers := fun t ht => dVers_sub.subset ht
  have la := dVers_last i5.2.2.1
  refine I.vers (dVers s) (I5.of (dVers s) s.lat (p1.sublist dVers_sub) (fun t ht => p2 t (sb t ht)) (p3.sublist dVers_sub) ?_ i5.2.2.2.1 (fun t ht => i5.2.2.2.2 t (sb t ht)) rfl rfl) (fun k hk => lvb_sub sb hk) ?_
  · rw [la]; exact i5.2.2.1
  · unfold lmk; rw [la]
/-- pins of one version -/
def pinV (l : List Vt) (i n : Nat) : List Vt := match l[i]? with
  | some t => l.set i (t.1, n, t.2.2)
  | none => l
theorem pinV_m (l : List Vt) (i n : Nat) : (pinV l i n).map (fun t => (t.1, t.2.2)) = l.map fun t => (t.1, t.2.2) := by
  unfold pinV
  cases h : l[i]? with
  | none => rfl
  | some t =>
    show (l.set i (t.1, n, t.2.2)).map _ = _
    rw [List.map_set]
    obtain ⟨hi, e⟩ := List.getElem?_eq_some_iff.mp h
    refine List.ext_getElem? fun j => ?_
    rw [List.getElem?_set, List.getElem?_map]
    by_cases c : i = j
    · subst c
      rw [if_pos rfl, h]
      simp [hi]
    · rw [if_neg c]
theorem map_pw {R : Nat × Nat → Nat × Nat → Prop} {l l' : List Vt} (h : l'.map (fun t => (t.1, t.2.2)) = l.map fun t => (t.1, t.2.2)) (p : l.Pairwise fun t u => R (t.1, t.2.2) (u.1, u.2.2)) : l'.Pairwise fun t u => R (t.1, t.2.2) (u.1, u.2.2) := by
  have q : (l.map fun t : Vt => (t.1, t.2.2)).Pairwise R := List.pairwise_map.mpr p
  rw [← h] at q
  exact List.pairwise_map.mp q
theorem pinV_mem {l : List Vt} {i n : Nat} {u : Vt} (h : u ∈ pinV l i n) : ∃ t ∈ l, t.1 = u.1 ∧ t.2.2 = u.2.2 ∧ (u = t ∨ u.2.1 = n) := by
  unfold pinV at h
  cases e : l[i]? with
  | none => rw [e] at h; exact ⟨u, h, rfl, rfl, Or.inl rfl⟩
  | some t =>
    rw [e] at h
    rcases List.mem_or_eq_of_mem_set h with q | q
    · exact ⟨u, q, rfl, rfl, Or.inl rfl⟩
    · rw [q]; exact ⟨t, List.mem_of_getElem? e, rfl, rfl, Or.inr rfl⟩
theorem Ivt.pin {s : Ab} {base gen : Nat} (I : Ivt s base gen) (i n : Nat) (hn : n ≤ 9) : Ivt (sVers s (pinV s.vers i n)) base gen := by
  have i5 := I.2.2.2.2.2.1
  obtain ⟨p1, p2, p3⟩ := i5.to
  have hm := pinV_m s.vers i n
  have last : ((pinV s.vers i n).getLast?).map (fun t => (t.1, t.2.2)) = (s.vers.getLast?).map fun t => (t.1, t.2.2) := by
    rw [← List.getLast?_map, ← List.getLast?_map, hm]
  obtain ⟨t, ht, tl⟩ := i5.2.2.1
  rw [ht] at last
  obtain ⟨u, hu, ue⟩ : ∃ u, (pinV s.vers i n).getLast? = some u ∧ (u.1, u.2.2) = (t.1, t.2.2) := by
    cases e : (pinV s.vers i n).getLast? with
    | none => rw [e] at last; cases last
    | some u => rw [e] at last; exact ⟨u, rfl, Option.some.inj last⟩
  have ue2 := Prod.mk.inj ue
  refine I.vers _ (I5.of _ s.lat (map_pw (R := fun a b => a.1 < b.1) hm p1) (fun u hu => ?_) (map_pw (R := fun a b => a.2 < b.2) hm p3) ⟨u, hu, ue2.1.trans tl⟩ i5.2.2.2.1 (fun u hu h0 => ?_) rfl rfl) (fun k hk => ?_) ?_
  · obtain ⟨t, t1, t2, t3, t4⟩ := pinV_mem hu
    obtain ⟨q1, q2, q3⟩ := p2 t t1
    rcases t4 with t4 | t4
    · rw [t4]; exact ⟨q1, q2, q3⟩
    · exact ⟨by rw [← t2]; exact q1, by rw [t4]; exact hn, by rw [← t3]; exact q3⟩
  · obtain ⟨t, t1, t2, t3, t4⟩ := pinV_mem hu
    rw [← t3] at h0 ⊢
    exact i5.2.2.2.2 t t1 h0
  · obtain ⟨u, h1, h2, h3⟩ := lvb_t.mp hk
    obtain ⟨t, t1, t2, t3, t4⟩ := pinV_mem h1
    exact lvb_t.mpr ⟨t, t1, by rw [t3]; exact h2, by rw [t3]; exact h3⟩
  · unfold lmk
    rw [hu, ht]
    exact ue2.2

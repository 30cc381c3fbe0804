/-! crash -/
/-- n is the newest that can be read -/
def NWd (st : Nat → Pg) (g : Nat → Nat × Nat) (fs np : Nat → Nat) (nxt n : Nat) : Prop := (n = 0 ∨ (1 ≤ n ∧ n < nxt ∧ Rd st g fs np n)) ∧ ∀ id, n < id → id < nxt → ¬ Rd st g fs np id
theorem NWd.uniq {st : Nat → Pg} {g : Nat → Nat × Nat} {fs np : Nat → Nat} {nxt n n' : Nat} (a : NWd st g fs np nxt n) (b : NWd st g fs np nxt n') : n = n' := by
  rcases Nat.lt_trichotomy n n' with q | q | q
  · rcases b.1 with z | ⟨z1, z2, z3⟩
    · omega
    · exact absurd z3 (a.2 n' q z2)
  · exact q
  · rcases a.1 with z | ⟨z1, z2, z3⟩
    · omega
    · exact absurd z3 (b.2 n q z2)
def nMeta (np : Nat → Nat) (n : Nat) : Nat := if n = 0 then 0 else mkk np n
def nNum (st : Nat → Pg) (np : Nat → Nat) (n : Nat) : Nat := if n = 0 then 0 else pwh st (mkk np n)
def nNow (st : Nat → Pg) (k i : Nat) : Option Int32 := rdv st k (i / 32) (i % 32)
def cVers (s : Ab) (n : Nat) : List Vt := [(nNum s.st s.np n, 0, nMeta s.np n)]
def sCrash (s : Ab) (g : Nat → Nat × Nat) (n : Nat) : Ab := (nNow s.st (nMeta s.np n), fun _ => false, fun _ => false, g, g, frd (dead s.st s.np (cVers s n)) s.fs s.np s.chs s.free, [], s.chs.filter (fun id => !dead s.st s.np (cVers s n) id), cVers s n, nNum s.st s.np n, s.hold, gm (fun b => (g b).1) 32 + 1, s.st, s.fs, s.np)
theorem cn_ex {f : Nat → Bool} {n : Nat} (h : cn f n ≠ 0) : ∃ i, i < n ∧ f i = true := by
  refine Classical.byContradiction fun q => h (cn_z fun i hi => ?_)
  cases e : f i with
  | false => rfl
  | true => exact absurd ⟨i, hi, e⟩ q
theorem Ivt.crash {s : Ab} {base gen n : Nat} {g : Nat → Nat × Nat} (I : Ivt s base gen) (hg : ∀ b, b < 32 → g b = s.cont b ∨ g b = s.sett b) (N : NWd s.st g s.fs s.np s.nxt n) : Ivt (sCrash s g n) n (gm (fun b => (g b).1) 32 + 1) ∧ gm (fun b => (g b).1) 32 + 1 ≤ s.nxt := by
  obtain ⟨S, i1, i2, i3, i4, i5, i6, i7⟩ := I
  have gb : ∀ b, b < 32 → bOK g s.fs s.np s.nxt b := fun b hb => by
    unfold bOK
    rcases hg b hb with q | q
    · rw [q]; exact (i2 b hb).1
    · rw [q]; exact (i2 b hb).2
  have glt : ∀ b, b < 32 → (g b).1 < s.nxt := fun b hb => by
    rcases gb b hb with q | q
    · omega
    · exact q.2.1
  have gml : gm (fun b => (g b).1) 32 < s.nxt := gm_lt i1 glt
  have gge : ∀ b, b < 32 → (g b).1 ≤ gm (fun b => (g b).1) 32 := fun b hb => gm_ge (f := fun b => (g b).1) hb
  have blt : ∀ k, vk s.np s.nxt k → s.fs (k / 32) + k % 32 / 2 < 32 := fun k v => by
    have := (S.2.1 (k / 32) v.1 v.2.1).2.2
    have := v.2.2
    omega
  -- the newest is the base or newer than all that was settled
  have rb : base ≠ 0 → Rd s.st g s.fs s.np base := fun hb => by
    obtain ⟨r1, r2, r3⟩ := i7.2.2.1 hb
    have bl : base < s.nxt := Nat.lt_of_lt_of_le i7.1.2 i7.1.1
    obtain ⟨v, k2, e⟩ := mkk_vk S (show 1 ≤ base by omega) bl
    obtain ⟨n1, n2, n3⟩ := S.2.1 base (by omega) bl
    refine ⟨fun q hq => ?_, fun k hk => ?_⟩
    · have : s.fs base + q < 32 := by unfold nbk at hq; omega
      rcases hg _ this with z | z
      · rw [z]; exact r2.1 q hq
      · rw [z]; exact r1.1 q hq
    · have hk2 := (S.rc v k2 hk).1
      unfold hdk
      rcases hg _ (blt k hk2) with z | z
      · rw [z]; exact r2.2 k hk
      · rw [z]; exact r1.2 k hk
  have bn : base ≤ n := by
    rcases Nat.lt_or_ge n base with q | q
    · exact absurd (rb (by omega)) (N.2 base q (Nat.lt_of_lt_of_le i7.1.2 i7.1.1))
    · exact q
  have old : ∀ b, b < 32 → (g b).1 < gen → g b = s.sett b := fun b hb hl => by
    rcases hg b hb with z | z
    · rw [z]
      rcases (i7.2.1 b hb).1 with c | c
      · exact c
      · rw [z] at hl; omega
    · exact z
  have new : n = base ∨ gen ≤ n := by
    rcases Nat.lt_or_ge n gen with q | q
    · rcases Nat.lt_or_ge base n with z | z
      · exfalso
        rcases N.1 with c | ⟨c1, c2, c3⟩
        · omega
        · refine i7.2.2.2.1 n z q ⟨fun t ht => ?_, fun k hk => ?_⟩
          · have e := c3.1 t ht
            obtain ⟨n1, n2, n3⟩ := S.2.1 n c1 c2
            rw [← old _ (by unfold nbk at ht; omega) (by rw [e]; exact q)]; exact e
          · obtain ⟨v, k2, e⟩ := mkk_vk S c1 c2
            obtain ⟨v', hle⟩ := S.rc v k2 hk
            have e2 := c3.2 k hk
            unfold hdk at e2 ⊢
            rw [← old _ (blt k v') (by rw [e2]; dsimp only; omega)]; exact e2
      · exact Or.inl (by omega)
    · exact Or.inr q
  have listed : n ≠ 0 → ∀ k, rcb s.st (mkk s.np n) k = true → k / 32 ∈ s.chs := fun h0 k hk => by
    rcases N.1 with c | ⟨c1, c2, c3⟩
    · exact absurd c h0
    · rcases new with z | z
      · rw [z] at hk h0; exact (i7.2.2.1 h0).2.2 k hk
      · exact i7.2.2.2.2.2 n z c2 k hk
  have live : ∀ k, lvb s.st (cVers s n) k = true → n ≠ 0 ∧ 1 ≤ n ∧ n < s.nxt ∧ Rd s.st g s.fs s.np n ∧ rcb s.st (mkk s.np n) k = true := fun k hk => by
    obtain ⟨t, z1, z2, z3⟩ := lvb_t.mp hk
    unfold cVers at z1
    rw [List.mem_singleton] at z1
    subst z1
    unfold nMeta at z2 z3
    by_cases c : n = 0
    · dsimp only at z2; rw [if_pos c] at z2; exact absurd rfl z2
    · dsimp only at z3; rw [if_neg c] at z3
      rcases N.1 with q | ⟨q1, q2, q3⟩
      · exact absurd q c
      · exact ⟨c, q1, q2, q3, z3⟩
  have lvk : ∀ k, lvb s.st (cVers s n) k = true → vk s.np s.nxt k ∧ hdk g s.fs k ∧ k / 32 ∈ s.chs ∧ k / 32 < gm (fun b => (g b).1) 32 + 1 := fun k hk => by
    obtain ⟨c, q1, q2, q3, q4⟩ := live k hk
    obtain ⟨v, k2, e⟩ := mkk_vk S q1 q2
    have v' := (S.rc v k2 q4).1
    have hd := q3.2 k q4
    refine ⟨v', hd, listed c k q4, ?_⟩
    have := gge _ (blt k v')
    unfold hdk at hd
    rw [hd] at this
    dsimp only at this
    omega
  have nlt : n < gm (fun b => (g b).1) 32 + 1 := by
    rcases N.1 with c | ⟨c1, c2, c3⟩
    · omega
    · obtain ⟨n1, n2, n3⟩ := S.2.1 n c1 c2
      have := gge (s.fs n + 0) (by omega)
      rw [c3.1 0 (by unfold nbk; omega)] at this
      dsimp only at this
      omega
  have S' : SW s.st s.fs s.np (gm (fun b => (g b).1) 32 + 1) := by
    refine ⟨by have := S.1; omega, fun id h1 h2 => S.2.1 id h1 (by omega), fun k v => ?_⟩
    have v0 : vk s.np s.nxt k := ⟨v.1, by have := v.2.1; omega, v.2.2⟩
    obtain ⟨w1, w2, w3, w4⟩ := S.2.2 k v0
    refine ⟨w1, w2, fun c m hm => ?_, fun c j hj => ?_⟩
    · rcases w3 c m hm with q | ⟨q1, q2, q3, q4⟩
      · exact Or.inl q
      · exact Or.inr ⟨⟨q1.1, by have := v.2.1; omega, q1.2.2⟩, q2, q3, q4⟩
    · rcases w4 c j hj with q | ⟨q1, q2, q3⟩
      · exact Or.inl q
      · exact Or.inr ⟨⟨q1.1, by have := v.2.1; omega, q1.2.2⟩, q2, q3⟩
  have lml : lmk (cVers s n) = nMeta s.np n := rfl
  have lm32 : nMeta s.np n / 32 = n := by
    unfold nMeta
    by_cases c : n = 0
    · rw [if_pos c, c]
    · rw [if_neg c]
      rcases N.1 with q | ⟨q1, q2, q3⟩
      · exact absurd q c
      · exact (mkk_vk S q1 q2).2.2
  have memc : ∀ k, lvb s.st (cVers s n) k = true → k / 32 ∈ (s.chs.filter fun id => !dead s.st s.np (cVers s n) id) := fun k hk => by
    rw [List.mem_filter]
    obtain ⟨v, -, c, -⟩ := lvk k hk
    exact ⟨c, by rw [live_dead v hk]; rfl⟩
  have rlv : n ≠ 0 → ∀ k, rcb s.st (mkk s.np n) k = true → lvb s.st (cVers s n) k = true := fun c k hk => by
    have e : nMeta s.np n = mkk s.np n := if_neg c
    refine lvb_t.mpr ⟨(nNum s.st s.np n, 0, nMeta s.np n), by unfold cVers; exact List.mem_singleton.mpr rfl, ?_, ?_⟩
    · dsimp only
      intro z
      rw [z] at lm32
      omega
    · dsimp only
      rw [e]; exact hk
  refine ⟨⟨S', by show 1 ≤ gm _ 32 + 1; omega, fun b hb => ?_, i3.fil (dead s.st s.np (cVers s n)) rfl rfl rfl rfl (fun id hid hd => ?_), ⟨fun i j b h => (by cases h), fun b hb => (by cases hb), fun _ _ _ => rfl⟩, I5.of (cVers s n) (nNum s.st s.np n) (List.pairwise_singleton _ _) (fun t ht => ?_) (List.pairwise_singleton _ _) ⟨_, rfl, rfl⟩ i5.2.2.2.1 (fun t ht h0 => ?_) rfl rfl, ⟨fun k hk => ⟨memc k hk, (lvk k hk).2.1⟩, fun h0 => ?_⟩, ⟨Nat.le_refl _, nlt⟩, fun b hb => ⟨Or.inl rfl, ?_⟩, fun h0 => ?_, fun id h1 h2 => ?_, fun id h1 h2 => ?_, fun id h1 h2 => absurd h2 (by show ¬ id < gm (fun b => (g b).1) 32 + 1; omega)⟩, by omega⟩
  · have q : bOK g s.fs s.np (gm (fun b => (g b).1) 32 + 1) b := by
      rcases gb b hb with q | ⟨q1, q2, q3, q4⟩
      · exact Or.inl q
      · exact Or.inr ⟨q1, by have := gge b hb; omega, q3, q4⟩
    exact ⟨q, q⟩
  · show id < gm (fun b => (g b).1) 32 + 1
    have : lo s.st s.np (cVers s n) id ≠ 0 := of_decide_eq_false hd
    obtain ⟨i, h1, h2⟩ := cn_ex this
    have a := (lvk _ h2).2.2.2
    have b := (i3.1 id hid)
    have c := (S.2.1 id b.1 b.2).2.1
    omega
  · unfold cVers at ht
    rw [List.mem_singleton] at ht
    subst ht
    unfold nNum nMeta
    dsimp only
    by_cases c : n = 0
    · rw [if_pos c, if_pos c]; omega
    · rw [if_neg c, if_neg c]
      rcases N.1 with q | ⟨q1, q2, q3⟩
      · exact absurd q c
      · obtain ⟨v, k2, e⟩ := mkk_vk S q1 q2
        have := S.lt v
        have := (S.2.2 _ v).1.2.2.2
        omega
  · unfold cVers at ht
    rw [List.mem_singleton] at ht
    subst ht
    dsimp only at h0 ⊢
    show vk s.np (gm (fun b => (g b).1) 32 + 1) (nMeta s.np n) ∧ kd s.st (nMeta s.np n) = 2
    unfold nMeta at h0 ⊢
    by_cases c : n = 0
    · rw [if_pos c] at h0; exact absurd rfl h0
    · rw [if_neg c]
      obtain ⟨v, k2, e⟩ := mkk_vk S' (show 1 ≤ n by omega) nlt
      exact ⟨v, k2⟩
  · show whl g s.fs s.np (lmk (cVers s n) / 32)
    rw [lml, lm32]
    rcases N.1 with q | ⟨q1, q2, q3⟩
    · exfalso
      have h0' : nMeta s.np n ≠ 0 := h0
      unfold nMeta at h0'
      rw [if_pos q] at h0'; exact h0' rfl
    · exact q3.1
  · show (g b).1 < gm (fun b => (g b).1) 32 + 1
    have := gge b hb
    omega
  · rcases N.1 with q | ⟨q1, q2, q3⟩
    · exact absurd q h0
    · exact ⟨q3, q3, fun k hk => memc k (rlv h0 k hk)⟩
  · exact N.2 id h1 (by have h2' : id < gm (fun b => (g b).1) 32 + 1 := h2; omega)
  · have h1' : lmk (cVers s n) / 32 < id := h1
    rw [lml, lm32] at h1'
    exact N.2 id h1' (by have h2' : id < gm (fun b => (g b).1) 32 + 1 := h2; omega)

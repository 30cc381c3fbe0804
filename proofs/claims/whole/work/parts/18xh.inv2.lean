/-! sync -/
theorem cn_pos {f : Nat → Bool} {n i : Nat} (hi : i < n) (h : f i = true) : 0 < cn f n := by
  have h1 : cn f (i + 1) ≤ cn f n := by
    have : ∀ j, i + 1 ≤ j → cn f (i + 1) ≤ cn f j := fun j => by
      induction j with
      | zero => intro h; omega
      | succ j ih =>
        intro h
        by_cases e : i + 1 = j + 1
        · rw [e]; exact Nat.le_refl _
        · exact Nat.le_trans (ih (by omega)) (Nat.le_add_right _ _)
    exact this n hi
  rw [cn_t h] at h1
  omega
theorem live_dead {st : Nat → Pg} {np : Nat → Nat} {nxt k : Nat} {vers : List Vt} (v : vk np nxt k) (h : lvb st vers k = true) : dead st np vers (k / 32) = false := by
  have : 0 < lo st np vers (k / 32) := by
    unfold lo
    exact cn_pos v.2.2 (by rw [Nat.div_add_mod]; exact h)
  exact decide_eq_false (by omega)
theorem mkk_of {st : Nat → Pg} {fs np : Nat → Nat} {nxt k : Nat} (S : SW st fs np nxt) (v : vk np nxt k) (h2 : kd st k = 2) : mkk np (k / 32) = k := by
  have := ((S.2.2 k v).1.2.1).mp h2
  unfold mkk
  omega
theorem mkk_vk {st : Nat → Pg} {fs np : Nat → Nat} {nxt id : Nat} (S : SW st fs np nxt) (h1 : 1 ≤ id) (h2 : id < nxt) : vk np nxt (mkk np id) ∧ kd st (mkk np id) = 2 ∧ mkk np id / 32 = id := by
  obtain ⟨n1, n2, n3⟩ := S.2.1 id h1 h2
  have e1 : mkk np id / 32 = id := by unfold mkk; omega
  have e2 : mkk np id % 32 = np id - 1 := by unfold mkk; omega
  have v : vk np nxt (mkk np id) := ⟨by omega, by omega, by rw [e1, e2]; omega⟩
  exact ⟨v, ((S.2.2 _ v).1.2.1).mpr (by rw [e1, e2]; omega), e1⟩
theorem last_mem {l : List Vt} {t : Vt} (h : l.getLast? = some t) : t ∈ l := List.mem_of_getLast? h
def sSync (s : Ab) : Ab := (s.now, s.tl, s.tm, s.cont, s.cont, frd (dead s.st s.np s.vers) s.fs s.np s.chs s.free, [], s.chs.filter (fun id => !dead s.st s.np s.vers id), s.vers, s.lat, s.hold, s.nxt, s.st, s.fs, s.np)
theorem frd_f {dd : Nat → Bool} {fs np : Nat → Nat} {l : List Nat} {free : Nat → Bool} {b : Nat} (h1 : free b = false) (h2 : ∀ id ∈ l, dd id = true → ¬ inB fs np id b) : frd dd fs np l free b = false := by
  unfold frd
  rw [h1, Bool.false_or]
  cases e : l.any (fun id => dd id && (decide (fs id ≤ b) && decide (b < fs id + (np id + 1) / 2))) with
  | false => rfl
  | true =>
    exfalso
    obtain ⟨id, h3, h4⟩ := List.any_eq_true.mp e
    simp only [Bool.and_eq_true, decide_eq_true_eq] at h4
    exact h2 id h3 h4.1 h4.2
theorem I3.fil {s s' : Ab} (i3 : I3 s) (dd : Nat → Bool) (h1 : s'.chs = s.chs.filter fun id => !dd id) (h2 : s'.free = frd dd s.fs s.np s.chs s.free) (h3 : s'.fs = s.fs) (h4 : s'.np = s.np) (h5 : ∀ id ∈ s.chs, dd id = false → id < s'.nxt) : I3 s' := by
  obtain ⟨a1, a2, a3, a4⟩ := i3
  unfold I3
  rw [h1, h2, h3, h4]
  have mem : ∀ id, id ∈ (s.chs.filter fun id => !dd id) ↔ id ∈ s.chs ∧ dd id = false := fun id => by
    rw [List.mem_filter]; simp
  refine ⟨fun id hid => ?_, ?_, fun id hid b hb => ?_, fun id hid id' hid' hn b hb => ?_⟩
  · obtain ⟨m1, m2⟩ := (mem id).mp hid
    exact ⟨(a1 id m1).1, h5 id m1 m2⟩
  · exact pw_ix.mpr ((pw_ix.mp a2).filter _)
  · obtain ⟨m1, m2⟩ := (mem id).mp hid
    refine frd_f (a3 id m1 b hb) (fun id' m3 m4 => ?_)
    have : id ≠ id' := fun z => by rw [z, m4] at m2; cases m2
    exact a4 id m1 id' m3 this b hb
  · exact a4 id ((mem id).mp hid).1 id' ((mem id').mp hid').1 hn b hb
theorem lmk_mem {s : Ab} (i5 : I5 s) (_ : lmk s.vers ≠ 0) : ∃ t ∈ s.vers, t.2.2 = lmk s.vers := by
  obtain ⟨t, ht, -⟩ := i5.2.2.1
  refine ⟨t, last_mem ht, ?_⟩
  unfold lmk; rw [ht]; rfl
theorem Ivt.sync {s : Ab} {base gen : Nat} (I : Ivt s base gen) : Ivt (sSync s) (lmk s.vers / 32) s.nxt := by
  obtain ⟨S, i1, i2, i3, i4, i5, i6, i7⟩ := I
  have vkl : ∀ k, lvb s.st s.vers k = true → vk s.np s.nxt k := fun k hk => by
    obtain ⟨t, h1, h2, h3⟩ := lvb_t.mp hk
    obtain ⟨v, k2⟩ := i5.2.2.2.2 t h1 h2
    exact (S.rc v k2 h3).1
  have live : ∀ k, lvb s.st s.vers k = true → k / 32 ∈ (s.chs.filter fun id => !dead s.st s.np s.vers id) := fun k hk => by
    rw [List.mem_filter]
    refine ⟨(i6.1 k hk).1, ?_⟩
    rw [live_dead (vkl k hk) hk]; rfl
  refine ⟨S, i1, fun b hb => ⟨(i2 b hb).1, (i2 b hb).1⟩, i3.fil (dead s.st s.np s.vers) rfl rfl rfl rfl (fun id hid _ => (i3.1 id hid).2), ⟨fun i j b h => (by cases h), fun b hb => (by cases hb), fun _ _ _ => rfl⟩, i5, ⟨fun k hk => ⟨live k hk, (i6.1 k hk).2⟩, i6.2⟩, ⟨Nat.le_refl _, ?_⟩, fun b hb => ⟨Or.inl rfl, ?_⟩, fun hb => ?_, ?_, i7.2.2.2.2.1, fun id h1 h2 => absurd h2 (by show ¬ id < s.nxt; omega)⟩
  · by_cases c : lmk s.vers = 0
    · rw [c]; exact i1
    · obtain ⟨t, t1, t2⟩ := lmk_mem i5 c
      rw [← t2] at c ⊢
      exact (i5.2.2.2.2 t t1 c).1.2.1
  · rcases (i2 b hb).1 with q | q
    · show (s.cont b).1 < s.nxt
      omega
    · exact q.2.1
  · have c : lmk s.vers ≠ 0 := fun z => hb (by rw [z])
    obtain ⟨t, t1, t2⟩ := lmk_mem i5 c
    obtain ⟨v, k2⟩ := i5.2.2.2.2 t t1 (by rw [t2]; exact c)
    rw [t2] at v k2
    have mm := mkk_of S v k2
    have lv : ∀ k, rcb s.st (mkk s.np (lmk s.vers / 32)) k = true → lvb s.st s.vers k = true := fun k hk => by
      rw [mm] at hk
      exact lvb_t.mpr ⟨t, t1, by rw [t2]; exact c, by rw [t2]; exact hk⟩
    have R : Rd s.st s.cont s.fs s.np (lmk s.vers / 32) := ⟨i6.2 c, fun k hk => (i6.1 k (lv k hk)).2⟩
    exact ⟨R, R, fun k hk => live k (lv k hk)⟩
  · intro id h1 h2
    exact i7.2.2.2.2.1 id h1 h2
/-! a new chunk -/
/-- pages that may be written -/
def WOK (st : Nat → Pg) (vers : List Vt) (id : Nat) (L : List Pg) : Prop := ∀ (i : Nat) (pg : Pg), L[i]? = some pg → (pg.1 ≤ 2 ∧ (pg.1 = 2 ↔ i + 1 = L.length) ∧ pg.2.2.2.1 < 4 ∧ pg.2.2.2.2 < 2 ^ 20) ∧ (pg.1 = 0 → pg.2.2.2.2 < 4) ∧
  (pg.1 = 2 → ∀ m, m < 4 → pg.2.1 m = 0 ∨ (pg.2.1 m / 32 < id ∧ lvb st vers (pg.2.1 m) = true ∧ kd st (pg.2.1 m) = 1 ∧ pmp st (pg.2.1 m) = m ∧ ∀ j, j < 4 → ld st (pg.2.1 m) j ≠ 0 → lvb st vers (ld st (pg.2.1 m) j) = true) ∨ (pg.2.1 m / 32 = id ∧ ∃ q, L[pg.2.1 m % 32]? = some q ∧ q.1 = 1 ∧ q.2.2.2.1 = m)) ∧
  (pg.1 = 1 → ∀ j, j < 4 → pg.2.1 j = 0 ∨ (pg.2.1 j / 32 < id ∧ lvb st vers (pg.2.1 j) = true ∧ kd st (pg.2.1 j) = 0 ∧ pmp st (pg.2.1 j) = pg.2.2.2.1 ∧ pwh st (pg.2.1 j) = j) ∨ (pg.2.1 j / 32 = id ∧ ∃ q, L[pg.2.1 j % 32]? = some q ∧ q.1 = 0 ∧ q.2.2.2.1 = pg.2.2.2.1 ∧ q.2.2.2.2 = j))
def sWrite (s : Ab) (L : List Pg) (f : Nat) (vers : List Vt) (lat : Nat) (now : Nat → Option Int32) : Ab := (now, fun _ => false, fun _ => false, ups s.cont f ((L.length + 1) / 2) (fun b => (s.nxt, b - f)), s.sett, ups s.free f ((L.length + 1) / 2) (fun _ => false), s.pend ++ (List.range ((L.length + 1) / 2)).map (f + ·), s.chs ++ [s.nxt], vers, lat, s.hold, s.nxt + 1, stN s.st s.nxt L, va_up s.fs s.nxt f, va_up s.np s.nxt L.length)
theorem lk2_old {st : Nat → Pg} {fs np : Nat → Nat} {nxt k m j : Nat} {L : List Pg} (S : SW st fs np nxt) (v : vk np nxt k) (h2 : kd st k = 2) (hm : m < 4) : ld (stN st nxt L) k m = ld st k m ∧ lk2 (stN st nxt L) k m j = lk2 st k m j := by
  have e1 : ld (stN st nxt L) k m = ld st k m := by unfold ld; rw [stN_o (by have := v.2.1; omega)]
  refine ⟨e1, ?_⟩
  unfold lk2
  rw [e1]
  by_cases c : ld st k m = 0
  · rw [if_pos c, if_pos c]
  · rw [if_neg c, if_neg c]
    obtain ⟨r, -⟩ := S.root v h2 hm c
    show (stN st nxt L (ld st k m)).2.1 j = (st (ld st k m)).2.1 j
    rw [stN_o (by have := r.2.1; omega)]
theorem rcb_old {st : Nat → Pg} {fs np : Nat → Nat} {nxt k x : Nat} {L : List Pg} (S : SW st fs np nxt) (v : vk np nxt k) (h2 : kd st k = 2) : rcb (stN st nxt L) k x = rcb st k x := by
  rw [Bool.eq_iff_iff, rcb_t, rcb_t]
  constructor
  · rintro (q | ⟨m, hm, h0, q⟩ | ⟨m, j, hm, hj, h0, q⟩)
    · exact Or.inl q
    · rw [(lk2_old (j := 0) S v h2 hm).1] at h0 q
      exact Or.inr (Or.inl ⟨m, hm, h0, q⟩)
    · rw [(lk2_old S v h2 hm).2] at h0 q
      exact Or.inr (Or.inr ⟨m, j, hm, hj, h0, q⟩)
  · rintro (q | ⟨m, hm, h0, q⟩ | ⟨m, j, hm, hj, h0, q⟩)
    · exact Or.inl q
    · rw [← (lk2_old (j := 0) (L := L) S v h2 hm).1] at h0 q
      exact Or.inr (Or.inl ⟨m, hm, h0, q⟩)
    · rw [← (lk2_old (L := L) S v h2 hm).2] at h0 q
      exact Or.inr (Or.inr ⟨m, j, hm, hj, h0, q⟩)
theorem up_n {T : Type} {f : Nat → T} {i : Nat} {v : T} : va_up f i v i = v := if_pos rfl
theorem up_o {T : Type} {f : Nat → T} {i j : Nat} {v : T} (h : j ≠ i) : va_up f i v j = f j := if_neg h
theorem Rd_old {st : Nat → Pg} {fs np : Nat → Nat} {nxt id f : Nat} {L : List Pg} {g : Nat → Nat × Nat} (S : SW st fs np nxt) (h1 : 1 ≤ id) (h2 : id < nxt) : Rd (stN st nxt L) g (va_up fs nxt f) (va_up np nxt L.length) id ↔ Rd st g fs np id := by
  obtain ⟨v, k2, e⟩ := mkk_vk S h1 h2
  have em : mkk (va_up np nxt L.length) id = mkk np id := by unfold mkk; rw [up_o (by omega)]
  have en : nbk (va_up np nxt L.length) id = nbk np id := by unfold nbk; rw [up_o (by omega)]
  have ef : va_up fs nxt f id = fs id := up_o (by omega)
  unfold Rd whl
  rw [em, en, ef]
  constructor
  · rintro ⟨a, b⟩
    refine ⟨a, fun k hk => ?_⟩
    have := b k (by rw [rcb_old S v k2]; exact hk)
    unfold hdk at this ⊢
    rw [up_o (by have := (S.rc v k2 hk).1.2.1; omega)] at this
    exact this
  · rintro ⟨a, b⟩
    refine ⟨a, fun k hk => ?_⟩
    rw [rcb_old S v k2] at hk
    have := b k hk
    unfold hdk at this ⊢
    rw [up_o (by have := (S.rc v k2 hk).1.2.1; omega)]
    exact this
theorem SW.write {st : Nat → Pg} {fs np : Nat → Nat} {nxt f : Nat} {vers : List Vt} {L : List Pg} (S : SW st fs np nxt) (vkl : ∀ k, lvb st vers k = true → vk np nxt k) (h0 : 1 ≤ nxt) (hL1 : 1 ≤ L.length) (hL2 : L.length ≤ 21) (hf : f + (L.length + 1) / 2 ≤ 32) (hn : nxt + 1 < 2 ^ 14) (W : WOK st vers nxt L) : SW (stN st nxt L) (va_up fs nxt f) (va_up np nxt L.length) (nxt + 1) := by
  have vo : ∀ k, vk np nxt k → vk (va_up np nxt L.length) (nxt + 1) k := fun k v => ⟨v.1, by have := v.2.1; omega, by rw [up_o (by have := v.2.1; omega)]; exact v.2.2⟩
  have so : ∀ k, k / 32 < nxt → stN st nxt L k = st k := fun k hk => stN_o (by omega)
  have vn : ∀ k, k / 32 = nxt → k % 32 < L.length → vk (va_up np nxt L.length) (nxt + 1) k := fun k h1 h2 => ⟨by omega, by omega, by rw [h1, up_n]; exact h2⟩
  have sn : ∀ k pg, k / 32 = nxt → L[k % 32]? = some pg → stN st nxt L k = pg := fun k pg h1 h2 => by
    unfold stN
    rw [if_pos h1, h2]; rfl
  have lt : ∀ (i : Nat) (pg : Pg), L[i]? = some pg → i < L.length := fun i pg h => by
    obtain ⟨hi, -⟩ := List.getElem?_eq_some_iff.mp h
    exact hi
  refine ⟨hn, fun id h1 h2 => ?_, fun k v => ?_⟩
  · by_cases e : id = nxt
    · subst e
      rw [up_n, up_n]; exact ⟨hL1, hL2, hf⟩
    · rw [up_o e, up_o e]; exact S.2.1 id h1 (by omega)
  · by_cases e : k / 32 = nxt
    · obtain ⟨v1, v2, v3⟩ := v
      rw [e, up_n] at v3
      have hp : L[k % 32]? = some L[k % 32] := List.getElem?_eq_getElem v3
      obtain ⟨pg, hpg⟩ : ∃ pg, L[k % 32]? = some pg := ⟨_, hp⟩
      obtain ⟨⟨w1, w2, w3, w4⟩, w5, w6, w7⟩ := W _ pg hpg
      have es := sn k pg e hpg
      unfold kd pmp pwh ld
      rw [es]
      refine ⟨⟨w1, by rw [e, up_n]; exact w2, w3, w4⟩, w5, fun c m hm => ?_, fun c j hj => ?_⟩
      · rcases w6 c m hm with q | ⟨q1, q2, q3, q4, q5⟩ | ⟨q1, q, q2, q3, q4⟩
        · exact Or.inl q
        · refine Or.inr ⟨vo _ (vkl _ q2), ?_, by omega, ?_⟩
          · rw [so _ q1]; exact q3
          · rw [so _ q1]; exact q4
        · refine Or.inr ⟨vn _ q1 (lt _ _ q2), ?_, by omega, ?_⟩
          · rw [sn _ q q1 q2]; exact q3
          · rw [sn _ q q1 q2]; exact q4
      · rcases w7 c j hj with q | ⟨q1, q2, q3, q4, q5⟩ | ⟨q1, q, q2, q3, q4, q5⟩
        · exact Or.inl q
        · refine Or.inr ⟨vo _ (vkl _ q2), ?_, by omega, ?_, ?_⟩
          · rw [so _ q1]; exact q3
          · rw [so _ q1]; exact q4
          · rw [so _ q1]; exact q5
        · refine Or.inr ⟨vn _ q1 (lt _ _ q2), ?_, by omega, ?_, ?_⟩
          · rw [sn _ q q1 q2]; exact q3
          · rw [sn _ q q1 q2]; exact q4
          · rw [sn _ q q1 q2]; exact q5
    · obtain ⟨v1, v2, v3⟩ := v
      rw [up_o e] at v3
      have vk0 : vk np nxt k := ⟨v1, by omega, v3⟩
      obtain ⟨⟨w1, w2, w3, w4⟩, w5, w6, w7⟩ := S.2.2 k vk0
      unfold kd pmp pwh ld at *
      rw [so k (by omega)]
      refine ⟨⟨w1, by rw [up_o e]; exact w2, w3, w4⟩, w5, fun c m hm => ?_, fun c j hj => ?_⟩
      · rcases w6 c m hm with q | ⟨q1, q2, q3, q4⟩
        · exact Or.inl q
        · rw [so _ q1.2.1]
          exact Or.inr ⟨vo _ q1, q2, q3, q4⟩
      · rcases w7 c j hj with q | ⟨q1, q2, q3, q4, q5⟩
        · exact Or.inl q
        · rw [so _ q1.2.1]
          exact Or.inr ⟨vo _ q1, q2, q3, q4, q5⟩
/-- what the new meta reaches -/
theorem WOK.rc {st : Nat → Pg} {nxt k : Nat} {vers : List Vt} {L : List Pg} (W : WOK st vers nxt L) (hL1 : 1 ≤ L.length) (hL2 : L.length ≤ 21) (hk : rcb (stN st nxt L) (32 * nxt + L.length - 1) k = true) : (k / 32 = nxt ∧ k % 32 < L.length) ∨ lvb st vers k = true := by
  have eK : (32 * nxt + L.length - 1) / 32 = nxt := by omega
  have mK : (32 * nxt + L.length - 1) % 32 = L.length - 1 := by omega
  have sn : ∀ k pg, k / 32 = nxt → L[k % 32]? = some pg → stN st nxt L k = pg := fun k pg h1 h2 => by
    unfold stN
    rw [if_pos h1, h2]; rfl
  have lt : ∀ (i : Nat) (pg : Pg), L[i]? = some pg → i < L.length := fun i pg h => by
    obtain ⟨hi, -⟩ := List.getElem?_eq_some_iff.mp h
    exact hi
  obtain ⟨pg, hpg⟩ : ∃ pg, L[(32 * nxt + L.length - 1) % 32]? = some pg := ⟨_, List.getElem?_eq_getElem (by omega)⟩
  have es := sn _ pg eK hpg
  obtain ⟨⟨w1, w2, -, -⟩, -, w6, -⟩ := W _ pg hpg
  have k2 : pg.1 = 2 := w2.mpr (by omega)
  have ed : ∀ m, ld (stN st nxt L) (32 * nxt + L.length - 1) m = pg.2.1 m := fun m => by unfold ld; rw [es]
  rcases rcb_t.mp hk with q | ⟨m, hm, h0, q⟩ | ⟨m, j, hm, hj, h0, q⟩
  · rw [q]; exact Or.inl ⟨eK, by omega⟩
  · rw [ed] at h0 q
    rcases w6 k2 m hm with c | ⟨c1, c2, -⟩ | ⟨c1, x, c2, -⟩
    · exact absurd c h0
    · rw [q]; exact Or.inr c2
    · rw [q]; exact Or.inl ⟨c1, lt _ _ c2⟩
  · unfold lk2 at h0 q
    rw [ed] at h0 q
    by_cases c0 : pg.2.1 m = 0
    · rw [if_pos c0] at h0; exact absurd rfl h0
    · rw [if_neg c0] at h0 q
      rcases w6 k2 m hm with c | ⟨c1, c2, c3, c4, c5⟩ | ⟨c1, x, c2, c3, c4⟩
      · exact absurd c c0
      · have e2 : ld (stN st nxt L) (pg.2.1 m) j = ld st (pg.2.1 m) j := by unfold ld; rw [stN_o (by omega)]
        rw [e2] at h0 q
        rw [q]; exact Or.inr (c5 j hj h0)
      · have e2 : ld (stN st nxt L) (pg.2.1 m) j = x.2.1 j := by unfold ld; rw [sn _ x c1 c2]
        rw [e2] at h0 q
        obtain ⟨-, -, -, u7⟩ := W _ x c2
        rcases u7 c3 j hj with d | ⟨d1, d2, -⟩ | ⟨d1, z, d2, -⟩
        · exact absurd d h0
        · rw [q]; exact Or.inr d2
        · rw [q]; exact Or.inl ⟨d1, lt _ _ d2⟩
theorem Ivt.write {s : Ab} {base gen f lat p : Nat} {L : List Pg} {vers : List Vt} (I : Ivt s base gen) (now : Nat → Option Int32) (hL1 : 1 ≤ L.length) (hL2 : L.length ≤ 21) (hf : f + (L.length + 1) / 2 ≤ 32) (hfree : ∀ b, f ≤ b → b < f + (L.length + 1) / 2 → s.free b = true) (hn : s.nxt + 1 < 2 ^ 14) (W : WOK s.st s.vers s.nxt L)
    (h1 : vers.Pairwise fun t u => t.1 < u.1) (h2 : ∀ t ∈ vers, t.1 < 2 ^ 20 ∧ t.2.1 ≤ 9 ∧ t.2.2 < 2 ^ 20) (h3 : vers.Pairwise fun t u => t.2.2 < u.2.2) (h4 : vers.getLast? = some (lat, p, 32 * s.nxt + L.length - 1)) (h5 : ∀ t ∈ vers, t.2.2 = 32 * s.nxt + L.length - 1 ∨ ∃ u ∈ s.vers, u.2.2 = t.2.2) : Ivt (sWrite s L f vers lat now) base gen := by
  obtain ⟨S, i1, i2, i3, i4, i5, i6, i7⟩ := I
  have vkl : ∀ k, lvb s.st s.vers k = true → vk s.np s.nxt k := fun k hk => by
    obtain ⟨t, z1, z2, z3⟩ := lvb_t.mp hk
    obtain ⟨v, k2⟩ := i5.2.2.2.2 t z1 z2
    exact (S.rc v k2 z3).1
  have S' := S.write vkl i1 hL1 hL2 hf hn W
  obtain ⟨K, hK⟩ : ∃ K, K = 32 * s.nxt + L.length - 1 := ⟨_, rfl⟩
  rw [← hK] at h4 h5
  have eK : K / 32 = s.nxt := by omega
  have npn : va_up s.np s.nxt L.length s.nxt = L.length := up_n
  have fsn : va_up s.fs s.nxt f s.nxt = f := up_n
  have mkn : mkk (va_up s.np s.nxt L.length) s.nxt = K := by unfold mkk; rw [npn]; omega
  have nbn : nbk (va_up s.np s.nxt L.length) s.nxt = (L.length + 1) / 2 := by unfold nbk; rw [npn]
  have hRW : ∀ k, rcb (stN s.st s.nxt L) K k = true → (k / 32 = s.nxt ∧ k % 32 < L.length) ∨ lvb s.st s.vers k = true := fun k hk => W.rc hL1 hL2 (by rw [← hK]; exact hk)
  have lvs : ∀ k, lvb (stN s.st s.nxt L) vers k = true → (k / 32 = s.nxt ∧ k % 32 < L.length) ∨ lvb s.st s.vers k = true := fun k hk => by
    obtain ⟨t, z1, z2, z3⟩ := lvb_t.mp hk
    rcases h5 t z1 with c | ⟨u, u1, u2⟩
    · rw [c] at z3; exact hRW k z3
    · rw [← u2] at z2 z3
      obtain ⟨v, k2⟩ := i5.2.2.2.2 u u1 z2
      rw [rcb_old S v k2] at z3
      exact Or.inr (lvb_t.mpr ⟨u, u1, z2, z3⟩)
  have outB : ∀ id ∈ s.chs, ∀ b, inB s.fs s.np id b → ¬ (f ≤ b ∧ b < f + (L.length + 1) / 2) := fun id hid b hb z => by
    have a1 := i3.2.2.1 id hid b hb
    rw [hfree b z.1 z.2] at a1; cases a1
  have co : ∀ id ∈ s.chs, ∀ b, inB s.fs s.np id b → ups s.cont f ((L.length + 1) / 2) (fun b => (s.nxt, b - f)) b = s.cont b := fun id hid b hb => if_neg (outB id hid b hb)
  have inb : ∀ k, vk s.np s.nxt k → inB s.fs s.np (k / 32) (s.fs (k / 32) + k % 32 / 2) := fun k v => by
    have := v.2.2
    unfold inB nbk
    omega
  have hdo : ∀ k, vk s.np s.nxt k → k / 32 ∈ s.chs → hdk s.cont s.fs k → hdk (ups s.cont f ((L.length + 1) / 2) (fun b => (s.nxt, b - f))) (va_up s.fs s.nxt f) k := fun k v hc hd => by
    unfold hdk at hd ⊢
    rw [up_o (by have := v.2.1; omega), co _ hc _ (inb k v)]
    exact hd
  have hdn : ∀ k, k / 32 = s.nxt → k % 32 < L.length → hdk (ups s.cont f ((L.length + 1) / 2) (fun b => (s.nxt, b - f))) (va_up s.fs s.nxt f) k := fun k z1 z2 => by
    unfold hdk ups
    rw [z1, up_n, if_pos (by omega)]
    dsimp only
    rw [Nat.add_sub_cancel_left]
  have whn : whl (ups s.cont f ((L.length + 1) / 2) (fun b => (s.nxt, b - f))) (va_up s.fs s.nxt f) (va_up s.np s.nxt L.length) s.nxt := fun q hq => by
    rw [nbn] at hq
    unfold ups
    rw [fsn, if_pos (by omega)]
    dsimp only
    rw [Nat.add_sub_cancel_left]
  have bo : ∀ g b, bOK g s.fs s.np s.nxt b → bOK g (va_up s.fs s.nxt f) (va_up s.np s.nxt L.length) (s.nxt + 1) b := fun g b hb => by
    rcases hb with q | ⟨q1, q2, q3, q4⟩
    · exact Or.inl q
    · refine Or.inr ⟨q1, by omega, ?_, ?_⟩
      · rw [up_o (by omega)]; exact q3
      · unfold nbk at q4 ⊢
        rw [up_o (by omega)]; exact q4
  have ib : ∀ id, id < s.nxt → ∀ b, inB (va_up s.fs s.nxt f) (va_up s.np s.nxt L.length) id b → inB s.fs s.np id b := fun id hid b hb => by
    unfold inB nbk at hb ⊢
    rw [up_o (by omega), up_o (by omega)] at hb
    exact hb
  have ibn : ∀ b, inB (va_up s.fs s.nxt f) (va_up s.np s.nxt L.length) s.nxt b → f ≤ b ∧ b < f + (L.length + 1) / 2 := fun b hb => by
    unfold inB at hb
    rw [fsn, nbn] at hb
    exact hb
  have lm : lmk vers = K := by unfold lmk; rw [h4]; rfl
  have mem : ∀ id, id ∈ s.chs ++ [s.nxt] ↔ id ∈ s.chs ∨ id = s.nxt := fun id => by rw [List.mem_append, List.mem_singleton]
  refine ⟨S', by show 1 ≤ s.nxt + 1; omega, fun b hb => ⟨?_, bo _ b (i2 b hb).2⟩, ⟨fun id hid => ?_, ?_, fun id hid b hb => ?_, fun id hid id' hid' hne b hb hb' => ?_⟩, ⟨?_, fun b hb => ?_, fun b hb hnb => ?_⟩, I5.of vers lat h1 h2 h3 ⟨_, h4, rfl⟩ i5.2.2.2.1 ?_ rfl rfl, ⟨fun k hk => ?_, fun _ => ?_⟩, ⟨by show gen ≤ s.nxt + 1; have := i7.1.1; omega, i7.1.2⟩, fun b hb => ?_, fun hb => ?_, fun id z1 z2 z3 => ?_, fun id z1 z2 => ?_, fun id z1 z2 k hk => ?_⟩
  · -- blocks
    by_cases c : f ≤ b ∧ b < f + (L.length + 1) / 2
    · refine Or.inr ?_
      show 1 ≤ (ups s.cont f ((L.length + 1) / 2) (fun b => (s.nxt, b - f)) b).1 ∧ (ups s.cont f ((L.length + 1) / 2) (fun b => (s.nxt, b - f)) b).1 < s.nxt + 1 ∧ b = va_up s.fs s.nxt f (ups s.cont f ((L.length + 1) / 2) (fun b => (s.nxt, b - f)) b).1 + (ups s.cont f ((L.length + 1) / 2) (fun b => (s.nxt, b - f)) b).2 ∧ (ups s.cont f ((L.length + 1) / 2) (fun b => (s.nxt, b - f)) b).2 < nbk (va_up s.np s.nxt L.length) (ups s.cont f ((L.length + 1) / 2) (fun b => (s.nxt, b - f)) b).1
      have e : ups s.cont f ((L.length + 1) / 2) (fun b => (s.nxt, b - f)) b = (s.nxt, b - f) := if_pos c
      rw [e]
      dsimp only
      rw [fsn, nbn]
      omega
    · have e : ups s.cont f ((L.length + 1) / 2) (fun b => (s.nxt, b - f)) b = s.cont b := if_neg c
      have q := bo s.cont b (i2 b hb).1
      unfold bOK at q ⊢
      show ((ups s.cont f ((L.length + 1) / 2) (fun b => (s.nxt, b - f)) b).1 = 0 ∧ (ups s.cont f ((L.length + 1) / 2) (fun b => (s.nxt, b - f)) b).2 = 0) ∨ (1 ≤ (ups s.cont f ((L.length + 1) / 2) (fun b => (s.nxt, b - f)) b).1 ∧ (ups s.cont f ((L.length + 1) / 2) (fun b => (s.nxt, b - f)) b).1 < s.nxt + 1 ∧ b = va_up s.fs s.nxt f (ups s.cont f ((L.length + 1) / 2) (fun b => (s.nxt, b - f)) b).1 + (ups s.cont f ((L.length + 1) / 2) (fun b => (s.nxt, b - f)) b).2 ∧ (ups s.cont f ((L.length + 1) / 2) (fun b => (s.nxt, b - f)) b).2 < nbk (va_up s.np s.nxt L.length) (ups s.cont f ((L.length + 1) / 2) (fun b => (s.nxt, b - f)) b).1)
      rw [e]; exact q
  · show 1 ≤ id ∧ id < s.nxt + 1
    rcases (mem id).mp hid with q | q
    · have := i3.1 id q
      omega
    · omega
  · refine pw_ix.mpr ?_
    show (s.chs ++ [s.nxt]).Pairwise fun a b => a < b
    rw [List.pairwise_append]
    refine ⟨pw_ix.mp i3.2.1, List.pairwise_singleton _ _, fun a ha b hb => ?_⟩
    rw [List.mem_singleton] at hb
    rw [hb]; exact (i3.1 a ha).2
  · show ups s.free f ((L.length + 1) / 2) (fun _ => false) b = false
    rcases (mem id).mp hid with q | q
    · have hb2 := ib id (i3.1 id q).2 b hb
      unfold ups
      rw [if_neg (outB id q b hb2)]
      exact i3.2.2.1 id q b hb2
    · subst q
      exact if_pos (ibn b hb)
  · rcases (mem id).mp hid with q | q
    · have hb2 := ib id (i3.1 id q).2 b hb
      rcases (mem id').mp hid' with q' | q'
      · exact i3.2.2.2 id q id' q' hne b hb2 (ib id' (i3.1 id' q').2 b hb')
      · subst q'
        exact outB id q b hb2 (ibn b hb')
    · subst q
      rcases (mem id').mp hid' with q' | q'
      · exact outB id' q' b (ib id' (i3.1 id' q').2 b hb') (ibn b hb)
      · exact hne q'.symm
  · -- pending
    intro i j b hi hj
    have hi' : (s.pend ++ (List.range ((L.length + 1) / 2)).map (f + ·))[i]? = some b := hi
    have hj' : (s.pend ++ (List.range ((L.length + 1) / 2)).map (f + ·))[j]? = some b := hj
    have sp : ∀ i, (s.pend ++ (List.range ((L.length + 1) / 2)).map (f + ·))[i]? = some b → (i < s.pend.length ∧ s.pend[i]? = some b ∧ s.free b = false) ∨ (s.pend.length ≤ i ∧ b = f + (i - s.pend.length) ∧ s.free b = true) := fun i h => by
      rcases Nat.lt_or_ge i s.pend.length with q | q
      · rw [List.getElem?_append_left q] at h
        exact Or.inl ⟨q, h, (i4.2.1 b (List.mem_of_getElem? h)).2⟩
      · rw [List.getElem?_append_right q, List.getElem?_map] at h
        rcases Nat.lt_or_ge (i - s.pend.length) ((L.length + 1) / 2) with z | z
        · rw [List.getElem?_range z] at h
          cases h
          exact Or.inr ⟨q, rfl, hfree (f + (i - s.pend.length)) (by omega) (by omega)⟩
        · rw [List.getElem?_eq_none (by rw [List.length_range]; exact z)] at h; cases h
    rcases sp i hi' with ⟨a1, a2, a3⟩ | ⟨a1, a2, a3⟩
    · rcases sp j hj' with ⟨b1, b2, b3⟩ | ⟨b1, b2, b3⟩
      · exact i4.1 i j b a2 b2
      · rw [a3] at b3; cases b3
    · rcases sp j hj' with ⟨b1, b2, b3⟩ | ⟨b1, b2, b3⟩
      · rw [a3] at b3; cases b3
      · omega
  · have hb' : b ∈ s.pend ++ (List.range ((L.length + 1) / 2)).map (f + ·) := hb
    show b < 32 ∧ ups s.free f ((L.length + 1) / 2) (fun _ => false) b = false
    rcases List.mem_append.mp hb' with q | q
    · obtain ⟨q1, q2⟩ := i4.2.1 b q
      refine ⟨q1, ?_⟩
      unfold ups
      by_cases c : f ≤ b ∧ b < f + (L.length + 1) / 2
      · exact if_pos c
      · rw [if_neg c]; exact q2
    · obtain ⟨j, j1, j2⟩ := List.mem_map.mp q
      rw [List.mem_range] at j1
      exact ⟨by omega, if_pos (by omega)⟩
  · have hb' : b ∉ s.pend ++ (List.range ((L.length + 1) / 2)).map (f + ·) := hnb
    rw [List.mem_append] at hb'
    show ups s.cont f ((L.length + 1) / 2) (fun b => (s.nxt, b - f)) b = s.sett b
    unfold ups
    rw [if_neg (fun c => hb' (Or.inr (List.mem_map.mpr ⟨b - f, List.mem_range.mpr (by omega), by omega⟩)))]
    exact i4.2.2 b hb (fun z => hb' (Or.inl z))
  · -- metas
    intro t ht h0
    show vk (va_up s.np s.nxt L.length) (s.nxt + 1) t.2.2 ∧ kd (stN s.st s.nxt L) t.2.2 = 2
    rcases h5 t ht with c | ⟨u, u1, u2⟩
    · rw [c, ← mkn]
      obtain ⟨m1, m2, -⟩ := mkk_vk S' i1 (Nat.lt_succ_self _)
      exact ⟨m1, m2⟩
    · rw [← u2] at h0 ⊢
      obtain ⟨v, k2⟩ := i5.2.2.2.2 u u1 h0
      refine ⟨⟨v.1, by have := v.2.1; omega, by rw [up_o (by have := v.2.1; omega)]; exact v.2.2⟩, ?_⟩
      unfold kd
      rw [stN_o (by have := v.2.1; omega)]; exact k2
  · show k / 32 ∈ s.chs ++ [s.nxt] ∧ _
    rcases lvs k hk with ⟨q1, q2⟩ | q
    · exact ⟨(mem _).mpr (Or.inr q1), hdn k q1 q2⟩
    · obtain ⟨c1, c2⟩ := i6.1 k q
      exact ⟨(mem _).mpr (Or.inl c1), hdo k (vkl k q) c1 c2⟩
  · show whl (ups s.cont f ((L.length + 1) / 2) (fun b => (s.nxt, b - f))) (va_up s.fs s.nxt f) (va_up s.np s.nxt L.length) (lmk vers / 32)
    rw [lm, eK]; exact whn
  · -- base
    refine ⟨?_, (i7.2.1 b hb).2⟩
    show ups s.cont f ((L.length + 1) / 2) (fun b => (s.nxt, b - f)) b = s.sett b ∨ gen ≤ (ups s.cont f ((L.length + 1) / 2) (fun b => (s.nxt, b - f)) b).1
    unfold ups
    by_cases c : f ≤ b ∧ b < f + (L.length + 1) / 2
    · rw [if_pos c]; exact Or.inr i7.1.1
    · rw [if_neg c]; exact (i7.2.1 b hb).1
  · obtain ⟨r1, r2, r3⟩ := i7.2.2.1 hb
    have bl : base < s.nxt := Nat.lt_of_lt_of_le i7.1.2 i7.1.1
    have b1 : 1 ≤ base := by omega
    obtain ⟨v, k2, e⟩ := mkk_vk S b1 bl
    have em : mkk (va_up s.np s.nxt L.length) base = mkk s.np base := by unfold mkk; rw [up_o (by omega)]
    have bc : base ∈ s.chs := by
      have := r3 (mkk s.np base) (rcb_t.mpr (Or.inl rfl))
      rwa [e] at this
    refine ⟨(Rd_old S b1 bl).mpr r1, (Rd_old S b1 bl).mpr ⟨fun q hq => ?_, fun k hk => ?_⟩, fun k hk => ?_⟩
    · exact (co base bc _ (by unfold inB; omega)).trans (r2.1 q hq)
    · exact (co _ (r3 k hk) _ (inb k (S.rc v k2 hk).1)).trans (r2.2 k hk)
    · have hk' : rcb (stN s.st s.nxt L) (mkk (va_up s.np s.nxt L.length) base) k = true := hk
      rw [em, rcb_old S v k2] at hk'
      exact (mem _).mpr (Or.inl (r3 k hk'))
  · exact i7.2.2.2.1 id z1 z2 ((Rd_old S (by omega) (Nat.lt_of_lt_of_le z2 i7.1.1)).mp z3)
  · exfalso
    have z1' : lmk vers / 32 < id := z1
    rw [lm, eK] at z1'
    have z2' : id < s.nxt + 1 := z2
    omega
  · have z2' : id < s.nxt + 1 := z2
    have hk' : rcb (stN s.st s.nxt L) (mkk (va_up s.np s.nxt L.length) id) k = true := hk
    by_cases c : id = s.nxt
    · subst c
      rw [mkn] at hk'
      rcases hRW k hk' with q | q
      · exact (mem _).mpr (Or.inr q.1)
      · exact (mem _).mpr (Or.inl (i6.1 k q).1)
    · have i1' : 1 ≤ id := by have := i7.1.2; omega
      obtain ⟨v, k2, e⟩ := mkk_vk S i1' (show id < s.nxt by omega)
      have em : mkk (va_up s.np s.nxt L.length) id = mkk s.np id := by unfold mkk; rw [up_o c]
      rw [em, rcb_old S v k2] at hk'
      exact (mem _).mpr (Or.inl (i7.2.2.2.2.2 id z1 (by omega) k hk'))

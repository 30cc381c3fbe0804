/-! THE LAW'S START -/
def StartH (E : Nat × Nat) (b : Nat) (h : Hp) : Prop := hpT h E.1 = 64 ∧ hpT h b = 65 ∧ hpL h E.1 = 0 ∧ hpL h b ≤ 2048 ∧ E.1 < hpN h ∧ b < hpN h ∧ (∀ a, a ≠ E.1 → a ≠ b → hpT h a = 63)
theorem law_ok {E : Nat × Nat} {b : Nat} {h : Hp} (S : StartH E b h) : ∃ h', f_law E b h = some (1, h') ∧ hpN h' ≤ hpN h + 600000 ∧ hpS h' ≤ hpS h + 7302250 := law_run S.1 S.2.1 S.2.2.1 S.2.2.2.1 S.2.2.2.2.1 S.2.2.2.2.2.1
theorem lw_sub : ∀ w ∈ lw_w, w ∈ lw_tbl := fun _ h => (List.mem_filter.mp h).1
theorem st_D {s : State} (K : KW s) : ∃ (dC : Nat → ClassId) (dI : Nat → Nat → Nat), ∀ (c : Nat) (q : vw_C), kcl[c]? = some q → u_Kn s q.1 q.2.1 q.2.2 (dC c) (dI c) := by
  have h : ∀ κ : Nat, ∃ (cC : ClassId) (iS : Nat → Nat), ∀ q, kcl[κ]? = some q → u_Kn s q.1 q.2.1 q.2.2 cC iS := by
    intro κ
    cases hk : kcl[κ]? with
    | none => exact ⟨0, fun _ => 0, fun q hq => by cases hq⟩
    | some q0 =>
      obtain ⟨cC, iS, h1⟩ := u_known (args := #[]) K.use (kin hk) (K.use (A := #[]) _ (kis hk))
      exact ⟨cC, iS, fun q hq => by cases hq; exact h1⟩
  exact ⟨fun κ => Classical.choose (h κ), fun κ => Classical.choose (Classical.choose_spec (h κ)), fun c q hq => Classical.choose_spec (Classical.choose_spec (h c)) q hq⟩
theorem st_P {s : State} {ty : FieldType} (h : (Cond.arrayClass ty).before #[] s = true) (hp : ∀ c, va_RA s c ty ↔ s.vm.findClass ("[" ++ ty.toString) = some c) : ∃ c : ClassId, ArrOfT s c ty ∧ va_RA s c ty := by
  obtain ⟨c, k, comp, h1, h2, h3⟩ := Cond.arrayClass_spec h
  exact ⟨c, fun n z => ⟨fun k h => (by cases h), k, h2, comp, h3⟩, (hp c).mpr h1⟩
theorem st_O {s : State} {C : String} (h : (Cond.arrayOver (.object C)).before #[] s = true) : ∃ c : ClassId, ArrOfT s c (.object C) ∧ va_RA s c (.object C) := by
  obtain ⟨comp, c, k, h1, h2, h3, h4, h5⟩ := Cond.arrayOver_spec h
  exact ⟨c, fun n z => ⟨fun k h => (by cases h), k, h3, comp, h4⟩, k, comp, h3, h4, h1, h5⟩
theorem st_A {s : State} (K : KW s) : ∃ ca : Nat → ClassId, ∀ (k : Nat) (q : ClassId × FieldType), (tys ca)[k]? = some q → ArrOfT s q.1 q.2 ∧ va_RA s q.1 q.2 := by
  obtain ⟨c0, a0⟩ := st_P (s := s) (ty := .int) (K.use _ (by decide +kernel)) (fun c => Iff.rfl)
  obtain ⟨c1, a1⟩ := st_P (s := s) (ty := .boolean) (K.use _ (by decide +kernel)) (fun c => Iff.rfl)
  obtain ⟨c2, a2⟩ := st_O (s := s) (C := "VersionMaps$Chunk") (K.use _ (by decide +kernel))
  obtain ⟨c3, a3⟩ := st_O (s := s) (C := "VersionMaps$Page") (K.use _ (by decide +kernel))
  obtain ⟨c4, a4⟩ := st_O (s := s) (C := "VersionMaps$Root") (K.use _ (by decide +kernel))
  obtain ⟨c5, a5⟩ := st_O (s := s) (C := "VersionMaps$Leaf") (K.use _ (by decide +kernel))
  obtain ⟨c6, a6⟩ := st_O (s := s) (C := "java/lang/Object") (K.use _ (by decide +kernel))
  refine ⟨fun t => match t with | 0 => c0 | 1 => c1 | 2 => c2 | 3 => c3 | 4 => c4 | 5 => c5 | _ => c6, fun k q hq => ?_⟩
  have hk : k < 7 := (List.getElem?_eq_some_iff.mp hq).1
  have : k = 0 ∨ k = 1 ∨ k = 2 ∨ k = 3 ∨ k = 4 ∨ k = 5 ∨ k = 6 := by omega
  rcases this with e | e | e | e | e | e | e <;> subst e <;> cases (Option.some.inj hq)
  · exact a0
  · exact a1
  · exact a2
  · exact a3
  · exact a4
  · exact a5
  · exact a6
/-- the static's array -/
theorem st_E {s : State} {args : Array Value} (hgv : (Jvm.Cond.and given_1 narrow_1).before args s = true) : ∃ e0 : Nat, (Term.static "java/util/ArrayList" "DEFAULTCAPACITY_EMPTY_ELEMENTDATA" "[Ljava/lang/Object;").eval args s none [] s = some (.ref e0) ∧ emA e0 s s.heap := by
  have hs := flat_of_before _ hgv
  have h1 : (Cond.exactly (.static "java/util/ArrayList" "DEFAULTCAPACITY_EMPTY_ELEMENTDATA" "[Ljava/lang/Object;") "[Ljava/lang/Object;").before args s = true := hs _ (by decide +kernel)
  have h2 : (Cond.arrayOf (.static "java/util/ArrayList" "DEFAULTCAPACITY_EMPTY_ELEMENTDATA" "[Ljava/lang/Object;") (.object "java/lang/Object")).before args s = true := hs _ (by decide +kernel)
  have h3 : (Cond.eq (.length (.static "java/util/ArrayList" "DEFAULTCAPACITY_EMPTY_ELEMENTDATA" "[Ljava/lang/Object;")) (.int 0)).before args s = true := hs _ (by decide +kernel)
  obtain ⟨a, c, cell, k, q1, q2, q3, q4, q5, q6, -⟩ := Cond.exactly_spec h1
  obtain ⟨g1, g2⟩ := Cond.arrayOf_spec h2 q1 q3
  refine ⟨a, q1, cell, q3, g1, ?_⟩
  cases hv : (Term.length (.static "java/util/ArrayList" "DEFAULTCAPACITY_EMPTY_ELEMENTDATA" "[Ljava/lang/Object;")).eval args s none [] s with
  | none => simp [Cond.before, Cond.holds, Cond.value, hv] at h3
  | some w =>
    obtain ⟨a', cell', r1, r2, r3⟩ := Term.length_spec hv
    cases q1.symm.trans r1
    obtain ⟨r4, -⟩ := State.arrayAt?_spec r2
    cases q3.symm.trans r4
    have hz : (Term.int 0).eval args s none [] s = some (.int 0) := rfl
    subst r3
    simp only [Cond.before, Cond.holds, Cond.value, hv, hz] at h3
    simpa using h3
def h_0 (n e0 b L : Nat) (xs : Nat → Int32) : Hp := (n, 0, fun a => if a = e0 then 64 else if a = b then 65 else 63, fun a => if a = e0 then 0 else L, fun _ j => xs j, fun _ _ => none)
set_option maxRecDepth 100000 in
set_option maxHeartbeats 4000000 in
/-- from the entry, for every script of at most 2048 ints, the law comes to its end with true -/
theorem whole_start {p : Program} {e : Env} {s : State} {m : MethodId} {below : List Frame} {meth : Method} {c : Code} (l : Launch) {b L : Nat} {xs : Nat → Int32} (hL : L ≤ 2048) (C0 : lw_At p s m meth c b L xs) : W p l e room_1 s m #[Value.ref b] below meth c s.heap [] 0 0 (lw_Z below #[Value.ref b] s) (entryFrame m ([Value.ref b] : List Value).toArray 4) := by
  obtain ⟨hx, hb, hr, hml, hown, hts, hX, hbl, hlocks, hgv⟩ := C0
  have K : KW s := KW.of (A := #[Value.ref b]) (fun w hw => hts w (lw_sub w hw))
  obtain ⟨dC, dI, hD⟩ := st_D K
  obtain ⟨ca, hA⟩ := st_A K
  obtain ⟨e0, he0, hem⟩ := st_E hgv
  obtain ⟨mi, hmi⟩ : ∃ mi : Nat, va_Mi "[Ljava/lang/Object;" mi s := va_Mi.of (args := #[Value.ref b]) (flat_of_before _ hgv _ (by decide +kernel))
  have hZ : va_Z "java/util/ArrayList" "DEFAULTCAPACITY_EMPTY_ELEMENTDATA" "[Ljava/lang/Object;" (.ref e0) (fun q => s.heap.size ≤ q) s s.heap := va_Zof (args := #[Value.ref b]) (hts _ (by decide +kernel)) (hts _ (by decide +kernel)) he0 (fun a ha => Nat.not_le.mpr ha)
  have hel : e0 < s.heap.size := by
    obtain ⟨cell, q, -⟩ := hem
    exact (Array.getElem?_eq_some_iff.mp q).1
  have hne : b ≠ e0 := by
    intro q
    subst q
    obtain ⟨c1, q1, ⟨-, k1, r1, m1, w1⟩, -⟩ := hX
    obtain ⟨c2, q2, ⟨-, k2, r2, m2, w2⟩, -⟩ := hem
    cases q1.symm.trans q2
    cases r1.symm.trans r2
    rw [w1] at w2
    cases w2
  obtain ⟨C, hC⟩ : ∃ C : Ct, C = ((dC, dI), ca, s.heap.size, e0, b, L, xs) := ⟨_, rfl⟩
  have hK : KK C mi s := by
    subst hC
    exact ⟨K, ⟨hD, hA⟩, hZ, hmi, hX, hem, hbl, hel⟩
  obtain ⟨h0, hh0⟩ : ∃ h0 : Hp, h0 = h_0 s.heap.size e0 b L xs := ⟨_, rfl⟩
  have eT : hpT h0 e0 = 64 ∧ hpT h0 b = 65 ∧ hpL h0 e0 = 0 ∧ hpL h0 b = L := by
    subst hh0
    exact ⟨if_pos rfl, (if_neg hne).trans (if_pos rfl), if_pos rfl, if_neg hne⟩
  have eO : ∀ a, a ≠ e0 → a ≠ b → hpT h0 a = 63 := by
    intro a h1 h2
    subst hh0
    exact (if_neg h1).trans (if_neg h2)
  have eN : hpN h0 = s.heap.size := by subst hh0; rfl
  have hP : HP C h0 s.heap := by
    have hcB : cB C = s.heap.size := by subst hC; rfl
    have hcE : cE C = e0 := by subst hC; rfl
    have hcS : cS C = b := by subst hC; rfl
    refine ⟨eN.symm, by rw [hcB, eN]; exact Nat.le_refl _, fun a ha => ?_, fun a _ h1 h2 => eO a (by rw [← hcE]; exact h1) (by rw [← hcS]; exact h2), ?_, ?_, ?_, ?_, ?_, ?_, ?_⟩
    · obtain ⟨z1, z2⟩ := ha
      rw [hcB] at z1
      rw [eN] at z2
      omega
    · rw [hcE]; exact eT.1
    · rw [hcS]; exact eT.2.1
    · rw [hcE]; exact eT.2.2.1
    · rw [hcS, eT.2.2.2]; subst hC; rfl
    · subst hC; subst hh0; rfl
    · rw [hcE, hcB]; exact hel
    · rw [hcS, hcB]; exact hbl
  have hcE : cE C = e0 := by subst hC; rfl
  obtain ⟨h', hf, hn, hs⟩ := law_ok (E := (cE C, mi)) (b := b) (h := h0) ⟨by rw [hcE]; exact eT.1, eT.2.1, by rw [hcE]; exact eT.2.2.1, by rw [eT.2.2.2]; exact hL, by rw [hcE, eN]; exact hel, by rw [eN]; exact hbl, fun a h1 h2 => eO a (by rw [hcE] at h1; exact h1) h2⟩
  have hz := zf_law (l := l) (C := C) (mi := mi) hf
  have hl := lv_entry ([.ref b]) (n := 4) (Nat.le_of_ble_eq_true rfl)
  rw [lg_entry_eq]
  generalize (lg_sl ([Value.ref b]) ++ List.replicate (4 - (lg_sl ([Value.ref b])).length) Slot.unset).toArray = lv at hl ⊢
  have k := hz.2.2 p e room_1 s m #[Value.ref b] below meth c s.heap [] lv (lw_Z below #[Value.ref b] s) (hpN h0) (hpS h0) ⟨hx, hb, hml, hown, hK, by decide, by decide, fun q => absurd q (by decide)⟩ hP va_S.rf (Nat.le_refl _) (by subst hC; exact Nat.le_refl _) hl (Nat.le_refl _) (Nat.le_refl _) hn hs ?_
  · rw [Nat.sub_self, Nat.sub_self] at k
    exact k
  · intro pc' H' locs' lv' hd P' S'
    have hcB : cB C = s.heap.size := by subst hC; rfl
    refine va_forget (fun q hq => ?_) ?_
    · have := S'.2.2 q hq
      have h9 : cB C ≤ q.base := this
      rw [hcB] at h9
      exact h9
    · refine W.widen (k := 600000) (n := 7302250) (by omega) (by omega) ?_
      exact lw_ret hx hb hr hlocks hd

section Cpy
variable {l : Launch} {C : Ct} {mi : Nat} {M : Mi} {d pc : Nat} {ls : List (Nat × Tv)} {st : List Tv} {h h' : Hp} {r : Option Tv}
theorem st_cat (st : List Tv) : ((st.map tv).map fun v => v.category).sum = (st.map fun t => bif cat2 t then 2 else 1).sum := by
  rw [List.map_map]
  congr 1
  apply List.map_congr_left
  intro t _
  have h1 := tv_cat t
  show (tv t).category = _
  rcases lv_cat (tv t) with q | q <;> rw [q] at h1 ⊢
  · rw [← h1]; rfl
  · rw [← h1]; rfl
theorem nnI {z : Int32} (hz : ¬ z < 0) : z.toInt = (z.toNatClampNeg : Int) := by
  have hz0 : (0 : Int) ≤ z.toInt := by
    have := Int32.not_lt.mp hz
    simpa using Int32.le_iff_toInt_le.mp this
  show z.toInt = ((z.toInt.toNat : Nat) : Int)
  omega
def cp_ok (M : Mi) (idx : Nat) : Prop := Cond.methodLink M.1.cls idx arraycopyName ∈ lw_w
theorem cp_w1 : Cond.native arraycopyName ∈ lw_w := by decide +kernel
theorem cp_w2 : Cond.static arraycopyName ∈ lw_w := by decide +kernel
theorem cp_w3 : Cond.initialized "java/lang/System" ∈ lw_w := by decide +kernel
/-- behind a copy: the cells -/
theorem w_cpy {H : Heap} {h1 : Hp} {b : Nat} {f : Nat → Value} (P : HP C h H) (hk : 66 ≤ hpT h b)
    (e1 : hpN h1 = hpN h) (e2 : hpT h1 = hpT h) (e3 : hpL h1 = hpL h) (e4 : ∀ x, x ≠ b → hpI h1 x = hpI h x) (e5 : ∀ x, x ≠ b → hpR h1 x = hpR h x) (e6 : ∀ q, aV h1 b q = f q) : HP C h1 (H.setIfInBounds b (arrV (cA C (aty (hpT h b))) (hpL h b) f)) := by
  have hA := P.arr (a := b) rfl (by omega)
  have hl : b < H.size := (Array.getElem?_eq_some_iff.mp hA).1
  refine P.put (a := b) rfl (Or.inr hk) (by simp) (fun q hq => by simp [Array.getElem?_setIfInBounds, Ne.symm hq]) e1 e2 e3 e4 e5 ⟨fun q => by rw [e2] at q; omega, fun _ => ?_⟩
  rw [e2, e3]
  have : (H.setIfInBounds b (arrV (cA C (aty (hpT h b))) (hpL h b) f))[b]? = some (arrV (cA C (aty (hpT h b))) (hpL h b) f) := by simp [Array.getElem?_setIfInBounds, hl]
  rw [this]
  congr 2
  funext q
  exact (e6 q).symm
theorem z_copyI {x y : Option Nat} {a b idx : Nat} {sp dp n : Int32} (hd : decode M.2.1 pc = .ok (.invokestatic idx, 3)) (hw : cp_ok M idx) (hd1 : 1 ≤ d) (hst : (st.map fun t => bif cat2 t then 2 else 1).sum ≤ 8) (ha : x = some a) (hb : y = some b) (hk : 66 ≤ hpT h a) (ht : aty (hpT h a) = 0) (hkb : 66 ≤ hpT h b) (htb : aty (hpT h b) = 0)
    (h1 : ¬ sp < 0) (h2 : ¬ dp < 0) (h3 : ¬ n < 0) (h4 : sp.toNatClampNeg + n.toNatClampNeg ≤ hpL h a) (h5 : dp.toNatClampNeg + n.toNatClampNeg ≤ hpL h b)
    (k : Z l C mi M d (pc + 3) ls st (cpI h a sp.toNatClampNeg b dp.toNatClampNeg n.toNatClampNeg) r h') : Z l C mi M d pc ls (vi n :: vi dp :: vr y :: vi sp :: vr x :: st) h r h' := by
  subst ha; subst hb
  refine z_store k rfl rfl fun p e R s m args below meth c H locs cells slots lv Q X P S L kk => ?_
  obtain ⟨x1, x2, x3, x4, ⟨K1, K2, K3⟩, x6, x7, x8⟩ := X
  have hc0 := P.arr (a := a) rfl hk
  have hc1 := P.arr (a := b) rfl (by omega)
  have f0 : aV h a = fun j => .int (hpI h a j) := by funext j; exact aV_i (by omega) j
  have f1 : aV h b = fun j => .int (hpI h b j) := by funext j; exact aV_i (by omega) j
  rw [ht, f0] at hc0
  rw [htb, f1] at hc1
  intro T hT X0
  obtain ⟨-, k0, hk0, cm0, hkk0⟩ := (K2.2 0 _ rfl).1 (hpL h a) (fun j => .int (hpI h a j))
  obtain ⟨vm', X', step⟩ := X0.arraycopy x1 x4 (K1.use _ hw) (K1.use _ cp_w1) (K1.use _ cp_w2) (K1.use _ cp_w3) (src := a) (dst := b) (cs := arrV (cA C 0) (hpL h a) (fun j => .int (hpI h a j))) (cd := arrV (cA C 0) (hpL h b) (fun j => .int (hpI h b j))) (srcPos := sp) (destPos := dp) (n := n) (by rw [hT]; exact hc0) (by rw [hT]; exact hc1)
    (fun _ h => by cases h) (fun _ h => by cases h) (fun h => by cases h) (fun h => by cases h) hk0 hk0 hkk0 hkk0 (by simp [refKind]) h1 h2 h3
    (by rw [nnI h1, nnI h3, arrV_size]; omega)
    (by rw [nnI h2, nnI h3, arrV_size]; omega)
    (fun vm₁ _ i hi => by
      have e : (arrV (cA C 0) (hpL h a) (fun j => Value.int (hpI h a j))).slots.getD (sp.toNatClampNeg + i) .null = .int (hpI h a (sp.toNatClampNeg + i)) := by
        rw [Array.getD_eq_getD_getElem?, arrV_read _ _ (by omega)]
        rfl
      refine ⟨?_, ?_⟩
      · rw [e]; rfl
      · rw [e]; exact trivial)
    (g := F0 m pc lv (.int n :: .int dp :: .ref b :: .int sp :: .ref a :: st.map tv)) rfl (by rw [x3]; exact L.1) (rest := st.map tv) rfl (by rw [x2]; exact hd) (by omega) (by
      show 2 * 0 + _ + _ ≤ _
      rw [st_cat]
      have hw5 : nativeFrameWords "java/lang/System" "arraycopy" 5 ≤ 16 := by decide
      omega)
  have e1 : copied (arrV (cA C 0) (hpL h a) (fun j => Value.int (hpI h a j))) (arrV (cA C 0) (hpL h b) (fun j => Value.int (hpI h b j))) sp dp n = arrV (cA C 0) (hpL h b) (fun j => Value.int (va_cpy (hpI h a) (hpI h b) sp.toNatClampNeg dp.toNatClampNeg n.toNatClampNeg j)) := va_copied (fun z => Value.int z) _ _ (hpI h a) (hpI h b) h4
  rw [e1] at X' step
  have hl : b < H.size := (Array.getElem?_eq_some_iff.mp hc1).1
  have hP1 : HP C (cpI h a sp.toNatClampNeg b dp.toNatClampNeg n.toNatClampNeg) (H.setIfInBounds b (arrV (cA C (aty (hpT h b))) (hpL h b) (fun j => Value.int (va_cpy (hpI h a) (hpI h b) sp.toNatClampNeg dp.toNatClampNeg n.toNatClampNeg j)))) := by
    refine w_cpy P hkb rfl rfl rfl (fun x hx => ?_) (fun x hx => rfl) (fun q => ?_)
    · funext j; exact if_neg (fun z => hx z.1)
    · rw [aV_i (h := cpI h a sp.toNatClampNeg b dp.toNatClampNeg n.toNatClampNeg) (a := b) (by show aty (hpT h b) < 2; omega)]
      refine congrArg Value.int ?_
      show (if b = b ∧ _ then _ else _) = if _ then _ else _
      by_cases hq : dp.toNatClampNeg ≤ q ∧ q < dp.toNatClampNeg + n.toNatClampNeg
      · rw [if_pos ⟨rfl, hq⟩, if_pos hq]
      · rw [if_neg (fun z => hq z.2), if_neg hq]
  rw [htb] at hP1
  have hown := (P.own (a := b) rfl (Or.inr hkb)).1
  have oq : ∀ q : Nat, q ≠ b → (H.setIfInBounds b (arrV (cA C 0) (hpL h b) (fun j => Value.int (va_cpy (hpI h a) (hpI h b) sp.toNatClampNeg dp.toNatClampNeg n.toNatClampNeg j))))[q]? = H[q]? := fun q hq => by simp [Array.getElem?_setIfInBounds, Ne.symm hq]
  obtain ⟨t, a1, b1⟩ := kk _ _ hP1 ⟨by simp; exact S.1, fun q g1 g2 => by
      rw [oq q (fun e => g2 (by rw [e]; exact hown))]
      exact S.2.1 q g1 g2, fun q hq => by
      rcases List.mem_append.mp hq with h | h
      · exact S.2.2 q h
      · obtain ⟨z, -, hz⟩ := List.mem_map.mp h
        rw [← hz]
        exact hown⟩ (by simp) ((T.setVm vm').setCell b (arrV (cA C 0) (hpL h b) (fun j => Value.int (va_cpy (hpI h a) (hpI h b) sp.toNatClampNeg dp.toNatClampNeg n.toNatClampNeg j)))) (by rw [← hT]; rfl) X'
  exact ⟨t, step t a1, b1⟩
theorem z_copyR {x y : Option Nat} {a b idx : Nat} {sp dp n : Int32} (hd : decode M.2.1 pc = .ok (.invokestatic idx, 3)) (hw : cp_ok M idx) (hd1 : 1 ≤ d) (hst : (st.map fun t => bif cat2 t then 2 else 1).sum ≤ 8) (ha : x = some a) (hb : y = some b) (hk : 66 ≤ hpT h a) (ht : aty (hpT h a) = 6) (hkb : 66 ≤ hpT h b) (htb : aty (hpT h b) = 6)
    (h1 : ¬ sp < 0) (h2 : ¬ dp < 0) (h3 : ¬ n < 0) (h4 : sp.toNatClampNeg + n.toNatClampNeg ≤ hpL h a) (h5 : dp.toNatClampNeg + n.toNatClampNeg ≤ hpL h b)
    (hel : ∀ i, i < n.toNatClampNeg → ∀ y, hpR h a (sp.toNatClampNeg + i) = some y → as_ok (hpT h y) 6)
    (k : Z l C mi M d (pc + 3) ls st (cpR h a sp.toNatClampNeg b dp.toNatClampNeg n.toNatClampNeg) r h') : Z l C mi M d pc ls (vi n :: vi dp :: vr y :: vi sp :: vr x :: st) h r h' := by
  subst ha; subst hb
  refine z_store k rfl rfl fun p e R s m args below meth c H locs cells slots lv Q X P S L kk => ?_
  obtain ⟨x1, x2, x3, x4, K, x6, x7, x8⟩ := X
  have hc0 := P.arr (a := a) rfl hk
  have hc1 := P.arr (a := b) rfl (by omega)
  have f0 : aV h a = fun j => va_rf (hpR h a j) := by funext j; exact aV_r (by omega) j
  have f1 : aV h b = fun j => va_rf (hpR h b j) := by funext j; exact aV_r (by omega) j
  rw [ht, f0] at hc0
  rw [htb, f1] at hc1
  have K1 := K.1
  have K2 := K.2.1
  intro T hT X0
  obtain ⟨-, k0, hk0, cm0, hkk0⟩ := (K2.2 6 _ rfl).1 (hpL h a) (fun j => va_rf (hpR h a j))
  obtain ⟨vm', X', step⟩ := X0.arraycopy x1 x4 (K1.use _ hw) (K1.use _ cp_w1) (K1.use _ cp_w2) (K1.use _ cp_w3) (src := a) (dst := b) (cs := arrV (cA C 6) (hpL h a) (fun j => va_rf (hpR h a j))) (cd := arrV (cA C 6) (hpL h b) (fun j => va_rf (hpR h b j))) (srcPos := sp) (destPos := dp) (n := n) (by rw [hT]; exact hc0) (by rw [hT]; exact hc1)
    (fun _ h => by cases h) (fun _ h => by cases h) (fun h => by cases h) (fun h => by cases h) hk0 hk0 hkk0 hkk0 rfl h1 h2 h3
    (by rw [nnI h1, nnI h3, arrV_size]; omega)
    (by rw [nnI h2, nnI h3, arrV_size]; omega)
    (fun vm₁ hal i hi => by
      have e : (arrV (cA C 6) (hpL h a) (fun j => va_rf (hpR h a j))).slots.getD (sp.toNatClampNeg + i) .null = va_rf (hpR h a (sp.toNatClampNeg + i)) := by
        rw [Array.getD_eq_getD_getElem?, arrV_read _ _ (by omega)]
        rfl
      rw [e]
      cases hy : hpR h a (sp.toNatClampNeg + i) with
      | none => exact ⟨rfl, trivial⟩
      | some y =>
        obtain ⟨cellV, g1, g2, ⟨kC, hkC⟩, hasg⟩ := w_any K P (hel i hi y hy)
        obtain ⟨kA, comp, r1, r2, r3, -⟩ := (K2.2 6 _ rfl).2
        cases hk0.symm.trans r1
        cases hkk0.symm.trans r2
        obtain ⟨kE, hkE, -⟩ := Vm.findClass_spec r3
        obtain ⟨kC', hkC', -⟩ := hal.2.2 _ _ hkC
        obtain ⟨kE', hkE', -⟩ := hal.2.2 _ _ hkE
        refine ⟨rfl, cellV, (show T.heap[y]? = some cellV by rw [hT]; exact g1), (fun q h => by rw [h] at g2; cases g2), ⟨kC', hkC'⟩, ?_, ?_⟩
        · exact ⟨kE', hkE'⟩
        · show vm₁.assignable _ _ = true
          rw [hal.assignable]
          exact hasg _ r3)
    (g := F0 m pc lv (.int n :: .int dp :: .ref b :: .int sp :: .ref a :: st.map tv)) rfl (by rw [x3]; exact L.1) (rest := st.map tv) rfl (by rw [x2]; exact hd) (by omega) (by
      show 2 * 0 + _ + _ ≤ _
      rw [st_cat]
      have hw5 : nativeFrameWords "java/lang/System" "arraycopy" 5 ≤ 16 := by decide
      omega)
  have e1 : copied (arrV (cA C 6) (hpL h a) (fun j => va_rf (hpR h a j))) (arrV (cA C 6) (hpL h b) (fun j => va_rf (hpR h b j))) sp dp n = arrV (cA C 6) (hpL h b) (fun j => va_rf (va_cpy (hpR h a) (hpR h b) sp.toNatClampNeg dp.toNatClampNeg n.toNatClampNeg j)) := va_copied (fun z => va_rf z) _ _ (hpR h a) (hpR h b) h4
  rw [e1] at X' step
  have hl : b < H.size := (Array.getElem?_eq_some_iff.mp hc1).1
  have hP1 : HP C (cpR h a sp.toNatClampNeg b dp.toNatClampNeg n.toNatClampNeg) (H.setIfInBounds b (arrV (cA C (aty (hpT h b))) (hpL h b) (fun j => va_rf (va_cpy (hpR h a) (hpR h b) sp.toNatClampNeg dp.toNatClampNeg n.toNatClampNeg j)))) := by
    refine w_cpy P hkb rfl rfl rfl (fun x hx => rfl) (fun x hx => ?_) (fun q => ?_)
    · funext j; exact if_neg (fun z => hx z.1)
    · rw [aV_r (h := cpR h a sp.toNatClampNeg b dp.toNatClampNeg n.toNatClampNeg) (a := b) (by show 2 ≤ aty (hpT h b); omega)]
      refine congrArg va_rf ?_
      show (if b = b ∧ _ then _ else _) = if _ then _ else _
      by_cases hq : dp.toNatClampNeg ≤ q ∧ q < dp.toNatClampNeg + n.toNatClampNeg
      · rw [if_pos ⟨rfl, hq⟩, if_pos hq]
      · rw [if_neg (fun z => hq z.2), if_neg hq]
  rw [htb] at hP1
  have hown := (P.own (a := b) rfl (Or.inr hkb)).1
  have oq : ∀ q : Nat, q ≠ b → (H.setIfInBounds b (arrV (cA C 6) (hpL h b) (fun j => va_rf (va_cpy (hpR h a) (hpR h b) sp.toNatClampNeg dp.toNatClampNeg n.toNatClampNeg j))))[q]? = H[q]? := fun q hq => by simp [Array.getElem?_setIfInBounds, Ne.symm hq]
  obtain ⟨t, a1, b1⟩ := kk _ _ hP1 ⟨by simp; exact S.1, fun q g1 g2 => by
      rw [oq q (fun e => g2 (by rw [e]; exact hown))]
      exact S.2.1 q g1 g2, fun q hq => by
      rcases List.mem_append.mp hq with h | h
      · exact S.2.2 q h
      · obtain ⟨z, -, hz⟩ := List.mem_map.mp h
        rw [← hz]
        exact hown⟩ (by simp) ((T.setVm vm').setCell b (arrV (cA C 6) (hpL h b) (fun j => va_rf (va_cpy (hpR h a) (hpR h b) sp.toNatClampNeg dp.toNatClampNeg n.toNatClampNeg j)))) (by rw [← hT]; rfl) X'
  exact ⟨t, step t a1, b1⟩
/-- the static of ArrayList -/
theorem z_gets {idx : Nat} (hd : decode M.2.1 pc = .ok (.getstatic idx, 3)) (hw : Cond.fieldLink M.1.cls idx "java/util/ArrayList" "DEFAULTCAPACITY_EMPTY_ELEMENTDATA" "[Ljava/lang/Object;" ∈ lw_w) (k : Z l C mi M d (pc + 3) ls (vr (some (cE C)) :: st) h r h') : Z l C mi M d pc ls st h r h' :=
  z_of k fun p e R s m args below meth c H locs cells slots lv Q X P S L kk => va_gets X.1 X.2.1 X.2.2.2.2.1.2.2.1 S X.2.2.2.1 (X.2.2.2.2.1.1.use _ hw) (fun _ z => z) hd (kk lv L)
/-- checkcast of an object of a known class -/
theorem z_cast {x : Option Nat} {idx : Nat} {nm : String} (hd : decode M.2.1 pc = .ok (.checkcast idx, 3)) (hw : Cond.classLink M.1.cls idx nm ∈ lw_w) (hc : ∀ a, x = some a → ∃ q : vw_C, kcl[hpT h a]? = some q ∧ Cond.castable q.1 nm ∈ lw_w) (k : Z l C mi M d (pc + 3) ls (vr x :: st) h r h') : Z l C mi M d pc ls (vr x :: st) h r h' :=
  z_of k fun p e R s m args below meth c H locs cells slots lv Q X P S L kk => by
    cases x with
    | none => exact lv_castN X.1 X.2.1 hd (kk lv L)
    | some a =>
      obtain ⟨q, h1, h2⟩ := hc a rfl
      obtain ⟨q', g1, cell, g2, g3, g4, g5⟩ := P.obj rfl (kcl63 h1)
      cases h1.symm.trans g1
      exact va_castY X.1 X.2.1 X.2.2.2.1 (X.2.2.2.2.1.1.use _ hw) (X.2.2.2.2.1.1 _ h2) ⟨cell, g2, by rw [g4]; rfl, by rw [g3]; exact (X.2.2.2.2.1.2.1.1 _ _ h1).2.1⟩ hd (kk lv L)
/-- the mirror of Object[] -/
theorem z_ldcM {idx : Nat} (hd : decode M.2.1 pc = .ok (.ldc idx, 2)) (hw : Cond.classLink M.1.cls idx "[Ljava/lang/Object;" ∈ lw_w) (k : Z l C mi M d (pc + 2) ls (vr (some mi) :: st) h r h') : Z l C mi M d pc ls st h r h' :=
  z_of k fun p e R s m args below meth c H locs cells slots lv Q X P S L kk => va_ldcM X.1 X.2.1 X.2.2.2.1 (X.2.2.2.2.1.1.use _ hw) X.2.2.2.2.1.2.2.2.1 hd (kk lv L)
/-- Object.<init> -/
theorem z_oinit {x : Option Nat} {a idx : Nat} (hd : decode M.2.1 pc = .ok (.invokespecial idx, 3)) (hw : Cond.methodLink M.1.cls idx Lib.objectInit ∈ lw_w) (ha : x = some a) (hd1 : 1 ≤ d) (hst : (st.map fun t => bif cat2 t then 2 else 1).sum ≤ 8) (k : Z l C mi M d (pc + 3) ls st h r h') : Z l C mi M d pc ls (vr x :: st) h r h' := by
  subst ha
  refine z_of k fun p e R s m args below meth c H locs cells slots lv Q X P S L kk => ?_
  obtain ⟨x1, x2, x3, x4, K, x6, x7, x8⟩ := X
  refine W.objInit x1 x2 x4 (K.1.use _ hw) (K.1.use _ (show Cond.instanceMethod Lib.objectInit ∈ lw_w by decide +kernel)) (K.1.use _ (show Cond.code Lib.objectInit ⟨#[0xb1]⟩ 1 none ∈ lw_w by decide +kernel)) rfl (by rw [x3]; exact L.1) (a := a) (rest := st.map tv) rfl hd (by omega) ?_ (kk lv L)
  show 2 * 0 + _ + _ ≤ _
  rw [st_cat]
  omega
end Cpy

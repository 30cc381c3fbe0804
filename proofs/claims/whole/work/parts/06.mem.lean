/-- the field k of kind κ is what entry idx of the class own links -/
def fl_ok (own : String) (idx κ k : Nat) : Prop := ∃ (ref : String) (q : vw_C), kcl[κ]? = some q ∧ k < q.2.2 ∧ Cond.fieldLink own idx ref (q.2.1 k).2.1 (q.2.1 k).2.2.1 ∈ lw_w ∧ (ref = (q.2.1 k).1 ∨ Cond.sameField ref (q.2.1 k).1 (q.2.1 k).2.1 (q.2.1 k).2.2.1 ∈ lw_w)
theorem fl_same {s : State} (K : KW s) {ref o n t : String} (h : ref = o ∨ Cond.sameField ref o n t ∈ lw_w) : ∀ x, s.fieldFound? o n t = some x → s.fieldFound? ref n t = some x := by
  intro x hx
  rcases h with h | h
  · rw [h]; exact hx
  · exact u_same (args := #[]) (K.use _ h) x hx
theorem kcl63 {κ : Nat} {q : vw_C} (h : kcl[κ]? = some q) : κ < 63 := Nat.lt_trans (kcl_lt h) (by decide)
section Mem
variable {l : Launch} {C : Ct} {mi : Nat} {M : Mi} {d pc : Nat} {ls : List (Nat × Tv)} {st : List Tv} {h h' : Hp} {r : Option Tv}
theorem w_get {p : Program} {e : Env} {R : Room} {s : State} {m : MethodId} {args : Array Value} {below : List Frame} {meth : Method} {c : Code} {H : Heap} {locs : List Loc} {cells slots : Nat} {lv : Array Slot} {Q : State → Prop} {rest : List Value}
    {a k idx : Nat} (X : Cx C mi M d p R s m args meth c) (P : HP C h H) (hd : decode M.2.1 pc = .ok (.getfield idx, 3)) (hl : fl_ok M.1.cls idx (hpT h a) k)
    (kk : W p l e R s m args below meth c H locs cells slots Q (F0 m (pc + 3) lv (fV h a k :: rest))) : W p l e R s m args below meth c H locs cells slots Q (F0 m pc lv (.ref a :: rest)) := by
  obtain ⟨ref, q, h1, h2, h3, h4⟩ := hl
  obtain ⟨q', g1, cell, g2, g3, g4, g5⟩ := P.obj rfl (kcl63 h1)
  cases h1.symm.trans g1
  obtain ⟨x1, x2, x3, x4, ⟨K1, K2, K3⟩, x6⟩ := X
  obtain ⟨hS, hfc, kC, hkC, hkind⟩ := K2.1 _ _ h1
  obtain ⟨cf, kf, fi, f, hi, hsl⟩ := hS k h2
  refine W.getf x1 x2 x4 (K1.use _ h3) (fl_same K1 h4 _ hi) (u_facts (args := args) hfc hkC (u_lays K1.use (kin h1) h2) hi).1 g2 (by rw [g4]; exact fun h => by cases h) (v := fV h a k) ?_ rfl rfl hd kk
  rw [hsl]
  exact g5 k h2
theorem z_getI {x : Option Nat} {a k idx : Nat} (hd : decode M.2.1 pc = .ok (.getfield idx, 3)) (hl : fl_ok M.1.cls idx (hpT h a) k) (hf : fint (hpT h a) k = true) (ha : x = some a) (kk : Z l C mi M d (pc + 3) ls (vi (hpI h a k) :: st) h r h') : Z l C mi M d pc ls (vr x :: st) h r h' := by
  subst ha
  refine z_of kk fun p e R s m args below meth c H locs cells slots lv Q X P S L k2 => w_get X P hd hl ?_
  have e1 : fV h a k = .int (hpI h a k) := by unfold fV; rw [hf]; rfl
  rw [e1]
  exact k2 lv L
theorem z_getR {x : Option Nat} {a k idx : Nat} (hd : decode M.2.1 pc = .ok (.getfield idx, 3)) (hl : fl_ok M.1.cls idx (hpT h a) k) (hf : fint (hpT h a) k = false) (ha : x = some a) (kk : Z l C mi M d (pc + 3) ls (vr (hpR h a k) :: st) h r h') : Z l C mi M d pc ls (vr x :: st) h r h' := by
  subst ha
  refine z_of kk fun p e R s m args below meth c H locs cells slots lv Q X P S L k2 => w_get X P hd hl ?_
  have e1 : fV h a k = va_rf (hpR h a k) := by unfold fV; rw [hf]; rfl
  rw [e1]
  exact k2 lv L
/-- may the method write the field? -/
def pu_ok (M : Mi) (κ k : Nat) : Prop := ∀ q : vw_C, kcl[κ]? = some q → (q.2.1 k).2.2.2 = false ∨ (M.1.name = "<init>" ∧ (q.2.1 k).1 = M.1.cls)
theorem w_put {p : Program} {e : Env} {R : Room} {s : State} {m : MethodId} {args : Array Value} {below : List Frame} {meth : Method} {c : Code} {H : Heap} {locs : List Loc} {cells slots : Nat} {lv : Array Slot} {Q : State → Prop} {rest : List Value} {v : Value}
    {a k idx : Nat} {h1 : Hp} (X : Cx C mi M d p R s m args meth c) (P : HP C h H) (S : va_S (fre C) s.heap H locs) (hd : decode M.2.1 pc = .ok (.putfield idx, 3)) (hl : fl_ok M.1.cls idx (hpT h a) k) (hp : pu_ok M (hpT h a) k)
    (hv : narrow (kty (hpT h a) k) v = v ∧ fits (kty (hpT h a) k) v = true) (e1 : hpN h1 = hpN h) (e2 : hpT h1 = hpT h) (e3 : hpL h1 = hpL h) (e4 : ∀ b, b ≠ a → hpI h1 b = hpI h b) (e5 : ∀ b, b ≠ a → hpR h1 b = hpR h b) (e6 : ∀ j, j ≠ k → fV h1 a j = fV h a j) (e7 : fV h1 a k = v)
    (kk : ∀ (H1 : Heap) (locs1 : List Loc), HP C h1 H1 → va_S (fre C) s.heap H1 locs1 → H1.size = H.size → W p l e R s m args below meth c H1 locs1 cells slots Q (F0 m (pc + 3) lv rest)) : W p l e R s m args below meth c H locs cells slots Q (F0 m pc lv (v :: .ref a :: rest)) := by
  obtain ⟨ref, q, f1, f2, f3, f4⟩ := hl
  have h63 := kcl63 f1
  obtain ⟨q', g1, cell, g2, g3, g4, g5⟩ := P.obj rfl h63
  cases f1.symm.trans g1
  obtain ⟨x1, x2, x3, x4, ⟨K1, K2, K3⟩, x6, x7, x8⟩ := X
  have hap := va_apart (own := M.1.cls) (args := args) K1.use (kin f1) (kty (hpT h a)) (kok f1) (knm f1) K2 f1
  obtain ⟨hS, hfc, kC, hkC, hkind⟩ := K2.1 _ _ f1
  obtain ⟨cf, kf, fi, f, hi, hsl⟩ := hS k f2
  have hst := (u_facts (args := args) hfc hkC (u_lays K1.use (kin f1) f2) hi).1
  have hown := P.own (a := a) rfl (Or.inl h63)
  have fin : ∀ H' : Heap, H'[a]? = some (cell.setSlot f.slot v) → H'.size = H.size → (∀ q, q ≠ a → H'[q]? = H[q]?) → W p l e R s m args below meth c H' (locs ++ [⟨a, f.slot⟩]) cells slots Q (F0 m (pc + 3) lv rest) := by
    intro H' o1 o2 o3
    refine kk H' _ (P.put (a := a) rfl (Or.inl h63) o2 o3 e1 e2 e3 e4 e5 ⟨fun _ => ?_, fun q => ?_⟩) (S.put o2 o3 hown.1) o2
    · rw [e2]
      refine ⟨_, f1, _, o1, g3, g4, ?_⟩
      rw [hsl]
      have t1 := t_set g5 hap f2 v
      intro j hj
      rw [t1 j hj]
      unfold updV
      by_cases hjk : j = k
      · rw [if_pos hjk, hjk, e7]
      · rw [if_neg hjk, e6 j hjk]
    · rw [e2] at q; omega
  have hlay := K1.use (A := args) _ (kin f1 _ (u_in_lay f2))
  unfold u_lay at hlay
  by_cases hfin : (q.2.1 k).2.2.2 = true
  · rw [if_pos hfin] at hlay
    rcases hp q f1 with hz | ⟨hz1, hz2⟩
    · rw [hfin] at hz; cases hz
    · have hcf : m.cls = cf := by
        obtain ⟨_, _, c', _, _, _, -, -, hf', -, -, -, hown2, -⟩ := Cond.laysFinal_spec hlay
        have e1 : c' = cf := by have := hi.symm.trans hf'; simp at this; exact this.1.symm
        rw [hz2] at hown2
        rw [← e1]; exact Option.some.inj (x4.symm.trans hown2)
      have h6 := u_fits (args := args) hfc hkC hkind (Or.inr hlay) hi (kok f1 k f2) hv.1 hv.2
      exact W.putFinK x1 x2 x4 (K1.use _ f3) (fl_same K1 f4 _ hi) hst hcf (x8 hz1) (by rw [g3]; exact h6) g2 g4 (by rw [hsl]; exact k2_hasslot (g5 k f2)) rfl rfl hd fin
  · rw [if_neg hfin] at hlay
    have h6 := u_store (args := args) hfc hkC hkind hlay hi (kok f1 k f2) hv.1 hv.2
    exact W.putK x1 x2 (f := f) ⟨x4, K1.use _ f3, ⟨_, _, _, fl_same K1 f4 _ hi⟩, hst⟩ (by rw [g3]; exact h6) g2 g4 (by rw [hsl]; exact k2_hasslot (g5 k f2)) rfl rfl hd fin
theorem z_store {pc2 : Nat} {st2 : List Tv} {h1 : Hp} (k : Z l C mi M d pc2 ls st2 h1 r h') (e1 : hpN h1 = hpN h) (e2 : hpS h1 = hpS h)
    (f : ∀ (p : Program) (e : Env) (R : Room) (s : State) (m : MethodId) (args : Array Value) (below : List Frame) (meth : Method) (c : Code) (H : Heap) (locs : List Loc) (cells slots : Nat) (lv : Array Slot) (Q : State → Prop), Cx C mi M d p R s m args meth c → HP C h H → va_S (fre C) s.heap H locs → LR lv M.2.2.1 ls →
      (∀ (H1 : Heap) (locs1 : List Loc), HP C h1 H1 → va_S (fre C) s.heap H1 locs1 → H1.size = H.size → W p l e R s m args below meth c H1 locs1 cells slots Q (F0 m pc2 lv (st2.map tv))) → W p l e R s m args below meth c H locs cells slots Q (F0 m pc lv (st.map tv))) : Z l C mi M d pc ls st h r h' :=
  ⟨e1 ▸ k.1, e2 ▸ k.2.1, fun p e R s m args below meth c H locs lv Q n0 s0 X P S z1 z2 L a1 a2 a3 a4 hend => f p e R s m args below meth c H locs _ _ lv Q X P S L (fun H1 locs1 P1 S1 zz => by
    have kk := k.2.2 p e R s m args below meth c H1 locs1 lv Q n0 s0 X P1 S1 (by rw [zz]; exact z1) z2 L (by rw [e1]; exact a1) (by rw [e2]; exact a2) a3 a4 hend
    rw [e1, e2] at kk
    exact kk)⟩
theorem z_putI {x : Option Nat} {a k idx : Nat} {v : Int32} (hd : decode M.2.1 pc = .ok (.putfield idx, 3)) (hl : fl_ok M.1.cls idx (hpT h a) k) (hp : pu_ok M (hpT h a) k) (hf : fint (hpT h a) k = true) (ha : x = some a) (kk : Z l C mi M d (pc + 3) ls st (wI h a k v) r h') : Z l C mi M d pc ls (vi v :: vr x :: st) h r h' := by
  subst ha
  refine z_store kk rfl rfl fun p e R s m args below meth c H locs cells slots lv Q X P S L k2 => ?_
  obtain ⟨ref, q, f1, f2, -⟩ := id hl
  have hty : kty (hpT h a) k = .int := by
    rcases kfo f1 k f2 with z | z
    · exact z.2
    · rw [hf] at z; cases z.1
  refine w_put (v := .int v) X P S hd hl hp (by rw [hty]; exact ⟨rfl, rfl⟩) (h1 := wI h a k v) rfl rfl rfl (fun b hb => ?_) (fun b hb => rfl) (fun j hj => ?_) ?_ k2
  · funext j; exact if_neg (fun q => hb q.1)
  · show (if fint (hpT h a) j then Value.int (if a = a ∧ j = k then v else hpI h a j) else va_rf (hpR h a j)) = fV h a j
    rw [if_neg (c := a = a ∧ j = k) (fun q => hj q.2)]; rfl
  · show (if fint (hpT h a) k then Value.int (if a = a ∧ k = k then v else hpI h a k) else va_rf (hpR h a k)) = _
    rw [hf, if_pos rfl, if_pos ⟨rfl, rfl⟩]
theorem z_putR {x v : Option Nat} {a k idx : Nat} (hd : decode M.2.1 pc = .ok (.putfield idx, 3)) (hl : fl_ok M.1.cls idx (hpT h a) k) (hp : pu_ok M (hpT h a) k) (hf : fint (hpT h a) k = false) (ha : x = some a) (kk : Z l C mi M d (pc + 3) ls st (wR h a k v) r h') : Z l C mi M d pc ls (vr v :: vr x :: st) h r h' := by
  subst ha
  refine z_store kk rfl rfl fun p e R s m args below meth c H locs cells slots lv Q X P S L k2 => ?_
  obtain ⟨ref, q, f1, f2, -⟩ := id hl
  have hty : (kty (hpT h a) k).isReference = true := by
    rcases kfo f1 k f2 with z | z
    · rw [hf] at z; cases z.1
    · exact z.2
  have hvv : narrow (kty (hpT h a) k) (va_rf v) = va_rf v ∧ fits (kty (hpT h a) k) (va_rf v) = true := by
    cases hk : kty (hpT h a) k <;> rw [hk] at hty <;> first | (cases hty; done) | (cases v <;> exact ⟨rfl, rfl⟩)
  refine w_put (v := va_rf v) X P S hd hl hp hvv (h1 := wR h a k v) rfl rfl rfl (fun b hb => rfl) (fun b hb => ?_) (fun j hj => ?_) ?_ k2
  · funext j; exact if_neg (fun q => hb q.1)
  · show (if fint (hpT h a) j then Value.int (hpI h a j) else va_rf (if a = a ∧ j = k then v else hpR h a j)) = fV h a j
    rw [if_neg (c := a = a ∧ j = k) (fun q => hj q.2)]; rfl
  · show (if fint (hpT h a) k then Value.int (hpI h a k) else va_rf (if a = a ∧ k = k then v else hpR h a k)) = _
    rw [hf, if_neg (by decide), if_pos ⟨rfl, rfl⟩]
end Mem

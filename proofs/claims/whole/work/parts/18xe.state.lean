/-! THE STATE: now, touched leaves, touched maps, contents, settled, free, pending, chunks, versions, latest number, held, next id, store, first blocks, numbers of pages -/
abbrev Ab : Type := (Nat → Option Int32) × (Nat → Bool) × (Nat → Bool) × (Nat → Nat × Nat) × (Nat → Nat × Nat) × (Nat → Bool) × List Nat × List Nat × List Vt × Nat × Nat × Nat × (Nat → Pg) × (Nat → Nat) × (Nat → Nat)
abbrev Ab.now (s : Ab) := s.1
abbrev Ab.tl (s : Ab) := s.2.1
abbrev Ab.tm (s : Ab) := s.2.2.1
abbrev Ab.cont (s : Ab) := s.2.2.2.1
abbrev Ab.sett (s : Ab) := s.2.2.2.2.1
abbrev Ab.free (s : Ab) := s.2.2.2.2.2.1
abbrev Ab.pend (s : Ab) := s.2.2.2.2.2.2.1
abbrev Ab.chs (s : Ab) := s.2.2.2.2.2.2.2.1
abbrev Ab.vers (s : Ab) := s.2.2.2.2.2.2.2.2.1
abbrev Ab.lat (s : Ab) := s.2.2.2.2.2.2.2.2.2.1
abbrev Ab.hold (s : Ab) := s.2.2.2.2.2.2.2.2.2.2.1
abbrev Ab.nxt (s : Ab) := s.2.2.2.2.2.2.2.2.2.2.2.1
abbrev Ab.st (s : Ab) := s.2.2.2.2.2.2.2.2.2.2.2.2.1
abbrev Ab.fs (s : Ab) := s.2.2.2.2.2.2.2.2.2.2.2.2.2.1
abbrev Ab.np (s : Ab) := s.2.2.2.2.2.2.2.2.2.2.2.2.2.2
/-- a page's block holds it -/
def hdk (f : Nat → Nat × Nat) (fs : Nat → Nat) (k : Nat) : Prop := f (fs (k / 32) + k % 32 / 2) = (k / 32, k % 32 / 2)
/-- the meta of a chunk -/
def mkk (np : Nat → Nat) (id : Nat) : Nat := 32 * id + np id - 1
def nbk (np : Nat → Nat) (id : Nat) : Nat := (np id + 1) / 2
def whl (f : Nat → Nat × Nat) (fs np : Nat → Nat) (id : Nat) : Prop := ∀ q, q < nbk np id → f (fs id + q) = (id, q)
def Rd (st : Nat → Pg) (f : Nat → Nat × Nat) (fs np : Nat → Nat) (id : Nat) : Prop := whl f fs np id ∧ ∀ k, rcb st (mkk np id) k = true → hdk f fs k
/-- the reference holds the state -/
def RM (h : Hp) (y : Nat) (A pid pat : Nat → Nat) (s : Ab) : Prop := MOK h y A ∧ (MNow h A s.now ∧ MTl h A s.tl ∧ MTm h A s.tm) ∧ MF h y A s.cont s.sett s.free s.pend ∧ MC h y A s.chs s.fs s.np (fun id => pwh s.st (mkk s.np id)) ∧ (MV h y A s.vers ∧ hpI h y 31 = nI s.lat ∧ hpI h y 32 = nI s.hold ∧ hpI h y 26 = nI s.nxt) ∧ PR h A pid pat s.st s.np s.nxt ∧ ∀ k, vk s.np s.nxt k → hdk s.cont s.fs k ∨ hdk s.sett s.fs k → inP pid pat k
/-- the class holds the state; the addresses as one function: 0 present, 1 file, 2 chunks' list, 3 versions' list, 4 and 5 their arrays, 6 and 7 present's arrays, 8 to 12 the file's arrays -/
def RX (e0 : Nat) (h : Hp) (x : Nat) (B : Nat → Nat) (va : List Nat) (ca ka pa : Nat → Nat) (rd : Nat) (s : Ab) : Prop := e0 < hpN h ∧ XO h x (B 0) (B 1) (B 2) (B 3) ∧ (PN h (B 0) (B 6) (B 7) s.now ∧ PT h (B 0) s.tl s.tm) ∧ FR h (B 1) (B 8) (B 9) (B 10) (B 11) (B 12) (fun b => ck ca (s.cont b).1) (fun b => ck ca (s.sett b).1) s.free (fun b => decide (b ∈ s.pend)) s.pend ∧ AL e0 h (B 2) (B 4) (s.chs.map ca) ∧
  (XV e0 h (B 3) (B 5) va s.vers (ck pa) ∧ (∀ (i a : Nat) (t : Vt), va[i]? = some a → s.vers[i]? = some t → (some a = hpR h x 4 ↔ t.1 = s.lat))) ∧ (hpI h x 5 = nI s.hold ∧ hpI h x 6 = nI s.nxt) ∧ XG h ca ka pa s.st s.fs s.np s.nxt ∧ XL h x pa s.np s.nxt s.st s.vers rd ∧ B 2 ≠ B 3 ∧ B 4 ≠ B 5
/-- a block's say -/
def bOK (f : Nat → Nat × Nat) (fs np : Nat → Nat) (nxt b : Nat) : Prop := ((f b).1 = 0 ∧ (f b).2 = 0) ∨ (1 ≤ (f b).1 ∧ (f b).1 < nxt ∧ b = fs (f b).1 + (f b).2 ∧ (f b).2 < nbk np (f b).1)
def inB (fs np : Nat → Nat) (id b : Nat) : Prop := fs id ≤ b ∧ b < fs id + nbk np id
/-- the last version's meta -/
def lmk (vers : List Vt) : Nat := (vers.getLast?.getD (0, 0, 0)).2.2
def I2 (s : Ab) : Prop := ∀ b, b < 32 → bOK s.cont s.fs s.np s.nxt b ∧ bOK s.sett s.fs s.np s.nxt b
def I3 (s : Ab) : Prop := (∀ id ∈ s.chs, 1 ≤ id ∧ id < s.nxt) ∧ (∀ i j a b : Nat, s.chs[i]? = some a → s.chs[j]? = some b → i < j → a < b) ∧ (∀ id ∈ s.chs, ∀ b : Nat, inB s.fs s.np id b → s.free b = false) ∧ ∀ id ∈ s.chs, ∀ id' ∈ s.chs, id ≠ id' → ∀ b : Nat, inB s.fs s.np id b → ¬ inB s.fs s.np id' b
def I4 (s : Ab) : Prop := (∀ i j b : Nat, s.pend[i]? = some b → s.pend[j]? = some b → i = j) ∧ (∀ b ∈ s.pend, b < 32 ∧ s.free b = false) ∧ ∀ b, b < 32 → b ∉ s.pend → s.cont b = s.sett b
def I5 (s : Ab) : Prop := VI s.vers ∧ (∀ (i j : Nat) (t u : Vt), s.vers[i]? = some t → s.vers[j]? = some u → i < j → t.2.2 < u.2.2) ∧ (∃ t, s.vers.getLast? = some t ∧ t.1 = s.lat) ∧ s.hold ≤ 4 ∧ VK s.st s.np s.nxt s.vers
def I6 (s : Ab) : Prop := (∀ k, lvb s.st s.vers k = true → k / 32 ∈ s.chs ∧ hdk s.cont s.fs k) ∧ (lmk s.vers ≠ 0 → whl s.cont s.fs s.np (lmk s.vers / 32))
def I7 (s : Ab) (base gen : Nat) : Prop := (gen ≤ s.nxt ∧ base < gen) ∧ (∀ b, b < 32 → (s.cont b = s.sett b ∨ gen ≤ (s.cont b).1) ∧ (s.sett b).1 < gen) ∧
  (base ≠ 0 → Rd s.st s.sett s.fs s.np base ∧ Rd s.st s.cont s.fs s.np base ∧ ∀ k, rcb s.st (mkk s.np base) k = true → k / 32 ∈ s.chs) ∧
  (∀ id, base < id → id < gen → ¬ Rd s.st s.sett s.fs s.np id) ∧ (∀ id, lmk s.vers / 32 < id → id < s.nxt → ¬ Rd s.st s.cont s.fs s.np id) ∧
  ∀ id, gen ≤ id → id < s.nxt → ∀ k, rcb s.st (mkk s.np id) k = true → k / 32 ∈ s.chs
def Ivt (s : Ab) (base gen : Nat) : Prop := SW s.st s.fs s.np s.nxt ∧ 1 ≤ s.nxt ∧ I2 s ∧ I3 s ∧ I4 s ∧ I5 s ∧ I6 s ∧ I7 s base gen
/-! what the other side's calls leave -/
def okM (w : Wl) : Bool := w.1.all (fun x => decide (x.1 < 8) || decide (x.1 = 9)) && w.2.all fun x => (decide (66 ≤ x) && decide (x < 75)) || decide (102 < x)
theorem okM_n {w : Wl} (h : okM w = true) {κ : Nat} (hκ : κ = 8 ∨ (75 ≤ κ ∧ κ ≤ 102)) : nW w κ = true := by
  unfold okM at h
  rw [Bool.and_eq_true, List.all_eq_true, List.all_eq_true] at h
  unfold nW
  rw [Bool.and_eq_true, List.all_eq_true, List.all_eq_true]
  refine ⟨fun x hx => ?_, fun x hx => ?_⟩
  · have := h.1 x hx
    simp only [Bool.or_eq_true, decide_eq_true_eq, Bool.not_eq_true', decide_eq_false_iff_not] at this ⊢
    omega
  · have := h.2 x hx
    simp only [Bool.or_eq_true, Bool.and_eq_true, decide_eq_true_eq, Bool.not_eq_true', decide_eq_false_iff_not] at this ⊢
    omega
theorem nW_nF {w : Wl} {κ : Nat} (h : nW w κ = true) (k : Nat) : nF w κ k = true := by
  unfold nW at h
  unfold nF
  rw [Bool.and_eq_true, List.all_eq_true, List.all_eq_true] at h ⊢
  refine ⟨fun x hx => ?_, h.2⟩
  have := h.1 x hx
  simp only [Bool.not_eq_true', decide_eq_false_iff_not] at this ⊢
  intro z
  exact this (by rw [z])
theorem mk_rg {j : Nat} (h : 66 ≤ mk j) : 75 ≤ mk j ∧ mk j ≤ 102 := by
  have : ∀ i, i < 34 → 66 ≤ mk i → 75 ≤ mk i ∧ mk i ≤ 102 := by decide
  exact this j (mk_lt h) h
theorem Sm.m {h h' : Hp} {y : Nat} {A : Nat → Nat} {J T : List Nat} {w : Wl} (M : MOK h y A) (K : Keep w h h') (q : okM w = true) (hJ : ∀ j ∈ J, 66 ≤ mk j) : Sm h h' y A J T := Sm.k M K (fun j hj => ⟨hJ j hj, okM_n q (Or.inr (mk_rg (hJ j hj)))⟩) (fun t _ => nW_nF (okM_n q (Or.inl rfl)) t)
theorem RM.k {h h' : Hp} {y : Nat} {A pid pat : Nat → Nat} {s : Ab} {w : Wl} (R : RM h y A pid pat s) (K : Keep w h h') (q : okM w = true) : RM h' y A pid pat s := by
  obtain ⟨M, ⟨n1, n2, n3⟩, F, C, ⟨V, v1, v2, v3⟩, P, r⟩ := R
  have s0 : Sm h h' y A [] [31, 32, 26] := Sm.m M K q (by decide)
  refine ⟨M.keep K (fun j _ => nF_i (nW_nF (okM_n q (Or.inl rfl)) j)), ⟨n1.exS (y := y) (Sm.m M K q (by decide)), n2.exS (y := y) (Sm.m M K q (by decide)), n3.exS (y := y) (Sm.m M K q (by decide))⟩, F.ext (Sm.m M K q (by decide)), C.ext (Sm.m M K q (by decide)), ⟨V.exS (Sm.m M K q (by decide)), ?_, ?_, ?_⟩, P.ext (y := y) (Sm.m M K q (by decide)), r⟩
  · rw [s0.2 31 (by decide)]; exact v1
  · rw [s0.2 32 (by decide)]; exact v2
  · rw [s0.2 26 (by decide)]; exact v3
def okC (w : Wl) : Bool := w.1.all (fun x => decide (x.1 = 8)) && w.2.all fun x => decide (75 ≤ x) && decide (x ≤ 102)
theorem okC_n {w : Wl} (h : okC w = true) {κ : Nat} (hκ : κ ≠ 8 ∧ (κ < 75 ∨ 102 < κ)) : nW w κ = true := by
  unfold okC at h
  rw [Bool.and_eq_true, List.all_eq_true, List.all_eq_true] at h
  unfold nW
  rw [Bool.and_eq_true, List.all_eq_true, List.all_eq_true]
  refine ⟨fun x hx => ?_, fun x hx => ?_⟩
  · have := h.1 x hx
    simp only [decide_eq_true_eq, Bool.not_eq_true', decide_eq_false_iff_not] at this ⊢
    omega
  · have := h.2 x hx
    simp only [Bool.and_eq_true, decide_eq_true_eq, Bool.not_eq_true', decide_eq_false_iff_not] at this ⊢
    omega
theorem PN.k {w : Wl} {h h' : Hp} {p a0 a1 : Nat} {now : Nat → Option Int32} (N : PN h p a0 a1 now) (K : Keep w h h') (q : (nF w 5 0 && (nF w 5 1 && (nW w 66 && nW w 67))) = true) : PN h' p a0 a1 now := by
  simp only [Bool.and_eq_true] at q
  obtain ⟨⟨n1, n2, n3, n4, n5, n6, n7, n8, n9, n10⟩, n11⟩ := N
  have t := K.2.2.1
  have l := K.1
  refine ⟨⟨by rw [(t _ n2).1]; exact n1, by omega, by rw [(K.I n2 n1 q.1).2]; exact n3, by rw [(t _ n6).1]; exact n4, by rw [(t _ n6).2]; exact n5, by omega, by rw [(K.I n2 n1 q.2.1).2]; exact n7, by rw [(t _ n10).1]; exact n8, by rw [(t _ n10).2]; exact n9, by omega⟩, fun m k hm hk => ?_⟩
  rw [(K.J n10 n8 q.2.2.2 m).1, (K.J n6 n4 q.2.2.1 _).1]
  exact n11 m k hm hk
theorem PT.k {w : Wl} {h h' : Hp} {p : Nat} {tl tm : Nat → Bool} (T : PT h p tl tm) (K : Keep w h h') (hp : p < hpN h) (hp5 : hpT h p = 5) (q : (nF w 5 2 && nF w 5 3) = true) : PT h' p tl tm := by
  simp only [Bool.and_eq_true] at q
  intro i hi
  rw [(K.I hp hp5 q.1).1, (K.I hp hp5 q.2).1]
  exact T i hi
theorem RX.k {e0 : Nat} {h h' : Hp} {x : Nat} {B : Nat → Nat} {va : List Nat} {ca ka pa : Nat → Nat} {rd : Nat} {s : Ab} {w : Wl} (R : RX e0 h x B va ca ka pa rd s) (K : Keep w h h') (q : okC w = true) : RX e0 h' x B va ca ka pa rd s := by
  obtain ⟨r1, X, ⟨N, T⟩, F, L, ⟨V, la⟩, ⟨h5, h6⟩, G, Q, n1, n2⟩ := R
  have g : ∀ κ, (κ ≠ 8 ∧ (κ < 75 ∨ 102 < κ)) → nW w κ = true := fun κ hκ => okC_n q hκ
  have sv : Sv h h' := ⟨K.1, fun a ha => ⟨(K.2.2.1 a ha).1, (K.2.2.1 a ha).2, fun k hk => K.J ha rfl (g _ (by omega)) k⟩⟩
  have sx : Sx h h' := ⟨K.1, fun a ha => ⟨(K.2.2.1 a ha).1, (K.2.2.1 a ha).2, fun k hk => K.J ha rfl (g _ (by omega)) k⟩⟩
  have f := fun κ hκ k => nW_nF (g κ hκ) k
  have x0 := fun k => K.J X.2.1 X.1 (g 0 (by decide)) k
  refine ⟨Nat.lt_of_lt_of_le r1 K.1, X.k K ?_, ⟨N.k K ?_, T.k K N.1.2.1 N.1.1 ?_⟩, F.k K ?_, L.ext r1 sv, ⟨V.ext r1 sv, ?_⟩, ⟨?_, ?_⟩, G.ext sx, Q.k X G K ?_, n1, n2⟩
  · rw [f 0 (by decide), f 0 (by decide), f 0 (by decide), f 0 (by decide)]; rfl
  · rw [f 5 (by decide), f 5 (by decide), g 66 (by decide), g 67 (by decide)]; rfl
  · rw [f 5 (by decide), f 5 (by decide)]; rfl
  · rw [g 1 (by decide), g 68 (by decide), g 69 (by decide), g 70 (by decide), g 71 (by decide), g 72 (by decide)]; rfl
  · rw [(x0 4).2]; exact la
  · rw [(x0 5).1]; exact h5
  · rw [(x0 6).1]; exact h6
  · rw [f 0 (by decide), f 3 (by decide), f 4 (by decide), f 6 (by decide)]; rfl
theorem RX.keepPT {e0 : Nat} {h : Hp} {x : Nat} {B : Nat → Nat} {va : List Nat} {ca ka pa : Nat → Nat} {rd : Nat} {s : Ab} (R : RX e0 h x B va ca ka pa rd s) : hpT h (B 0) = 5 ∧ B 0 < hpN h := ⟨R.2.2.1.1.1.1, R.2.2.1.1.1.2.1⟩
/-! puts and removes -/
def sPut (s : Ab) (m k : Nat) (v : Option Int32) : Ab := (va_up s.now (32 * m + k) v, va_up s.tl (4 * m + k / 8) true, s.2.2)

/-! versions: pin, unpin, hold, and what is dropped -/
def XL0 (h : Hp) (x : Nat) (pa np : Nat → Nat) (nxt rd : Nat) : Prop := rd < 2 ^ 20 ∧ hpI h x 7 = nI rd ∧ ∃ mr, XM h pa np nxt mr ∧ ∀ k, vk np nxt k → mr k ≤ rd
/-- the class holds the state, but the marks may be old -/
def RX0 (e0 : Nat) (h : Hp) (x : Nat) (B : Nat → Nat) (va : List Nat) (ca ka pa : Nat → Nat) (rd : Nat) (s : Ab) : Prop := e0 < hpN h ∧ XO h x (B 0) (B 1) (B 2) (B 3) ∧ (PN h (B 0) (B 6) (B 7) s.now ∧ PT h (B 0) s.tl s.tm) ∧ FR h (B 1) (B 8) (B 9) (B 10) (B 11) (B 12) (fun b => ck ca (s.cont b).1) (fun b => ck ca (s.sett b).1) s.free (fun b => decide (b ∈ s.pend)) s.pend ∧ AL e0 h (B 2) (B 4) (s.chs.map ca) ∧
  (XV e0 h (B 3) (B 5) va s.vers (ck pa) ∧ (∀ (i a : Nat) (t : Vt), va[i]? = some a → s.vers[i]? = some t → (some a = hpR h x 4 ↔ t.1 = s.lat))) ∧ (hpI h x 5 = nI s.hold ∧ hpI h x 6 = nI s.nxt) ∧ XG h ca ka pa s.st s.fs s.np s.nxt ∧ XL0 h x pa s.np s.nxt rd ∧ B 2 ≠ B 3 ∧ B 4 ≠ B 5
theorem RX.w {e0 : Nat} {h : Hp} {x : Nat} {B : Nat → Nat} {va : List Nat} {ca ka pa : Nat → Nat} {rd : Nat} {s : Ab} (R : RX e0 h x B va ca ka pa rd s) : RX0 e0 h x B va ca ka pa rd s := by
  obtain ⟨r1, X, NT, F, L, V, h56, G, ⟨l1, l2, mr, l3, l4⟩, n⟩ := R
  exact ⟨r1, X, NT, F, L, V, h56, G, ⟨l1, l2, mr, l3, fun k hk => (l4 k hk).1⟩, n⟩
theorem va_pair {e0 vs ev : Nat} {h h' : Hp} {va va' : List Nat} {vers vers' : List Vt} {pk : Nat → Option Nat} (V : XV e0 h vs ev va vers pk) (V' : XV e0 h' vs ev va' vers' pk) (hs : ∀ a ∈ va', a ∈ va) (b1 : ∀ t ∈ vers, t.1 < 2 ^ 20) (b2 : ∀ t ∈ vers', t.1 < 2 ^ 20) (hk : ∀ a, hpT h a = 7 → a < hpN h → hpI h' a 0 = hpI h a 0) {i a : Nat} {t : Vt} (ha : va'[i]? = some a) (ht : vers'[i]? = some t) : ∃ (i' : Nat) (t' : Vt), va[i']? = some a ∧ vers[i']? = some t' ∧ t'.1 = t.1 := by
  obtain ⟨i', hi'⟩ := List.getElem?_of_mem (hs a (List.mem_of_getElem? ha))
  have il : i' < vers.length := by
    rw [← V.2.1]
    exact (List.getElem?_eq_some_iff.mp hi').1
  obtain ⟨t', ht'⟩ : ∃ t', vers[i']? = some t' := ⟨_, List.getElem?_eq_getElem il⟩
  obtain ⟨o1, o2, o3, -⟩ := V.2.2 i' a t' hi' ht'
  obtain ⟨-, -, p3, -⟩ := V'.2.2 i a t ha ht
  rw [hk a o1 o2, o3] at p3
  have q1 := b1 t' (List.mem_of_getElem? ht')
  have q2 := b2 t (List.mem_of_getElem? ht)
  exact ⟨i', t', hi', ht', (nI_eq (by omega) (by omega)).mp p3⟩
theorem x_drop {e0 : Nat} {h : Hp} {x : Nat} {B : Nat → Nat} {va : List Nat} {ca ka pa : Nat → Nat} {rd : Nat} {s : Ab} (R : RX0 e0 h x B va ca ka pa rd s) (S : SW s.st s.fs s.np s.nxt) (i5 : I5 s) (hr : rd + 1 < 2 ^ 20) :
    ∃ h' va', f_X_dropUnkept x h = some h' ∧ RX e0 h' x B va' ca ka pa (rd + 1) (sVers s (dVers s)) ∧ (∀ a, hpT h a = 7 → a < hpN h → hpI h' a = hpI h a) ∧ hpN h' = hpN h ∧ hpS h' = hpS h := by
  obtain ⟨r1, X, ⟨N, T⟩, F, L, ⟨V, la⟩, ⟨h5, h6⟩, G, ⟨l1, l2, mr, l3, l4⟩, n1, n2⟩ := R
  obtain ⟨h1, va', e1, V1, sub, O1, m1, s1⟩ := x_dropL X V i5.1 h5 i5.2.2.2.1 la
  have K1 := kl_X_dropUnkept_12 (C := cT) (mi := 0) e1
  have X1 := X.k K1 (by decide)
  have G1 := G.ext (Sx.k K1 (by decide))
  have bk : hpT h (B 3) = 9 ∧ (hpT h (B 5) = 64 ∨ hpT h (B 5) = 73 ∨ hpT h (B 5) = 74) := ⟨V.1.1, V.1.ek⟩
  have sb : ∀ t ∈ dVers s, t ∈ s.vers := fun t ht => dVers_sub.subset ht
  have Q1 : XM h1 pa s.np s.nxt mr := fun k hk => by
    have pk := (G.po hk)
    have kk := pk.kk
    rw [(O1.at2 pk.1 (ne_T (h := h) (by omega)) (ne_T (h := h) (by omega))).2.2.1]; exact l3 k hk
  have x7 : hpI h1 x 7 = nI rd := by
    rw [(O1.at2 X.2.1 (ne_T (h := h) (by rw [X.1]; omega)) (ne_T (h := h) (by rw [X.1]; omega))).2.2.1]; exact l2
  have r11 : e0 < hpN h1 := by rw [m1]; exact r1
  obtain ⟨h2, e2, S2, V2, Q2, x72, m2, s2⟩ := x_markLive X1 V1 r11 G1 S (fun t ht h0 => i5.2.2.2.2 t (sb t ht) h0) Q1 x7
  have ef : f_X_dropUnkept x h = some h2 := by
    have sz := al_size V.1
    unfold f_X_dropUnkept
    rw [gd_t (isK_of X.1), dr_s X.2.2.2.2.2, gd_t (isK_of V.1.1), cl_s sz, bd_s e1, gd_t (isK_of X1.1), cv_s e2]
  have K := fr_X_dropUnkept (C := cT) (mi := 0) ef
  have K2 := fr_X_markLivePages (C := cT) (mi := 0) e2
  have b4 := L.ek
  have ov : Ov [B 3, B 5] h h2 := (Ov.o O1).trans (Ov.s V2)
  have a7 : ∀ a, hpT h a = 7 → a < hpN h → hpI h2 a = hpI h a := fun a h7 hn => by
    have o := O1.at2 hn (ne_T (h := h) (by omega)) (ne_T (h := h) (by omega))
    funext k
    rw [(V2.2 a (by rw [m1]; exact hn)).2.2 k (Or.inl (by rw [o.1]; exact h7)) |>.1, o.2.2.1]
  refine ⟨h2, va', ef, ⟨by rw [m2, m1]; exact r1, X.k K (by decide), ⟨N.k K (by decide), T.k K N.1.2.1 N.1.1 (by decide)⟩, F.k K (by decide), L.exO r1 ov ?_ ?_, ⟨V1.ext r11 V2, fun i a t ha ht => ?_⟩, ⟨?_, ?_⟩, G.ext (Sx.k K (by decide)), ⟨by omega, x72, _, Q2, fun k hk => ?_⟩, n1, n2⟩, a7, m2.trans m1, s2.trans s1⟩
  · simp only [List.mem_cons, List.not_mem_nil, or_false]
    rintro (z | z)
    · exact n1 z
    · have := L.1
      rw [z] at this
      omega
  · simp only [List.mem_cons, List.not_mem_nil, or_false]
    rintro (z | z)
    · rw [z] at b4; omega
    · exact n2 z
  · have ht' : (dVers s)[i]? = some t := ht
    obtain ⟨i', t', q1, q2, q3⟩ := va_pair V V1 sub (fun t ht => (i5.to.2.1 t ht).1) (fun t ht => (i5.to.2.1 t (sb t ht)).1) (fun a z1 z2 => by rw [(O1.at2 z2 (ne_T (h := h) (by omega)) (ne_T (h := h) (by omega))).2.2.1]) ha ht'
    rw [(K.I X.2.1 X.1 (by decide)).2, ← q3]
    exact la i' a t' q1 q2
  · rw [(K.I X.2.1 X.1 (by decide)).1]; exact h5
  · rw [(K.I X.2.1 X.1 (by decide)).1]; exact h6
  · have := l4 k hk
    show (bif lvb s.st (dVers s) k then rd + 1 else mr k) ≤ rd + 1 ∧ ((bif lvb s.st (dVers s) k then rd + 1 else mr k) = rd + 1 ↔ lvb s.st (dVers s) k = true)
    cases lvb s.st (dVers s) k with
    | true => exact ⟨Nat.le_refl _, ⟨fun _ => rfl, fun _ => rfl⟩⟩
    | false => exact ⟨by show mr k ≤ _; omega, ⟨fun z => by have : mr k = rd + 1 := z; omega, fun z => by cases z⟩⟩
abbrev okU (w : Wl) : Prop := (∀ j ∈ ([0, 1, 2, 3, 4, 5, 6, 7, 8, 9, 10, 11, 13, 14, 15, 16, 17, 18, 20, 21, 22, 23, 24] : List Nat), 66 ≤ mk j ∧ nW w (mk j) = true) ∧ (∀ t ∈ ([19, 25, 26] : List Nat), nF w 8 t = true) ∧ (List.range 34).all (fun j => decide (mk j < 66) || nF w 8 j) = true
def sVL (s : Ab) (vers : List Vt) (lat hold : Nat) : Ab := (s.now, s.tl, s.tm, s.cont, s.sett, s.free, s.pend, s.chs, vers, lat, hold, s.nxt, s.st, s.fs, s.np)
theorem RM.versU {h h' : Hp} {y : Nat} {A pid pat : Nat → Nat} {s : Ab} {w : Wl} {vers : List Vt} {lat hold : Nat} (R : RM h y A pid pat s) (K : Keep w h h') (q : okU w) (V' : MV h' y A vers) (e1 : hpI h' y 31 = nI lat) (e2 : hpI h' y 32 = nI hold) : RM h' y A pid pat (sVL s vers lat hold) := by
  obtain ⟨M, ⟨n1, n2, n3⟩, F, C, ⟨V, v1, v2, v3⟩, P, r⟩ := R
  obtain ⟨q1, q2, q3⟩ := q
  have sm : Sm h h' y A [0, 1, 2, 3, 4, 5, 6, 7, 8, 9, 10, 11, 13, 14, 15, 16, 17, 18, 20, 21, 22, 23, 24] [19, 25, 26] := Sm.k M K q1 q2
  have su : ∀ (J T : List Nat), (∀ j ∈ J, j ∈ ([0, 1, 2, 3, 4, 5, 6, 7, 8, 9, 10, 11, 13, 14, 15, 16, 17, 18, 20, 21, 22, 23, 24] : List Nat)) → (∀ t ∈ T, t ∈ ([19, 25, 26] : List Nat)) → Sm h h' y A J T := fun J T hJ hT => ⟨fun j hj => sm.1 j (hJ j hj), fun t ht => sm.2 t (hT t ht)⟩
  exact ⟨M.kw K q3, ⟨n1.exS (y := y) (su _ _ (by decide) (by decide)), n2.exS (y := y) (su _ _ (by decide) (by decide)), n3.exS (y := y) (su _ _ (by decide) (by decide))⟩, F.ext (su _ _ (by decide) (by decide)), C.ext (su _ _ (by decide) (by decide)), ⟨V', e1, e2, by rw [sm.2 26 (by decide)]; exact v3⟩, P.ext (y := y) (su _ _ (by decide) (by decide)), r⟩
theorem m_dropS {h : Hp} {y : Nat} {A pid pat : Nat → Nat} {s : Ab} (R : RM h y A pid pat s) (i5 : I5 s) : ∃ h', f_M_drop y h = some h' ∧ RM h' y A pid pat (sVers s (dVers s)) ∧ hpN h' = hpN h ∧ hpS h' = hpS h := by
  obtain ⟨V, v1, v2, v3⟩ := R.2.2.2.2.1
  have hl : s.lat < 2 ^ 20 := by
    obtain ⟨t, ht, te⟩ := i5.2.2.1
    rw [← te]; exact (i5.to.2.1 t (last_mem ht)).1
  obtain ⟨h', e, M', V', yk, -, n, sz⟩ := m_drop R.1 V i5.1 v1 hl v2 i5.2.2.2.1
  exact ⟨h', e, R.versU (fr_M_drop (C := cT) (mi := 0) e) (by decide) V' (by rw [yk 31 (by decide)]; exact v1) (by rw [yk 32 (by decide)]; exact v2), n, sz⟩
/-! pins -/
theorem lvb_map {st : Nat → Pg} {l l' : List Vt} {k : Nat} (h : l'.map (fun t => (t.1, t.2.2)) = l.map fun t => (t.1, t.2.2)) : lvb st l' k = lvb st l k := by
  have one : ∀ l l' : List Vt, l'.map (fun t => (t.1, t.2.2)) = l.map (fun t => (t.1, t.2.2)) → lvb st l' k = true → lvb st l k = true := fun l l' h q => by
    obtain ⟨t, t1, t2, t3⟩ := lvb_t.mp q
    have : (t.1, t.2.2) ∈ l'.map fun t => (t.1, t.2.2) := List.mem_map.mpr ⟨t, t1, rfl⟩
    rw [h] at this
    obtain ⟨u, u1, u2⟩ := List.mem_map.mp this
    have e := (Prod.mk.inj u2).2
    exact lvb_t.mpr ⟨u, u1, by rw [e]; exact t2, by rw [e]; exact t3⟩
  rw [Bool.eq_iff_iff]
  exact ⟨one l l' h, one l' l h.symm⟩
theorem pinV_at {l : List Vt} {i n : Nat} {t : Vt} (h : l[i]? = some t) {j : Nat} {u : Vt} (hj : (pinV l i n)[j]? = some u) : (j = i ∧ u = (t.1, n, t.2.2)) ∨ (j ≠ i ∧ l[j]? = some u) := by
  unfold pinV at hj
  rw [h] at hj
  dsimp only at hj
  rw [List.getElem?_set] at hj
  by_cases c : i = j
  · subst c
    rw [if_pos rfl, if_pos (List.getElem?_eq_some_iff.mp h).1] at hj
    exact Or.inl ⟨rfl, (Option.some.inj hj).symm⟩
  · rw [if_neg c] at hj
    exact Or.inr ⟨fun z => c z.symm, hj⟩
theorem pinV_len (l : List Vt) (i n : Nat) : (pinV l i n).length = l.length := by
  unfold pinV
  cases l[i]? with
  | none => rfl
  | some t => exact List.length_set
theorem x_setPin {e0 : Nat} {h : Hp} {x : Nat} {B : Nat → Nat} {va : List Nat} {ca ka pa : Nat → Nat} {rd : Nat} {s : Ab} {i a n : Nat} {t : Vt} (R : RX e0 h x B va ca ka pa rd s) (i5 : I5 s) (ha : va[i]? = some a) (ht : s.vers[i]? = some t) : RX e0 (wI h a 2 (nI n)) x B va ca ka pa rd (sVers s (pinV s.vers i n)) := by
  obtain ⟨r1, X, ⟨N, T⟩, F, L, ⟨V, la⟩, ⟨h5, h6⟩, G, ⟨l1, l2, mr, l3, l4⟩, n1, n2⟩ := R
  obtain ⟨o1, o2, o3, o4, o5⟩ := V.2.2 i a t ha ht
  have K : Keep W_X_pin h (wI h a 2 (nI n)) := kw_I rfl o1 (Or.inl (by decide))
  have aj : ∀ j u, va[j]? = some a → s.vers[j]? = some u → j = i := fun j u hj hu => by
    obtain ⟨p1, p2, p3, -⟩ := V.2.2 j a u hj hu
    rw [o3] at p3
    have q1 := (i5.to.2.1 t (List.mem_of_getElem? ht)).1
    have q2 := (i5.to.2.1 u (List.mem_of_getElem? hu)).1
    have e := (nI_eq (by omega) (by omega)).mp p3
    rcases Nat.lt_trichotomy j i with z | z | z
    · have := i5.1.1 j i u t hu ht z
      omega
    · exact z
    · have := i5.1.1 i j t u ht hu z
      omega
  refine ⟨r1, X.k K (by decide), ⟨N.k K (by decide), T.k K N.1.2.1 N.1.1 (by decide)⟩, F.k K (by decide), ?_, ⟨⟨?_, ?_, fun j b u hj hu => ?_⟩, fun j b u hj hu => ?_⟩, ⟨?_, ?_⟩, G.ext (Sx.k K (by decide)), ⟨l1, ?_, mr, l3.k G K (by decide), fun k hk => ?_⟩, n1, n2⟩
  · refine L.keep (Nat.le_refl _) (fun _ _ => ⟨rfl, rfl⟩) ?_ rfl (fun _ _ _ => rfl) (fun q => ⟨q, rfl⟩)
    exact I_wIn (ne_T (h := h) (by rw [L.1, o1]; decide))
  · refine V.1.keep (Nat.le_refl _) (fun _ _ => ⟨rfl, rfl⟩) ?_ rfl (fun _ _ _ => rfl) (fun q => ⟨q, rfl⟩)
    exact I_wIn (ne_T (h := h) (by rw [V.1.1, o1]; decide))
  · show va.length = (pinV s.vers i n).length
    rw [pinV_len]; exact V.2.1
  · have hu' : (pinV s.vers i n)[j]? = some u := hu
    rcases pinV_at ht hu' with ⟨z1, z2⟩ | ⟨z1, z2⟩
    · subst z1
      rw [ha] at hj
      cases hj
      rw [z2]
      refine ⟨o1, o2, ?_, o4, I_same⟩
      rw [I_wIk (by decide)]; exact o3
    · obtain ⟨p1, p2, p3, p4, p5⟩ := V.2.2 j b u hj z2
      have ne : b ≠ a := fun z => z1 (aj j u (by rw [← z]; exact hj) z2)
      exact ⟨p1, p2, by rw [I_wIn ne]; exact p3, p4, by rw [I_wIn ne]; exact p5⟩
  · have hu' : (pinV s.vers i n)[j]? = some u := hu
    show some b = hpR h x 4 ↔ u.1 = s.lat
    rcases pinV_at ht hu' with ⟨z1, z2⟩ | ⟨z1, z2⟩
    · subst z1
      rw [ha] at hj
      cases hj
      rw [z2]
      exact la j a t ha ht
    · exact la j b u hj z2
  · show hpI (wI h a 2 (nI n)) x 5 = _
    rw [I_wIk (by decide)]; exact h5
  · show hpI (wI h a 2 (nI n)) x 6 = _
    rw [I_wIk (by decide)]; exact h6
  · rw [I_wIk (by decide)]; exact l2
  · show _ ∧ (mr k = rd ↔ lvb s.st (pinV s.vers i n) k = true)
    rw [lvb_map (pinV_m s.vers i n)]; exact l4 k hk
theorem m_setPin {h : Hp} {y : Nat} {A pid pat : Nat → Nat} {s : Ab} {i n : Nat} {t : Vt} (R : RM h y A pid pat s) (ht : s.vers[i]? = some t) : RM (wI h (A 28) i (nI n)) y A pid pat (sVers s (pinV s.vers i n)) := by
  obtain ⟨V, v1, v2, v3⟩ := R.2.2.2.2.1
  have M := R.1
  have K : Keep W_M_pin h (wI h (A 28) i (nI n)) := kw_I rfl M.a28.2.1 (Or.inr (by decide))
  refine R.versU K (by decide) ⟨?_, ?_, fun j u hu => ?_⟩ ?_ ?_
  · rw [my_I M (by decide), pinV_len]; exact V.1
  · rw [pinV_len]; exact V.2.1
  · rw [mo_I M (i := 28) (j := 27) (by decide) (by decide) (by decide), mo_I M (i := 28) (j := 29) (by decide) (by decide) (by decide)]
    rcases pinV_at ht hu with ⟨z1, z2⟩ | ⟨z1, z2⟩
    · subst z1
      rw [z2, I_same]
      exact ⟨(V.2.2 j t ht).1, rfl, (V.2.2 j t ht).2.2⟩
    · rw [I_wIk z1]
      exact V.2.2 j u z2
  · rw [my_I M (by decide)]; exact v1
  · rw [my_I M (by decide)]; exact v2
theorem find_both {E : Nat × Nat} {h : Hp} {x y : Nat} {A pid pat : Nat → Nat} {B : Nat → Nat} {va : List Nat} {ca ka pa : Nat → Nat} {rd : Nat} {s : Ab} (R : RX E.1 h x B va ca ka pa rd s) (Q : RM h y A pid pat s) (v : Int32) : (f_X_findVersion x v h = some (none, h) ∧ f_M_find y v h = some (-1, h)) ∨ ∃ i a t, va[i]? = some a ∧ s.vers[i]? = some t ∧ nI t.1 = v ∧ i < 48 ∧ f_X_findVersion x v h = some (some a, h) ∧ f_M_find y v h = some (nI i, h) := by
  obtain ⟨o, f1, e1⟩ := x_find (v := v) R.2.1 R.2.2.2.2.2.1.1
  obtain ⟨o', f2, e2⟩ := m_find (v := v) Q.1 Q.2.2.2.2.1.1
  have eo := f1.uniq f2
  subst eo
  cases o with
  | none => exact Or.inl ⟨e1, e2⟩
  | some i =>
    obtain ⟨t, ht, tv⟩ := f1.at
    have il : i < s.vers.length := (List.getElem?_eq_some_iff.mp ht).1
    obtain ⟨V, -⟩ := R.2.2.2.2.2.1
    obtain ⟨ad, ha⟩ : ∃ ad, va[i]? = some ad := ⟨_, List.getElem?_eq_getElem (by rw [V.2.1]; exact il)⟩
    refine Or.inr ⟨i, ad, t, ha, ht, tv, by have := Q.2.2.2.2.1.1.2.1; omega, ?_, e2⟩
    rw [e1]
    show some (va[i]?, h) = _
    rw [ha]
theorem c_pin {E : Nat × Nat} {h : Hp} {x y : Nat} {A : Nat → Nat} {j : Nat} (K : Ok E h x y A j) (v : Int32) : ∃ r h1 h2, f_X_pin x v h = some (r, h1) ∧ f_M_pin y v h1 = some (r, h2) ∧ Ok E h2 x y A (j + 1) ∧ Rm h h2 := by
  have K0 := K
  obtain ⟨B, va, ca, ka, pa, rd, pid, pat, s, base, gen, R, Q, I, i1, i2, i3⟩ := K
  have x1 := R.2.1.1
  rcases find_both R Q v with ⟨e1, e2⟩ | ⟨i, a, t, ha, ht, tv, il, e1, e2⟩
  · refine ⟨-3, h, h, ?_, ?_, K0.mono, Rm.refl h⟩
    · unfold f_X_pin
      rw [gd_t (isK_of x1), cl_s e1, if_pos rfl]
    · unfold f_M_pin
      rw [gd_t (isK_of Q.1.1), cl_s e2, if_neg (by decide)]
  · obtain ⟨o1, o2, o3, o4, o5⟩ := R.2.2.2.2.2.1.1.2.2 i a t ha ht
    have i5 := I.2.2.2.2.2.1
    have p9 := (i5.to.2.1 t (List.mem_of_getElem? ht)).2.1
    have m28 := (Q.2.2.2.2.1.1.2.2 i t ht).2.1
    by_cases c : t.2.1 < 9
    · have R1 := x_setPin (n := t.2.1 + 1) R i5 ha ht
      have e1' : f_X_pin x v h = some (nI (t.2.1 + 1), wI h a 2 (nI (t.2.1 + 1))) := by
        unfold f_X_pin
        rw [gd_t (isK_of x1), cl_s e1, if_neg (by intro z; cases z)]
        simp (disch := omega) only [gd_T, dr_S, nm_v, cl_S, cv_S, bd_S, lk_L, lk_R, zbw_b, isK_e, isPg_3, isPg_4, isPg_6, asV_n, beq_self_eq_true, inb_N, inb_0, le_T, le_F, lt_T, lt_F, eq_F, le_0T, lt_0F, le_0F, eq_0F, nI_1, nI_add, pk_mul, nI_clamp, cl_0, if_true, if_false, of_nI, T_wI, L_wI, R_wI, N_wI, S_wI, T_wR, L_wR, I_wR, N_wR, S_wR, I_same, R_same, I_wIn, I_wIk, R_wRn, R_wRk, T_nwo, T_nwn, L_nwo, L_nwn, I_nwo, I_nwn, R_nwo, R_nwn, N_nw, S_nw, nar_1, nar_0, nar_01, b01_t0, b01_f0, b01_t1, b01_f1, ne_sn, eq_sn, sn_inj, o1, o5]
      have K1 := fr_X_pin (C := cT) (mi := 0) e1'
      have Q1 := Q.k K1 (by decide)
      have Q2 := m_setPin (n := t.2.1 + 1) Q1 ht
      have m28' : hpI (wI h a 2 (nI (t.2.1 + 1))) (A 28) i = nI t.2.1 := (Q1.2.2.2.2.1.1.2.2 i t ht).2.1
      have ef : f_M_find y v (wI h a 2 (nI (t.2.1 + 1))) = some (nI i, wI h a 2 (nI (t.2.1 + 1))) := by
        obtain ⟨o, f2, e⟩ := m_find (v := v) Q1.1 Q1.2.2.2.2.1.1
        obtain ⟨o', f2', e'⟩ := m_find (v := v) Q.1 Q.2.2.2.2.1.1
        have := f2.uniq f2'
        subst this
        have q := (Prod.mk.inj (Option.some.inj (e2.symm.trans e'))).1
        rw [e, ← q]
      have e2' : f_M_pin y v (wI h a 2 (nI (t.2.1 + 1))) = some (nI (t.2.1 + 1), wI (wI h a 2 (nI (t.2.1 + 1))) (A 28) i (nI (t.2.1 + 1))) := by
        unfold f_M_pin
        rw [gd_t (isK_of Q1.1.1), cl_s ef]
        simp (disch := omega) only [gd_T, dr_S, nm_v, cl_S, cv_S, bd_S, lk_L, lk_R, zbw_b, isK_e, isPg_3, isPg_4, isPg_6, asV_n, beq_self_eq_true, inb_N, inb_0, le_T, le_F, lt_T, lt_F, eq_F, le_0T, lt_0F, le_0F, eq_0F, nI_1, nI_add, pk_mul, nI_clamp, cl_0, if_true, if_false, of_nI, T_wI, L_wI, R_wI, N_wI, S_wI, T_wR, L_wR, I_wR, N_wR, S_wR, I_same, R_same, I_wIn, I_wIk, R_wRn, R_wRk, T_nwo, T_nwn, L_nwo, L_nwn, I_nwo, I_nwn, R_nwo, R_nwn, N_nw, S_nw, nar_1, nar_0, nar_01, b01_t0, b01_f0, b01_t1, b01_f1, ne_sn, eq_sn, sn_inj, Q.1.1, Q1.1.1, Q1.1.a28.1, Q1.1.a28.2.1, Q1.1.a28.2.2.1, Q.1.a28.1, Q.1.a28.2.1, Q.1.a28.2.2.1, m28']
      have K2 := fr_M_pin (C := cT) (mi := 0) e2'
      exact ⟨_, _, _, e1', e2', ⟨B, va, ca, ka, pa, rd, pid, pat, _, base, gen, R1.k K2 (by decide), Q2, I.pin i (t.2.1 + 1) (by omega), by omega, by show s.nxt ≤ _; omega, i3.up⟩, Rm.refl h⟩
    · refine ⟨-2, h, h, ?_, ?_, K0.mono, Rm.refl h⟩
      · unfold f_X_pin
        rw [gd_t (isK_of x1), cl_s e1, if_neg (by intro z; cases z)]
        simp (disch := omega) only [gd_T, dr_S, nm_v, cl_S, cv_S, bd_S, lk_L, lk_R, zbw_b, isK_e, isPg_3, isPg_4, isPg_6, asV_n, beq_self_eq_true, inb_N, inb_0, le_T, le_F, lt_T, lt_F, eq_F, le_0T, lt_0F, le_0F, eq_0F, nI_1, nI_add, pk_mul, nI_clamp, cl_0, if_true, if_false, of_nI, T_wI, L_wI, R_wI, N_wI, S_wI, T_wR, L_wR, I_wR, N_wR, S_wR, I_same, R_same, I_wIn, I_wIk, R_wRn, R_wRk, T_nwo, T_nwn, L_nwo, L_nwn, I_nwo, I_nwn, R_nwo, R_nwn, N_nw, S_nw, nar_1, nar_0, nar_01, b01_t0, b01_f0, b01_t1, b01_f1, ne_sn, eq_sn, sn_inj, o1, o5]
      · unfold f_M_pin
        rw [gd_t (isK_of Q.1.1), cl_s e2]
        rw [show t.2.1 = 9 by omega] at m28
        simp (disch := omega) only [gd_T, dr_S, nm_v, cl_S, cv_S, bd_S, lk_L, lk_R, zbw_b, isK_e, isPg_3, isPg_4, isPg_6, asV_n, beq_self_eq_true, inb_N, inb_0, le_T, le_F, lt_T, lt_F, eq_F, le_0T, lt_0F, le_0F, eq_0F, nI_1, nI_add, pk_mul, nI_clamp, cl_0, if_true, if_false, of_nI, T_wI, L_wI, R_wI, N_wI, S_wI, T_wR, L_wR, I_wR, N_wR, S_wR, I_same, R_same, I_wIn, I_wIk, R_wRn, R_wRk, T_nwo, T_nwn, L_nwo, L_nwn, I_nwo, I_nwn, R_nwo, R_nwn, N_nw, S_nw, nar_1, nar_0, nar_01, b01_t0, b01_f0, b01_t1, b01_f1, ne_sn, eq_sn, sn_inj, Q.1.1, Q.1.a28.1, Q.1.a28.2.1, Q.1.a28.2.2.1, m28]
theorem c_unpin {E : Nat × Nat} {h : Hp} {x y : Nat} {A : Nat → Nat} {j : Nat} (K : Ok E h x y A j) (hj : j < 600) (v : Int32) : ∃ r h1 h2, f_X_unpin x v h = some (r, h1) ∧ f_M_unpin y v h1 = some (r, h2) ∧ Ok E h2 x y A (j + 1) ∧ Rm h h2 := by
  have K0 := K
  obtain ⟨B, va, ca, ka, pa, rd, pid, pat, s, base, gen, R, Q, I, i1, i2, i3⟩ := K
  have x1 := R.2.1.1
  rcases find_both R Q v with ⟨e1, e2⟩ | ⟨i, a, t, ha, ht, tv, il, e1, e2⟩
  · refine ⟨-3, h, h, ?_, ?_, K0.mono, Rm.refl h⟩
    · unfold f_X_unpin
      rw [gd_t (isK_of x1), cl_s e1, if_pos rfl]
    · unfold f_M_unpin
      rw [gd_t (isK_of Q.1.1), cl_s e2, if_pos (by decide)]
  · obtain ⟨o1, o2, o3, o4, o5⟩ := R.2.2.2.2.2.1.1.2.2 i a t ha ht
    have i5 := I.2.2.2.2.2.1
    have p9 := (i5.to.2.1 t (List.mem_of_getElem? ht)).2.1
    have m28 := (Q.2.2.2.2.1.1.2.2 i t ht).2.1
    by_cases c : t.2.1 = 0
    · refine ⟨-3, h, h, ?_, ?_, K0.mono, Rm.refl h⟩
      · unfold f_X_unpin
        rw [gd_t (isK_of x1), cl_s e1, if_neg (by intro z; cases z)]
        rw [c] at o5
        simp (disch := omega) only [gd_T, dr_S, nm_v, cl_S, cv_S, bd_S, lk_L, lk_R, zbw_b, isK_e, isPg_3, isPg_4, isPg_6, asV_n, beq_self_eq_true, inb_N, inb_0, le_T, le_F, lt_T, lt_F, eq_F, le_0T, lt_0F, le_0F, eq_0F, nI_1, nI_add, pk_mul, nI_clamp, cl_0, if_true, if_false, of_nI, T_wI, L_wI, R_wI, N_wI, S_wI, T_wR, L_wR, I_wR, N_wR, S_wR, I_same, R_same, I_wIn, I_wIk, R_wRn, R_wRk, T_nwo, T_nwn, L_nwo, L_nwn, I_nwo, I_nwn, R_nwo, R_nwn, N_nw, S_nw, nar_1, nar_0, nar_01, b01_t0, b01_f0, b01_t1, b01_f1, ne_sn, eq_sn, sn_inj, o1, o5, nz0]
      · unfold f_M_unpin
        rw [gd_t (isK_of Q.1.1), cl_s e2]
        rw [c] at m28
        simp (disch := omega) only [gd_T, dr_S, nm_v, cl_S, cv_S, bd_S, lk_L, lk_R, zbw_b, isK_e, isPg_3, isPg_4, isPg_6, asV_n, beq_self_eq_true, inb_N, inb_0, le_T, le_F, lt_T, lt_F, eq_F, le_0T, lt_0F, le_0F, eq_0F, nI_1, nI_add, pk_mul, nI_clamp, cl_0, if_true, if_false, of_nI, T_wI, L_wI, R_wI, N_wI, S_wI, T_wR, L_wR, I_wR, N_wR, S_wR, I_same, R_same, I_wIn, I_wIk, R_wRn, R_wRk, T_nwo, T_nwn, L_nwo, L_nwn, I_nwo, I_nwn, R_nwo, R_nwn, N_nw, S_nw, nar_1, nar_0, nar_01, b01_t0, b01_f0, b01_t1, b01_f1, ne_sn, eq_sn, sn_inj, Q.1.1, Q.1.a28.1, Q.1.a28.2.1, Q.1.a28.2.2.1, m28, nz0]
    · have R1 := x_setPin (n := t.2.1 - 1) R i5 ha ht
      have I1 := I.pin i (t.2.1 - 1) (by omega)
      obtain ⟨h1, va', d1, d2, d3, d4, d5⟩ := x_drop R1.w I1.1 I1.2.2.2.2.2.1 (by omega)
      have a2 : hpI h1 a 2 = nI (t.2.1 - 1) := by rw [d3 a o1 o2]; exact I_same
      have Tk : hpT h1 a = 7 := ((fr_X_dropUnkept (C := cT) (mi := 0) d1).2.2.1 a o2).1.trans o1
      have e1' : f_X_unpin x v h = some (nI (t.2.1 - 1), h1) := by
        unfold f_X_unpin
        rw [gd_t (isK_of x1), cl_s e1, if_neg (by intro z; cases z)]
        have sb : nI t.2.1 - (1 : Int32) = nI (t.2.1 - 1) := pk_sub (a := t.2.1) (b := 1) (by omega)
        simp (disch := omega) only [gd_T, dr_S, nm_v, cl_S, cv_S, bd_S, lk_L, lk_R, zbw_b, isK_e, isPg_3, isPg_4, isPg_6, asV_n, beq_self_eq_true, inb_N, inb_0, le_T, le_F, lt_T, lt_F, eq_F, le_0T, lt_0F, le_0F, eq_0F, nI_1, nI_add, pk_mul, nI_clamp, cl_0, if_true, if_false, of_nI, T_wI, L_wI, R_wI, N_wI, S_wI, T_wR, L_wR, I_wR, N_wR, S_wR, I_same, R_same, I_wIn, I_wIk, R_wRn, R_wRk, T_nwo, T_nwn, L_nwo, L_nwn, I_nwo, I_nwn, R_nwo, R_nwn, N_nw, S_nw, nar_1, nar_0, nar_01, b01_t0, b01_f0, b01_t1, b01_f1, ne_sn, eq_sn, sn_inj, o1, o5]
        rw [sb]
        simp (disch := omega) only [gd_T, dr_S, nm_v, cl_S, cv_S, bd_S, lk_L, lk_R, zbw_b, isK_e, isPg_3, isPg_4, isPg_6, asV_n, beq_self_eq_true, inb_N, inb_0, le_T, le_F, lt_T, lt_F, eq_F, le_0T, lt_0F, le_0F, eq_0F, nI_1, nI_add, pk_mul, nI_clamp, cl_0, if_true, if_false, of_nI, T_wI, L_wI, R_wI, N_wI, S_wI, T_wR, L_wR, I_wR, N_wR, S_wR, I_same, R_same, I_wIn, I_wIk, R_wRn, R_wRk, T_nwo, T_nwn, L_nwo, L_nwn, I_nwo, I_nwn, R_nwo, R_nwn, N_nw, S_nw, nar_1, nar_0, nar_01, b01_t0, b01_f0, b01_t1, b01_f1, ne_sn, eq_sn, sn_inj, x1, d1, Tk, a2]
      have K1 := fr_X_unpin (C := cT) (mi := 0) e1'
      have Q1 := Q.k K1 (by decide)
      have Q2 := m_setPin (n := t.2.1 - 1) Q1 ht
      have m28' : hpI h1 (A 28) i = nI t.2.1 := (Q1.2.2.2.2.1.1.2.2 i t ht).2.1
      have ef : f_M_find y v h1 = some (nI i, h1) := by
        obtain ⟨o, f2, e⟩ := m_find (v := v) Q1.1 Q1.2.2.2.2.1.1
        obtain ⟨o', f2', e'⟩ := m_find (v := v) Q.1 Q.2.2.2.2.1.1
        have := f2.uniq f2'
        subst this
        have q := (Prod.mk.inj (Option.some.inj (e2.symm.trans e'))).1
        rw [e, ← q]
      obtain ⟨h2, g1, g2, g3, g4⟩ := m_dropS Q2 I1.2.2.2.2.2.1
      have e2' : f_M_unpin y v h1 = some (nI (t.2.1 - 1), h2) := by
        unfold f_M_unpin
        rw [gd_t (isK_of Q1.1.1), cl_s ef]
        have sb : nI t.2.1 - (1 : Int32) = nI (t.2.1 - 1) := pk_sub (a := t.2.1) (b := 1) (by omega)
        simp (disch := omega) only [gd_T, dr_S, nm_v, cl_S, cv_S, bd_S, lk_L, lk_R, zbw_b, isK_e, isPg_3, isPg_4, isPg_6, asV_n, beq_self_eq_true, inb_N, inb_0, le_T, le_F, lt_T, lt_F, eq_F, le_0T, lt_0F, le_0F, eq_0F, nI_1, nI_add, pk_mul, nI_clamp, cl_0, if_true, if_false, of_nI, T_wI, L_wI, R_wI, N_wI, S_wI, T_wR, L_wR, I_wR, N_wR, S_wR, I_same, R_same, I_wIn, I_wIk, R_wRn, R_wRk, T_nwo, T_nwn, L_nwo, L_nwn, I_nwo, I_nwn, R_nwo, R_nwn, N_nw, S_nw, nar_1, nar_0, nar_01, b01_t0, b01_f0, b01_t1, b01_f1, ne_sn, eq_sn, sn_inj, Q1.1.1, Q1.1.a28.1, Q1.1.a28.2.1, Q1.1.a28.2.2.1, m28']
        rw [sb]
        simp (disch := omega) only [gd_T, dr_S, nm_v, cl_S, cv_S, bd_S, lk_L, lk_R, zbw_b, isK_e, isPg_3, isPg_4, isPg_6, asV_n, beq_self_eq_true, inb_N, inb_0, le_T, le_F, lt_T, lt_F, eq_F, le_0T, lt_0F, le_0F, eq_0F, nI_1, nI_add, pk_mul, nI_clamp, cl_0, if_true, if_false, of_nI, T_wI, L_wI, R_wI, N_wI, S_wI, T_wR, L_wR, I_wR, N_wR, S_wR, I_same, R_same, I_wIn, I_wIk, R_wRn, R_wRk, T_nwo, T_nwn, L_nwo, L_nwn, I_nwo, I_nwn, R_nwo, R_nwn, N_nw, S_nw, nar_1, nar_0, nar_01, b01_t0, b01_f0, b01_t1, b01_f1, ne_sn, eq_sn, sn_inj, Q1.1.1, Q1.1.a28.1, Q1.1.a28.2.1, Q1.1.a28.2.2.1, g1]
      have K2 := fr_M_unpin (C := cT) (mi := 0) e2'
      refine ⟨_, _, _, e1', e2', ⟨B, va', ca, ka, pa, rd + 1, pid, pat, _, base, gen, d2.k K2 (by decide), g2, I1.drop, by omega, by show s.nxt ≤ _; omega, i3.up⟩, ?_⟩
      have n2 : hpN h2 = hpN h1 := g3
      have s2 : hpS h2 = hpS h1 := g4
      have n1 : hpN h1 = hpN h := d4
      have s1 : hpS h1 = hpS h := d5
      exact ⟨by omega, by omega, by omega⟩
def sHold (s : Ab) (n : Nat) : Ab := sVL s s.vers s.lat n
theorem Ivt.hold {s : Ab} {base gen : Nat} (I : Ivt s base gen) (n : Nat) (hn : n ≤ 4) : Ivt (sHold s n) base gen := by
  obtain ⟨S, i1, i2, i3, i4, i5, i6, i7⟩ := I
  exact ⟨S, i1, i2, i3, i4, ⟨i5.1, i5.2.1, i5.2.2.1, hn, i5.2.2.2.2⟩, i6, i7⟩
theorem c_hold {E : Nat × Nat} {h : Hp} {x y : Nat} {A : Nat → Nat} {j : Nat} (K : Ok E h x y A j) (hj : j < 600) (v : Int32) : ∃ r h1 h2, f_X_hold x v h = some (r, h1) ∧ f_M_hold y v h1 = some (r, h2) ∧ Ok E h2 x y A (j + 1) ∧ Rm h h2 := by
  have K0 := K
  obtain ⟨B, va, ca, ka, pa, rd, pid, pat, s, base, gen, R, Q, I, i1, i2, i3⟩ := K
  rcases pk_ix v (n := 5) (by omega) with q | q | ⟨n, hn, rfl⟩
  · refine ⟨-1, h, h, ?_, ?_, K0.mono, Rm.refl h⟩
    · unfold f_X_hold
      rw [if_pos q]
    · unfold f_M_hold
      rw [cl_s (in_out (Or.inl q) h), if_pos rfl]
  · refine ⟨-1, h, h, ?_, ?_, K0.mono, Rm.refl h⟩
    · unfold f_X_hold
      have n0 : ¬ v < 0 := fun z => absurd (Int32.lt_of_le_of_lt q z) (by decide)
      have n4 : ¬ v ≤ nI 4 := fun z => absurd (Int32.le_trans q z) (by decide)
      rw [if_neg n0, if_neg n4]
    · unfold f_M_hold
      rw [cl_s (in_out (Or.inr q) h), if_pos rfl]
  · obtain ⟨r1, X, NT, F, L, ⟨V, la⟩, ⟨h5, h6⟩, G, L8, n12⟩ := R
    have Kw : Keep W_X_hold h (wI h x 5 (nI n)) := kw_I rfl X.1 (Or.inl (by decide))
    have R1 : RX0 E.1 (wI h x 5 (nI n)) x B va ca ka pa rd (sHold s n) := by
      refine ⟨r1, X, ⟨NT.1.k Kw (by decide), NT.2.k Kw NT.1.1.2.1 NT.1.1.1 (by decide)⟩, F.k Kw (by decide), L.ext r1 (Sv.m ⟨by rw [X.1]; decide, by rw [X.1]; decide, by rw [X.1]; decide⟩), ⟨V.ext r1 (Sv.m ⟨by rw [X.1]; decide, by rw [X.1]; decide, by rw [X.1]; decide⟩), la⟩, ⟨I_same, ?_⟩, G.ext (Sx.k Kw (by decide)), ?_, n12⟩
      · rw [I_wIk (by decide)]; exact h6
      · obtain ⟨l1, l2, mr, l3, l4⟩ := L8
        refine ⟨l1, by rw [I_wIk (by decide)]; exact l2, mr, fun k hk => ?_, fun k hk => (l4 k hk).1⟩
        rw [I_wIn (ne_T (h := h) (by rw [X.1]; have := (G.po hk).kk; omega))]; exact l3 k hk
    have I1 := I.hold n (by omega)
    obtain ⟨h1, va', d1, d2, d3, d4, d5⟩ := x_drop R1 I1.1 I1.2.2.2.2.2.1 (by omega)
    have e1' : f_X_hold x (nI n) h = some (nI s.hold, h1) := by
      unfold f_X_hold
      simp (disch := omega) only [gd_T, dr_S, nm_v, cl_S, cv_S, bd_S, lk_L, lk_R, zbw_b, isK_e, isPg_3, isPg_4, isPg_6, asV_n, beq_self_eq_true, inb_N, inb_0, le_T, le_F, lt_T, lt_F, eq_F, le_0T, lt_0F, le_0F, eq_0F, nI_1, nI_add, pk_mul, nI_clamp, cl_0, if_true, if_false, of_nI, T_wI, L_wI, R_wI, N_wI, S_wI, T_wR, L_wR, I_wR, N_wR, S_wR, I_same, R_same, I_wIn, I_wIk, R_wRn, R_wRk, T_nwo, T_nwn, L_nwo, L_nwn, I_nwo, I_nwn, R_nwo, R_nwn, N_nw, S_nw, nar_1, nar_0, nar_01, b01_t0, b01_f0, b01_t1, b01_f1, ne_sn, eq_sn, sn_inj, X.1, d1, h5]
    have K1 := fr_X_hold (C := cT) (mi := 0) e1'
    have Q1 := Q.k K1 (by decide)
    have M1 := Q1.1
    have v1 := Q1.2.2.2.2.1.2.1
    have v2 := Q1.2.2.2.2.1.2.2.1
    have Kw2 : Keep W_M_hold h1 (wI h1 y 32 (nI n)) := kw_I rfl M1.1 (Or.inl (by decide))
    have Q2 : RM (wI h1 y 32 (nI n)) y A pid pat (sHold s n) := by
      refine Q1.versU (w := ([(8, 32)], [])) (kw_I rfl M1.1 (Or.inl (by decide))) (by decide) (Q1.2.2.2.2.1.1.exS (Sm.wy M1 (by decide) (by decide) _ _)) ?_ I_same
      rw [I_wIk (by decide)]; exact v1
    obtain ⟨h2, g1, g2, g3, g4⟩ := m_dropS Q2 I1.2.2.2.2.2.1
    have e2' : f_M_hold y (nI n) h1 = some (nI s.hold, h2) := by
      unfold f_M_hold
      rw [cl_s (in_ok hn (by decide) h1), if_neg (by decide)]
      simp (disch := omega) only [gd_T, dr_S, nm_v, cl_S, cv_S, bd_S, lk_L, lk_R, zbw_b, isK_e, isPg_3, isPg_4, isPg_6, asV_n, beq_self_eq_true, inb_N, inb_0, le_T, le_F, lt_T, lt_F, eq_F, le_0T, lt_0F, le_0F, eq_0F, nI_1, nI_add, pk_mul, nI_clamp, cl_0, if_true, if_false, of_nI, T_wI, L_wI, R_wI, N_wI, S_wI, T_wR, L_wR, I_wR, N_wR, S_wR, I_same, R_same, I_wIn, I_wIk, R_wRn, R_wRk, T_nwo, T_nwn, L_nwo, L_nwn, I_nwo, I_nwn, R_nwo, R_nwn, N_nw, S_nw, nar_1, nar_0, nar_01, b01_t0, b01_f0, b01_t1, b01_f1, ne_sn, eq_sn, sn_inj, M1.1, g1, v2]
    have K2 := fr_M_hold (C := cT) (mi := 0) e2'
    refine ⟨_, _, _, e1', e2', ⟨B, va', ca, ka, pa, rd + 1, pid, pat, _, base, gen, d2.k K2 (by decide), g2, I1.drop, by omega, by show s.nxt ≤ _; omega, i3.up⟩, ?_⟩
    have n2 : hpN h2 = hpN h1 := g3
    have s2 : hpS h2 = hpS h1 := g4
    have n1 : hpN h1 = hpN h := d4
    have s1 : hpS h1 = hpS h := d5
    exact ⟨by omega, by omega, by omega⟩

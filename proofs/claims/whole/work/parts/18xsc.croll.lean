theorem x_rollS {E : Nat × Nat} {h : Hp} {x : Nat} {B : Nat → Nat} {va : List Nat} {ca ka pa : Nat → Nat} {rd base gen f i a : Nat} {s : Ab} {t : Vt} (R : RX E.1 h x B va ca ka pa rd s) (I : Ivt s base gen) (ha : va[i]? = some a) (ht : s.vers[i]? = some t) (hf : RW s.free 1 (some f)) (hn : s.nxt + 1 < 2 ^ 14) (hr : rd + 1 < 2 ^ 20) (efd : f_X_findVersion x (nI t.1) h = some (some a, h)) :
    ∃ h' B' va' ca' ka' pa', f_X_rollback E x (nI t.1) h = some (nI s.nxt, h') ∧ RX E.1 h' x B' va' ca' ka' pa' (rd + 1) (sVers (sRoll s i t f) (dVers (sRoll s i t f))) ∧ hpN h ≤ hpN h' ∧ hpN h' ≤ hpN h + 60 ∧ hpS h' ≤ hpS h + 600 := by
  have I' := I.roll ht hf hn
  have R0 := R
  have i5 := I.2.2.2.2.2.1
  have S := I.1
  have tm := List.mem_of_getElem? ht
  have tb := i5.to.2.1 t tm
  have hf1 := hf.1
  obtain ⟨r1, X, ⟨N, T⟩, F, Lc, ⟨V, la⟩, ⟨h5, h6⟩, G, Q, n1, n2⟩ := R
  have O := V.2.2 i a t ha ht
  obtain ⟨o1, o2, o3, o4, o5⟩ := O
  have p5 := N.1.1
  have pN := N.1.2.1
  obtain ⟨o, rw1, er⟩ := x_room (n := 1) F.1 F.2.2.2.1 (by omega) (by omega)
  have eo := rw1.uniq hf
  subst eo
  dsimp only at er
  -- the chunk and its page
  obtain ⟨k, hk⟩ : ∃ k, k = hpN h := ⟨_, rfl⟩
  obtain ⟨h1, i1, oo1, m1, s1, k1, k2, k3, k4, k5, k6, k7, k8⟩ := k_init (h := h) (n := 1) (nI s.nxt) (nI f) (by omega)
  rw [← hk] at i1 m1 k1 k2 k3 k4 k5 k6 k7 k8
  have W1 : WP h1 s.nxt k f 1 pa [] (fun _ => 0) := ⟨⟨k1, by omega, k2, k3, k4, k7, k8, by omega⟩, by rw [k5]; rfl, Nat.zero_le _, fun i pg hi => by cases hi⟩
  obtain ⟨h2, e2, oo2, C2, c0, c2, m2, s2⟩ := x_copy (pn := fun _ => 0) oo1 ⟨o1, o2, o3, o4, o5⟩ G S (fun z => ⟨(I.bmt tm z).1, (I.bmt tm z).2.1⟩)
  obtain ⟨me, hme⟩ : ∃ me, me = hpN h1 := ⟨_, rfl⟩
  rw [← hme] at e2 C2 c0 c2
  have W2 := W1.o oo2 List.not_mem_nil List.not_mem_nil (fun _ _ _ => ⟨List.not_mem_nil, List.not_mem_nil⟩)
  obtain ⟨h3, e3, W3, oo3, m3, s3, t3, r3⟩ := w_append W2 (by decide) (by decide) C2 c0 c2 (fun j hj hz he => by
    exfalso
    have hz' : (if t.2.2 = 0 then 0 else ld s.st t.2.2 j) ≠ 0 := hz
    have he' : (if t.2.2 = 0 then 0 else ld s.st t.2.2 j) / 32 = s.nxt := he
    by_cases c : t.2.2 = 0
    · rw [if_pos c] at hz'; exact hz' rfl
    · rw [if_neg c] at hz' he'
      obtain ⟨v, kk, -⟩ := I.bmt tm c
      have := (S.root v kk hj hz').2.2.1
      have := v.2.1
      omega)
  obtain ⟨pn, hpn⟩ : ∃ pn, pn = va_up (fun _ => 0) ([] : List Pg).length me := ⟨_, rfl⟩
  rw [← hpn] at W3
  have pn0 : pn 0 = me := by rw [hpn]; exact if_pos rfl
  have W3' : WP h3 s.nxt k f 1 pa (rbL s t) pn := W3
  obtain ⟨h4, hh4⟩ : ∃ h4, h4 = wR h3 k 4 (some me) := ⟨_, rfl⟩
  have kT3 : hpT h3 k = 2 := W3.1.1
  have kN3 : k < hpN h3 := W3.1.2.1
  have o03 : Only [] h h3 := (oo1.tr oo2 (fun x hx => by cases hx)).tr oo3 (fun z hz hlt => by
    simp only [List.mem_cons, List.not_mem_nil, or_false] at hz
    omega)
  have o04 : Only [] h h4 := by rw [hh4]; exact o03.wR (Or.inl (by omega))
  have W4 : WP h4 s.nxt k f 1 pa (rbL s t) pn := by
    obtain ⟨⟨x1, x2, x3, x4, x5, x6, x7, x8⟩, y1, y2, y3⟩ := W3'
    rw [hh4]
    refine ⟨⟨x1, x2, x3, x4, by rw [R_wRk (by decide)]; exact x5, x6, x7, x8⟩, y1, y2, fun i pg hi => ?_⟩
    obtain ⟨z1, z2, z3, z4, z5, z6, z7⟩ := y3 i pg hi
    obtain ⟨q1, q2, q3⟩ := z6.kk
    have w1 : pn i ≠ k := ne_T (h := h3) (by rw [x1]; omega)
    have w2 : pn i + 1 ≠ k := ne_T (h := h3) (by rw [x1]; omega)
    refine ⟨by rw [R_wRn (by omega)]; exact z1, z2, by rw [R_wRn w1]; exact z3, z4, z5, z6.at (Nat.le_refl _) rfl rfl rfl (fun j _ => ⟨rfl, R_wRn w1⟩) ⟨rfl, funext fun z => R_wRn w2⟩ (fun _ _ _ _ => rfl), z7⟩
  have r4 : hpR h4 k 4 = some me := by rw [hh4]; exact R_same
  have m4 : hpN h4 = hpN h3 ∧ hpS h4 = hpS h3 := by rw [hh4]; exact ⟨rfl, rfl⟩
  have kT4 : hpT h4 k = 2 := by rw [hh4]; exact kT3
  have kN4 : k < hpN h4 := by rw [m4.1]; exact kN3
  -- the version
  have aT4 : hpT h4 a = 7 := (o04.at o2 List.not_mem_nil).1.trans o1
  have aN4 : a < hpN h4 := Nat.lt_of_lt_of_le o2 o04.1
  obtain ⟨h5', hh5⟩ : ∃ h5', h5' = wR h4 a 1 (some me) := ⟨_, rfl⟩
  have K45 : Keep ([(7, 1)], []) h4 h5' := kw_R hh5 aT4 (Or.inl (by decide))
  have X4 := X.k (w := ([], [])) o04.kp (by decide)
  have X5 := X4.k K45 (by decide)
  obtain ⟨h6', hh6⟩ : ∃ h6', h6' = wR h5' x 4 (some a) := ⟨_, rfl⟩
  have K56 : Keep ([(0, 4)], []) h5' h6' := kw_R hh6 X5.1 (Or.inl (by decide))
  have X6 := X5.k K56 (by decide)
  have K46 : Keep ([(0, 4), (7, 1)], []) h4 h6' := (K45.mono (by decide) (by decide)).trans (K56.mono (by decide) (by decide))
  have K06 : Keep ([(0, 4), (7, 1)], []) h h6' := o04.kp.trans K46
  have m6 : hpN h6' = hpN h4 ∧ hpS h6' = hpS h4 := by rw [hh6, hh5]; exact ⟨rfl, rfl⟩
  have ax : a ≠ x := ne_T (h := h) (by rw [o1, X.1]; decide)
  have W6 := W4.k K46 (by decide) (by decide)
  have r46 : hpR h6' k 4 = some me := by rw [(K46.I kN4 kT4 (by decide)).2]; exact r4
  have G6 := XG.new (L := rbL s t) (G.ext (Sx.k K06 (by decide))) S W6 (by show 1 ≤ 21; omega) (Nat.le_refl 1) (by rw [r46]; exact congrArg some pn0.symm)
  have Kd : kd (stN s.st s.nxt (rbL s t)) (32 * s.nxt) = 2 := by
    unfold kd
    rw [show 32 * s.nxt = 32 * s.nxt + 0 by omega, stN_n (pg := cpg s.st t.2.2 t.1) (by omega) rfl]; rfl
  have Kv : vk (va_up s.np s.nxt 1) (s.nxt + 1) (32 * s.nxt) := ⟨by have := I.2.1; omega, by omega, by rw [show 32 * s.nxt / 32 = s.nxt by omega, up_n]; omega⟩
  have ckK : ck (paN pa s.nxt pn) (32 * s.nxt) = some me := by
    rw [ck_s (by have := I.2.1; omega), show 32 * s.nxt = 32 * s.nxt + 0 by omega, paN_n (by omega), pn0]
  obtain ⟨h7, e7, N7, T7, m7, s7⟩ := p_load (k := 32 * s.nxt) (N.k K06 (by decide)) G6 I'.1 (fun _ => ⟨Kv, Kd⟩)
  rw [ckK] at e7
  have K7 := fr_P_load (C := cT) (mi := 0) e7
  have Kg : Keep ([(0, 4), (5, 2), (5, 3), (7, 0), (7, 1), (7, 2), (9, 0), (9, 1), (9, 2)], [66, 67, 73, 74]) h h7 := (K06.mono (by decide) (by decide)).trans (K7.mono (by decide) (by decide))
  have aT6 : hpT h6' a = 7 := (K46.2.2.1 a aN4).1.trans aT4
  have aN6 : a < hpN h6' := by rw [m6.1]; exact aN4
  have x47 : hpR h7 x 4 = some a := by rw [(K7.I X6.2.1 X6.1 (by decide)).2, hh6, R_same]
  have sv6 : ∀ b, b ≠ a → b < hpN h → ∀ j, (hpT h b = 7 ∨ hpT h b = 9 ∨ hpT h b = 64 ∨ hpT h b = 73 ∨ hpT h b = 74) → hpI h7 b j = hpI h b j ∧ hpR h7 b j = hpR h b j := fun b hb hbn j hj => by
    have q1 := o04.at hbn List.not_mem_nil
    have bx : b ≠ x := ne_T (h := h) (by rw [X.1]; omega)
    have t6 : hpT h6' b = hpT h b := (K46.2.2.1 b (Nat.lt_of_lt_of_le hbn o04.1)).1.trans q1.1
    have b6 : b < hpN h6' := by rw [m6.1]; exact Nat.lt_of_lt_of_le hbn o04.1
    have k7 := K7.2.2.2 b b6 j (by rw [t6]; intro z; rcases z with z | z; · simp [W_P_load] at z; omega
                                   · simp [W_P_load] at z; omega)
    rw [k7.1, k7.2, hh6, hh5]
    refine ⟨?_, ?_⟩
    · show hpI h4 b j = _
      rw [q1.2.2.1]
    · rw [R_wRn bx, R_wRn hb, q1.2.2.2]
  have TL7 : ∀ b, b < hpN h → hpT h7 b = hpT h b ∧ hpL h7 b = hpL h b := fun b hb => Kg.2.2.1 b hb
  have ov7 : Ov [a] h h7 := ⟨Kg.1, fun b hb => ⟨(TL7 b hb).1, (TL7 b hb).2, fun nb j hj => sv6 b (fun z => nb (by rw [z]; simp)) hb j hj⟩⟩
  have L7 := Lc.exO r1 ov7 (by simp only [List.mem_cons, List.not_mem_nil, or_false]; intro z; have := Lc.1; rw [z, o1] at this; cases this) (by simp only [List.mem_cons, List.not_mem_nil, or_false]; intro z; have := Lc.ek; rw [z, o1] at this; omega)
  have V7l := V.1.exO r1 ov7 (by simp only [List.mem_cons, List.not_mem_nil, or_false]; intro z; have := V.1.1; rw [z, o1] at this; cases this) (by simp only [List.mem_cons, List.not_mem_nil, or_false]; intro z; have := V.1.ek; rw [z, o1] at this; omega)
  -- the versions
  obtain ⟨vv, hvv⟩ : ∃ vv : List Vt, vv = s.vers.set i (t.1, t.2.1, 32 * s.nxt) := ⟨_, rfl⟩
  have il : i < s.vers.length := (List.getElem?_eq_some_iff.mp ht).1
  have vat : ∀ (j : Nat) (u : Vt), vv[j]? = some u → (j = i ∧ u = (t.1, t.2.1, 32 * s.nxt)) ∨ (j ≠ i ∧ s.vers[j]? = some u) := fun j u hj => by
    rw [hvv, List.getElem?_set] at hj
    by_cases c : i = j
    · subst c
      rw [if_pos rfl, if_pos il] at hj
      exact Or.inl ⟨rfl, (Option.some.inj hj).symm⟩
    · rw [if_neg c] at hj
      exact Or.inr ⟨fun z => c z.symm, hj⟩
  have aj : ∀ (j b : Nat) (u : Vt), va[j]? = some b → s.vers[j]? = some u → (b = a ↔ j = i) := fun j b u hj hu => by
    constructor
    · intro z
      subst z
      obtain ⟨q1, q2, q3, -⟩ := V.2.2 j b u hj hu
      rw [o3] at q3
      have b1 := (i5.to.2.1 u (List.mem_of_getElem? hu)).1
      have e := (nI_eq (by omega) (by omega)).mp q3
      rcases Nat.lt_trichotomy j i with z | z | z
      · have := i5.1.1 j i u t hu ht z
        omega
      · exact z
      · have := i5.1.1 i j t u ht hu z
        omega
    · intro z
      subst z
      rw [ha] at hj; cases hj; rfl
  have a7I : hpI h7 a 0 = nI t.1 ∧ hpI h7 a 2 = nI t.2.1 ∧ hpR h7 a 1 = some me := by
    have k7 := fun j => K7.J aN6 aT6 (by decide) j
    have q1 := o04.at o2 List.not_mem_nil
    refine ⟨?_, ?_, ?_⟩
    · rw [(k7 0).1, hh6, hh5]
      show hpI h4 a 0 = _
      rw [q1.2.2.1]; exact o3
    · rw [(k7 2).1, hh6, hh5]
      show hpI h4 a 2 = _
      rw [q1.2.2.1]; exact o5
    · rw [(k7 1).2, hh6, R_wRn ax, hh5, R_same]
  have hvO : ∀ (j b : Nat) (u : Vt), va[j]? = some b → vv[j]? = some u → VO h7 b u (ck (paN pa s.nxt pn)) ∧ (some b = hpR h7 x 4 ↔ u.1 = t.1) := fun j b u hj hu => by
    rw [x47]
    rcases vat j u hu with ⟨z1, z2⟩ | ⟨z1, z2⟩
    · subst z1
      rw [ha] at hj
      cases hj
      rw [z2]
      refine ⟨⟨(TL7 a o2).1.trans o1, Nat.lt_of_lt_of_le o2 Kg.1, a7I.1, ?_, a7I.2.1⟩, ⟨fun _ => rfl, fun _ => rfl⟩⟩
      rw [a7I.2.2]
      exact ckK.symm
    · obtain ⟨q1, q2, q3, q4, q5⟩ := V.2.2 j b u hj z2
      have ba : b ≠ a := fun z => z1 ((aj j b u hj z2).mp z)
      have g := fun y => sv6 b ba q2 y (Or.inl q1)
      refine ⟨⟨(TL7 b q2).1.trans q1, Nat.lt_of_lt_of_le q2 Kg.1, by rw [(g 0).1]; exact q3, ?_, by rw [(g 2).1]; exact q5⟩, ⟨fun z => absurd (Option.some.inj z) ba, fun z => ?_⟩⟩
      · rw [(g 1).2, q4]
        refine (ck_paO fun z => ?_).symm
        have := (i5.2.2.2.2 u (List.mem_of_getElem? z2) z).1.2.1
        omega
      · exfalso
        rcases Nat.lt_trichotomy j i with w | w | w
        · have := i5.1.1 j i u t z2 ht w
          omega
        · exact z1 w
        · have := i5.1.1 i j t u ht z2 w
          omega
  have B5 : B 5 < hpN h := by
    rcases V.1.2.2.2.2.2.2 with q | q
    · rw [q.1]; exact r1
    · exact q.2.1
  obtain ⟨h8, B', e8, R8, a8, kT8, kI8, m8, m8', s8⟩ := x_newChunk (lat := t.1) (L := rbL s t) (va' := va) (vers := vv) (ev' := B 5) R0 I (by have z : (s.chs ++ [s.nxt]).length ≤ 32 := I'.chs_le; rw [List.length_append] at z; exact z) (by have z : (s.pend ++ (List.range ((1 + 1) / 2)).map (f + ·)).length ≤ 32 := I'.pend_le; rw [List.length_append, List.length_map, List.length_range] at z; exact z) (Nat.le_refl 1) (by show 1 ≤ 21; omega) (by show f + (1 + 1) / 2 ≤ 32; omega) (by omega) (W6.k K7 (by decide) (by decide)) (by rw [(K7.I (a := k) (κ := 2) (by rw [m6.1]; exact kN4) ((K46.2.2.1 k kN4).1.trans kT4) (by decide)).2, r46]; exact congrArg some pn0.symm) Kg N7 T7 ⟨V7l, by rw [hvv, List.length_set]; exact V.2.1, fun j b u hj hu => (hvO j b u hj hu).1⟩ (fun j b u hj hu => (hvO j b u hj hu).2) L7 n2 (Nat.lt_of_lt_of_le B5 Kg.1)
  -- above
  have vvi : vv[i]? = some (t.1, t.2.1, 32 * s.nxt) := by rw [hvv, List.getElem?_set, if_pos rfl, if_pos il]
  have vnum : ∀ (j : Nat) (u : Vt), vv[j]? = some u → ∃ u', s.vers[j]? = some u' ∧ u'.1 = u.1 := fun j u hj => by
    rcases vat j u hj with ⟨z1, z2⟩ | ⟨z1, z2⟩
    · exact ⟨t, by rw [z1]; exact ht, by rw [z2]⟩
    · exact ⟨u, z2, rfl⟩
  obtain ⟨h9, e9, V9, o9, m9, s9⟩ := x_above (t := (t.1, t.2.1, 32 * s.nxt)) R8.2.1 R8.2.2.2.2.2.1.1 (fun j1 j2 u1 u2 z1 z2 z3 => by
    obtain ⟨w1, w2, w3⟩ := vnum j1 u1 z1
    obtain ⟨y1, y2, y3⟩ := vnum j2 u2 z2
    rw [← w3, ← y3]; exact i5.1.1 j1 j2 w1 y1 w2 y2 z3) (fun j1 u1 z1 => by
    obtain ⟨w1, w2, w3⟩ := vnum j1 u1 z1
    rw [← w3]; exact (i5.to.2.1 w1 (List.mem_of_getElem? w2)).1) vvi
  have K9 := fr_X_dropAbove (C := cT) (mi := 0) e9
  have tke : vv.take (i + 1) = rbV s i t := by
    rw [take_s vvi, hvv]
    unfold rbV
    congr 1
    refine List.ext_getElem? fun j => ?_
    rw [List.getElem?_take, List.getElem?_take]
    by_cases c : j < i
    · rw [if_pos c, if_pos c, List.getElem?_set, if_neg (by omega)]
    · rw [if_neg c, if_neg c]
  have V9' : XV E.1 h9 (B' 3) (B' 5) (va.take (i + 1)) (rbV s i t) (ck (paN pa s.nxt pn)) := by rw [← tke]; exact V9
  have R9 := R8.versO o9 K9 V9' (fun j b u hj hu => by
    rw [← tke] at hu
    have jl := (List.getElem?_eq_some_iff.mp hj).1
    rw [List.length_take] at jl
    rw [List.getElem?_take, if_pos (by omega)] at hj hu
    exact R8.2.2.2.2.2.1.2 j b u hj hu)
  obtain ⟨h10, va10, e10, R10, a10, m10, s10⟩ := x_drop R9 I'.1 I'.2.2.2.2.2.1 hr
  refine ⟨h10, B', va10, _, _, _, ?_, R10, ?_, ?_, ?_⟩
  · have f0 : (0 : Int32) ≤ nI f := nI_le (a := 0) (Nat.zero_le _) (by omega)
    have X0n : XO (nw h 2 0 5) x (B 0) (B 1) (B 2) (B 3) := X.k (w := ([], [])) (kw_N rfl) (by decide)
    have x6n : hpI (nw h 2 0 5) x 6 = nI s.nxt := by rw [I_nwo X.2.1]; exact h6
    have kT2 : hpT h2 k = 2 := by rw [(oo2.2.2.1 k (by omega)).1]; exact k1
    have ek : f_K_close k (some me) h2 = some h4 := by
      unfold f_K_close
      rw [gd_t (isK_of kT2), cv_s e3, gd_t (isK_of kT3), nm_v, hh4]
    have aT7 : hpT h7 a = 7 := (TL7 a o2).1.trans o1
    have aN7 : a < hpN h7 := Nat.lt_of_lt_of_le o2 Kg.1
    have aI8 : hpI h8 a 0 = nI t.1 := by rw [a8 a aT7 aN7]; exact a7I.1
    have K8 := fr_X_writeToFile (C := cTe E.1) (mi := E.2) e8
    have aT8 : hpT h8 a = 7 := (K8.2.2.1 a aN7).1.trans aT7
    have K10 := fr_X_dropUnkept (C := cT) (mi := 0) e10
    have kN7 : k < hpN h7 := by rw [m7, m6.1]; exact kN4
    have kN8 : k < hpN h8 := Nat.lt_of_lt_of_le kN7 K8.1
    have kN9 : k < hpN h9 := Nat.lt_of_lt_of_le kN8 K9.1
    have kT9 : hpT h9 k = 2 := (K9.2.2.1 k kN8).1.trans kT8
    have kT10 : hpT h10 k = 2 := (K10.2.2.1 k kN9).1.trans kT9
    have kI10 : hpI h10 k 0 = nI s.nxt := by rw [(K10.I kN9 kT9 (by decide)).1, (K9.I kN8 kT8 (by decide)).1]; exact kI8
    have p6 : hpT h6' (B 0) = 5 := (K06.2.2.1 (B 0) pN).1.trans p5
    have x46 : hpR h6' x 4 = some a := by rw [hh6]; exact R_same
    have a61 : hpR h6' a 1 = some me := by rw [hh6, R_wRn ax, hh5, R_same]
    have X7 := X.k Kg (by decide)
    unfold f_X_rollback
    rw [gd_t (isK_of X.1), cl_s efd, if_neg (by intro z; cases z), gd_t (isK_of X.1), dr_s X.2.2.2.1, gd_t (isK_of F.1.1), cl_s (show f_F_findFreeRow (B 1) (1 : Int32) h = _ from er), if_pos f0, nm_v, gd_t (isK_of X0n.1), x6n, ← hk, cv_s (show f_K_init k (nI s.nxt) (nI f) (1 : Int32) (nw h 2 0 5) = _ from i1), cl_s e2, gd_t (isK_of kT2), cv_s ek, gd_t (isK_of kT4), dr_s rfl, gd_t (isK_of aT4), r4, nm_v, ← hh5, gd_t (isK_of X5.1), nm_v, ← hh6, dr_s x46, gd_t (isK_of aT6), dr_s X6.2.2.1, gd_t (isK_of p6), a61, cv_s e7, gd_t (isK_of X7.1), cv_s e8, gd_t (isK_of aT8), gd_t (isK_of R8.2.1.1), aI8, cv_s e9, gd_t (isK_of R9.2.1.1), cv_s e10, gd_t (isK_of kT10), kI10]
  · have := Kg.1
    omega
  · omega
  · omega
theorem c_rollback {E : Nat × Nat} {h : Hp} {x y : Nat} {A : Nat → Nat} {j : Nat} (K : Ok E h x y A j) (hj : j < 600) (v : Int32) : ∃ r h1 h2, f_X_rollback E x v h = some (r, h1) ∧ f_M_rollback y v h1 = some (r, h2) ∧ Ok E h2 x y A (j + 1) ∧ Rm h h2 := by
  have K0 := K
  obtain ⟨B, va, ca, ka, pa, rd, pid, pat, s, base, gen, R, Q, I, i1, i2, i3⟩ := K
  have X := R.2.1
  have F := R.2.2.2.1
  have M := Q.1
  rcases find_both R Q v with ⟨e1, e2⟩ | ⟨i, a, t, ha, ht, tv, il, e1, e2⟩
  · refine ⟨-3, h, h, ?_, ?_, K0.mono, Rm.refl h⟩
    · unfold f_X_rollback
      rw [gd_t (isK_of X.1), cl_s e1, if_pos rfl]
    · unfold f_M_rollback
      rw [gd_t (isK_of M.1), cl_s e2, if_neg (by decide)]
  · subst tv
    obtain ⟨o, rw1, er⟩ := x_room (n := 1) F.1 F.2.2.2.1 (by omega) (by omega)
    have i0 : (0 : Int32) ≤ nI i := nI_le (a := 0) (Nat.zero_le _) (by omega)
    cases o with
    | none =>
      obtain ⟨o', rw2, er2⟩ := m_room (n := 1) M Q.2.2.1.2.2.1 (by omega) (by omega)
      have eo := rw2.uniq rw1
      subst eo
      refine ⟨-2, h, h, ?_, ?_, K0.mono, Rm.refl h⟩
      · unfold f_X_rollback
        rw [gd_t (isK_of X.1), cl_s e1, if_neg (by intro z; cases z), gd_t (isK_of X.1), dr_s X.2.2.2.1, gd_t (isK_of F.1.1), cl_s (show f_F_findFreeRow (B 1) (1 : Int32) h = _ from er)]
        exact if_neg (by decide)
      · unfold f_M_rollback
        rw [gd_t (isK_of M.1), cl_s e2, if_pos i0, gd_t (isK_of M.1), cl_s (show f_M_room y (1 : Int32) h = _ from er2)]
        exact if_neg (by decide)
    | some f =>
      have hn : s.nxt + 1 < 2 ^ 14 := by omega
      obtain ⟨h1, B', va', ca', ka', pa', g1, R1, m1, m2, s1⟩ := x_rollS R I ha ht rw1 hn (by omega) e1
      have K1 := fr_X_rollback (C := cTe E.1) (mi := E.2) g1
      have Q1 := Q.k K1 (by decide)
      have ef : f_M_find y (nI t.1) h1 = some (nI i, h1) := by
        obtain ⟨o, f2, e⟩ := m_find (v := nI t.1) Q1.1 Q1.2.2.2.2.1.1
        obtain ⟨o', f2', e'⟩ := m_find (v := nI t.1) Q.1 Q.2.2.2.2.1.1
        have := f2.uniq f2'
        subst this
        have q := (Prod.mk.inj (Option.some.inj (e2.symm.trans e'))).1
        rw [e, ← q]
      obtain ⟨h2, pid', pat', g2, Q2, m3, s3⟩ := m_rollS Q1 I ht rw1 hn ef
      have K2 := fr_M_rollback (C := cT) (mi := 0) g2
      have I' := I.roll ht rw1 hn
      have tl : t.1 ≤ j := Nat.le_trans (lat_le I.2.2.2.2.2.1 t (List.mem_of_getElem? ht)) i3.1
      have lb' : lb (sRoll s i t f) (j + 1) := sWrite_lb i3 (by omega) (fun n pg hi k2 => by
        have : n = 0 ∧ pg = cpg s.st t.2.2 t.1 := by
          cases n with
          | zero => cases hi; exact ⟨rfl, rfl⟩
          | succ n => cases hi
        rw [this.2]
        show t.1 ≤ j + 1
        omega)
      refine ⟨_, h1, h2, g1, g2, ⟨B', va', ca', ka', pa', rd + 1, pid', pat', _, base, gen, R1.k K2 (by decide), Q2, I'.drop, by omega, by show s.nxt + 1 ≤ _; omega, lb'⟩, ?_, ?_, ?_⟩ <;> omega

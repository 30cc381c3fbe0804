/-! commit, class -/
theorem Only.kp {h h' : Hp} {w : Wl} (o : Only [] h h') : Keep w h h' := ⟨o.1, o.2.1, o.2.2.1, fun a ha k _ => by rw [(o.2.2.2 a ha List.not_mem_nil).1, (o.2.2.2 a ha List.not_mem_nil).2]; exact ⟨rfl, rfl⟩⟩
theorem FR.cg2 {h : Hp} {F c0 c1 c2 c3 c4 : Nat} {cc cs : Nat → Option Nat} {free pnd pnd' : Nat → Bool} {pend : List Nat} (R : FR h F c0 c1 c2 c3 c4 cc cs free pnd pend) (e : ∀ b, b < 32 → pnd b = pnd' b) : FR h F c0 c1 c2 c3 c4 cc cs free pnd' pend := by
  obtain ⟨O, r1, r2, r3, r4, r5⟩ := R
  exact ⟨O, r1, r2, r3, fun b hb => by rw [r4 b hb, e b hb], r5⟩
theorem XG.new {h : Hp} {ca ka pa pn : Nat → Nat} {st : Nat → Pg} {fs np : Nat → Nat} {nxt k f : Nat} {L : List Pg} (G : XG h ca ka pa st fs np nxt) (S : SW st fs np nxt) (W : WP h nxt k f L.length pa L pn) (hL : L.length ≤ 21) (hL1 : 1 ≤ L.length) (h4 : hpR h k 4 = some (pn (L.length - 1))) : XG h (va_up ca nxt k) (va_up ka nxt (k + 1)) (paN pa nxt pn) (stN st nxt L) (va_up fs nxt f) (va_up np nxt L.length) (nxt + 1) := by
  obtain ⟨K, w1, w2, w3⟩ := W
  intro id h1 h2
  by_cases c : id = nxt
  · subst c
    rw [up_n, up_n, up_n, up_n]
    refine ⟨K, ?_, fun i hi => ?_⟩
    · rw [show 32 * id + L.length - 1 = 32 * id + (L.length - 1) by omega, paN_n (by omega)]; exact h4
    · obtain ⟨pg, hpg⟩ : ∃ pg, L[i]? = some pg := ⟨_, List.getElem?_eq_getElem hi⟩
      obtain ⟨u1, u2, u3, u4, u5, u6, u7⟩ := w3 i pg hpg
      have e32 : (32 * id + i) / 32 = id := by omega
      have m32 : (32 * id + i) % 32 = i := by omega
      refine ⟨by rw [paN_n (by omega)]; exact u1, ?_⟩
      unfold PO
      rw [paN_n (by omega), e32, m32, up_n, stN_n (by omega) hpg]
      exact ⟨u2, u3, u4, u6⟩
  · obtain ⟨g1, g2, g3⟩ := G id h1 (by omega)
    obtain ⟨n1, n2, n3⟩ := S.2.1 id h1 (by omega)
    rw [up_o c, up_o c, up_o c, up_o c]
    refine ⟨g1, by rw [paN_o (by omega)]; exact g2, fun i hi => ?_⟩
    obtain ⟨q1, p1, p2, p3, p4⟩ := g3 i hi
    have e32 : (32 * id + i) / 32 = id := by omega
    have v : vk np nxt (32 * id + i) := ⟨by omega, by omega, by rw [e32, show (32 * id + i) % 32 = i by omega]; exact hi⟩
    refine ⟨by rw [paN_o (by omega)]; exact q1, ?_⟩
    unfold PO
    rw [paN_o (by omega), e32, up_o c, stN_o (by omega)]
    rw [e32] at p2
    refine ⟨p1, p2, p3, p4.at (Nat.le_refl _) rfl rfl rfl (fun _ _ => ⟨rfl, rfl⟩) ⟨rfl, rfl⟩ (fun kz j hj hz => paN_o ?_)⟩
    have k2 := (S.2.2 _ v).1.1
    have z : ld st (32 * id + i) j ≠ 0 := hz
    have : ld st (32 * id + i) j / 32 ≤ (32 * id + i) / 32 := by
      have a : kd st (32 * id + i) = 0 ∨ kd st (32 * id + i) = 1 ∨ kd st (32 * id + i) = 2 := by omega
      rcases a with a | a | a
      · exact absurd a kz
      · exact (S.leaf v a hj z).2.2.1
      · exact (S.root v a hj z).2.2.1
    show ld st (32 * id + i) j / 32 ≠ nxt
    omega
/-- a context with a given empty array -/
def cTe (e : Nat) : Ct := ((fun _ => 0, fun _ _ => 0), fun _ => 0, 0, e, 0, 0, fun _ => 0)
theorem Only.sv {h h' : Hp} (o : Only [] h h') : Sv h h' := ⟨o.1, fun a ha => ⟨(o.2.2.1 a ha).1, (o.2.2.1 a ha).2, fun k _ => by rw [(o.2.2.2 a ha List.not_mem_nil).1, (o.2.2.2 a ha List.not_mem_nil).2]; exact ⟨rfl, rfl⟩⟩⟩
theorem v_init (h : Hp) (n : Nat) (o : Option Nat) : ∃ g, f_V_init (hpN h) (nI n) o (nw h 7 0 3) = some g ∧ Only [] h g ∧ hpN g = hpN h + 1 ∧ hpS g = hpS h + 3 ∧ hpT g (hpN h) = 7 ∧ hpI g (hpN h) 0 = nI n ∧ hpR g (hpN h) 1 = o ∧ hpI g (hpN h) 2 = nI 0 := by
  refine ⟨wR (wI (wI (nw h 7 0 3) (hpN h) 2 0) (hpN h) 0 (nI n)) (hpN h) 1 o, ?_, ?_, rfl, rfl, T_nwn (h := h) (n := 0) (w := 3) rfl, ?_, R_same, ?_⟩
  · have t : hpT (nw h 7 0 3) (hpN h) = 7 := T_nwn rfl
    unfold f_V_init
    simp (disch := omega) only [gd_T, dr_S, nm_v, cl_S, cv_S, bd_S, lk_L, lk_R, zbw_b, isK_e, isPg_3, isPg_4, isPg_6, asV_n, beq_self_eq_true, inb_N, inb_0, le_T, le_F, lt_T, lt_F, eq_F, le_0T, lt_0F, le_0F, eq_0F, nI_1, nI_add, pk_mul, nI_clamp, cl_0, if_true, if_false, of_nI, T_wI, L_wI, R_wI, N_wI, S_wI, T_wR, L_wR, I_wR, N_wR, S_wR, I_same, R_same, I_wIn, I_wIk, R_wRn, R_wRk, T_nwo, T_nwn, L_nwo, L_nwn, I_nwo, I_nwn, R_nwo, R_nwn, N_nw, S_nw, nar_1, nar_0, nar_01, b01_t0, b01_f0, b01_t1, b01_f1, ne_sn, eq_sn, sn_inj, t]
  · exact ((((Only.refl [] h).nw).wI (Or.inl (Nat.le_refl _))).wI (Or.inl (Nat.le_refl _))).wR (Or.inl (Nat.le_refl _))
  · rw [I_wR, I_same]
  · rw [I_wR, I_wIk (by decide), I_same]; rfl
theorem lat_le {s : Ab} (i5 : I5 s) : ∀ u ∈ s.vers, u.1 ≤ s.lat := fun u hu => by
  obtain ⟨t, ht, te⟩ := i5.2.2.1
  rw [List.getLast?_eq_getElem?] at ht
  obtain ⟨i, hi⟩ := List.getElem?_of_mem hu
  have il := (List.getElem?_eq_some_iff.mp hi).1
  by_cases c : i = s.vers.length - 1
  · rw [c, ht] at hi; cases hi; omega
  · have := i5.1.1 i _ u t hi ht (by omega)
    omega
/-- the new chunk's address, and those of its pages -/
theorem ck_up {ca : Nat → Nat} {id nxt k : Nat} (h : id ≠ nxt) : ck (va_up ca nxt k) id = ck ca id := by
  by_cases c : id = 0
  · rw [c, ck_0, ck_0]
  · rw [ck_s c, ck_s c, up_o h]
/-- what a new chunk does to the class's object: the pages stand, the rest follows -/
theorem x_newChunk {E : Nat × Nat} {h g : Hp} {x : Nat} {B : Nat → Nat} {va va' : List Nat} {ca ka pa pn : Nat → Nat} {rd base gen f k lat ev' : Nat} {s : Ab} {L : List Pg} {vers : List Vt} {now : Nat → Option Int32} (R : RX E.1 h x B va ca ka pa rd s) (I : Ivt s base gen) (cl' : s.chs.length + 1 ≤ 32) (pl' : s.pend.length + (L.length + 1) / 2 ≤ 32) (hL1 : 1 ≤ L.length) (hL : L.length ≤ 21) (hf : f + (L.length + 1) / 2 ≤ 32)
    (kh : hpN h ≤ k) (W : WP g s.nxt k f L.length pa L pn) (h4 : hpR g k 4 = some (pn (L.length - 1))) (Kg : Keep ([(0, 4), (5, 2), (5, 3), (7, 0), (7, 1), (7, 2), (9, 0), (9, 1), (9, 2)], [66, 67, 73, 74]) h g)
    (N' : PN g (B 0) (B 6) (B 7) now) (T' : PT g (B 0) (fun _ => false) (fun _ => false)) (V' : XV E.1 g (B 3) ev' va' vers (ck (paN pa s.nxt pn))) (la' : ∀ (i a : Nat) (t : Vt), va'[i]? = some a → vers[i]? = some t → (some a = hpR g x 4 ↔ t.1 = lat)) (L' : AL E.1 g (B 2) (B 4) (s.chs.map ca)) (ne' : B 4 ≠ ev') (ev0 : ev' < hpN g) :
    ∃ g' B', f_X_writeToFile E x (some k) g = some g' ∧ RX0 E.1 g' x B' va' (va_up ca s.nxt k) (va_up ka s.nxt (k + 1)) (paN pa s.nxt pn) rd (sWrite s L f vers lat now) ∧ (∀ a, hpT g a = 7 → a < hpN g → hpI g' a = hpI g a) ∧ hpT g' k = 2 ∧ hpI g' k 0 = nI s.nxt ∧ hpN g' ≤ hpN g + 1 ∧ hpN g ≤ hpN g' ∧ hpS g' ≤ hpS g + 100 := by
  obtain ⟨r1, X, ⟨N, T⟩, F, Lc, ⟨V, la⟩, ⟨h5, h6⟩, G, ⟨l1, l2, mr, l3, l4⟩, n1, n2⟩ := R
  have S := I.1
  have Xg := X.k Kg (by decide)
  have r1g : E.1 < hpN g := Nat.lt_of_lt_of_le r1 Kg.1
  have x6g : hpI g x 6 = nI s.nxt := by rw [(Kg.I X.2.1 X.1 (by decide)).1]; exact h6
  have G0 := G.ext (Sx.k Kg (by decide))
  have G1 := XG.new G0 S W hL hL1 h4
  have Q1 : XM g (paN pa s.nxt pn) (va_up s.np s.nxt L.length) (s.nxt + 1) (fun k => if k / 32 = s.nxt then 0 else mr k) := fun q hq => by
    dsimp only
    by_cases c : q / 32 = s.nxt
    · have q3 := hq.2.2
      rw [c, up_n] at q3
      obtain ⟨pg, hpg⟩ : ∃ pg, L[q % 32]? = some pg := ⟨_, List.getElem?_eq_getElem q3⟩
      rw [if_pos c]
      unfold paN
      rw [if_pos c]
      exact (W.2.2.2 _ pg hpg).2.2.2.2.1
    · rw [if_neg c, paN_o c]
      have v0 : vk s.np s.nxt q := ⟨hq.1, by have := hq.2.1; omega, by have := hq.2.2; rwa [up_o c] at this⟩
      exact l3.k G Kg (by decide) q v0
  -- the list of chunks
  obtain ⟨g1, hg1⟩ : ∃ g1, g1 = wI g x 6 (nI (s.nxt + 1)) := ⟨_, rfl⟩
  have K1 : Keep ([(0, 6)], []) g g1 := kw_I hg1 Xg.1 (Or.inl (by decide))
  have N1 : hpN g1 = hpN g ∧ hpS g1 = hpS g := by rw [hg1]; exact ⟨rfl, rfl⟩
  have sv1 : Sv g g1 := Sv.k K1 (by decide)
  have L1 := L'.ext r1g sv1
  have kT : hpT g k = 2 := W.1.1
  have kN : k < hpN g := W.1.2.1
  have tk1 : hpT g1 k = 2 := by rw [hg1]; exact kT
  obtain ⟨g2, ec', e2, L2, O2, ee, m2, s2⟩ := al_add (a := k) L1 (by rw [List.length_map]; omega) ⟨by rw [tk1]; decide, by rw [N1.1]; exact kN⟩
  have K2 := fr_A_add1 (C := cTe E.1) (mi := E.2) e2
  have F2 := ((F.k Kg (by decide)).k K1 (by decide)).k K2 (by decide)
  have W2 := (W.1.ext (Sx.k K1 (by decide))).ext (Sx.k K2 (by decide))
  obtain ⟨g3, e3, F3, m3, s3⟩ := x_write F2 W2 hf pl'
  have K3 := fr_F_write (C := cT) (mi := 0) e3
  have X1 := Xg.k K1 (by decide)
  have X2 := X1.k K2 (by decide)
  have ef : f_X_writeToFile E x (some k) g = some g3 := by
    unfold f_X_writeToFile
    rw [gd_t (isK_of Xg.1), x6g, nI_s, nm_v, ← hg1, dr_s X1.2.2.2.2.1, gd_t (isK_of L1.1), cl_s e2, gd_t (isK_of X2.1), dr_s X2.2.2.2.1, gd_t (isK_of F2.1.1), cv_s e3]
  have KS : Keep ([(0, 6), (9, 0), (9, 1), (9, 2), (1, 5)], [73, 74, 68, 70, 71, 72]) g g3 := ((K1.mono (by decide) (by decide)).trans (K2.mono (by decide) (by decide))).trans (K3.mono (by decide) (by decide))
  obtain ⟨B', hB'⟩ : ∃ B', B' = va_up (va_up B 4 ec') 5 ev' := ⟨_, rfl⟩
  have bo : ∀ i, i ≠ 4 → i ≠ 5 → B' i = B i := fun i z1 z2 => by rw [hB', up_o z2, up_o z1]
  have b4 : B' 4 = ec' := by rw [hB', up_o (by decide), up_n]
  have b5 : B' 5 = ev' := by rw [hB', up_n]
  have bk := L1.ek
  have b9 := L1.1
  have sv3 : Sv g2 g3 := Sv.k K3 (by decide)
  have r1g1 : E.1 < hpN g1 := by rw [N1.1]; exact r1g
  have r1g2 : E.1 < hpN g2 := Nat.lt_of_lt_of_le r1g1 O2.1
  have V1 := V'.ext r1g sv1
  have bv := V1.1.ek
  have bv9 := V1.1.1
  have ids : ∀ b, b < 32 → (s.cont b).1 < s.nxt ∧ (s.sett b).1 < s.nxt := fun b hb => by
    have a := I.2.2.1 b hb
    have z := I.2.1
    rcases a with ⟨a | a, c | c⟩ <;> omega
  have mapc : s.chs.map ca = s.chs.map (va_up ca s.nxt k) := List.map_congr_left (fun id hid => (up_o (by have := (I.2.2.2.1.1 id hid).2; omega)).symm)
  refine ⟨g3, B', ef, ⟨?_, ?_, ⟨?_, ?_⟩, ?_, ?_, ⟨?_, ?_⟩, ⟨?_, ?_⟩, G1.ext (Sx.k KS (by decide)), ⟨l1, ?_, _, Q1.k G1 KS (by decide), fun q hq => ?_⟩, ?_, ?_⟩, fun a z1 z2 => funext fun j => (KS.J z2 z1 (by decide) j).1, ?_, ?_, by omega, KS.1, by omega⟩
  · exact Nat.lt_of_lt_of_le r1g KS.1
  · rw [bo 0 (by decide) (by decide), bo 1 (by decide) (by decide), bo 2 (by decide) (by decide), bo 3 (by decide) (by decide)]
    exact Xg.k KS (by decide)
  · rw [bo 0 (by decide) (by decide), bo 6 (by decide) (by decide), bo 7 (by decide) (by decide)]
    exact N'.k KS (by decide)
  · rw [bo 0 (by decide) (by decide)]
    exact T'.k KS N'.1.2.1 N'.1.1 (by decide)
  · rw [bo 1 (by decide) (by decide), bo 8 (by decide) (by decide), bo 9 (by decide) (by decide), bo 10 (by decide) (by decide), bo 11 (by decide) (by decide), bo 12 (by decide) (by decide)]
    refine (F3.cg (fun b hb => ?_) (fun b hb => ?_)).cg2 (fun b hb => ?_)
    · show ups (fun b => ck ca (s.cont b).1) f ((L.length + 1) / 2) (fun _ => some k) b = ck (va_up ca s.nxt k) (ups s.cont f ((L.length + 1) / 2) (fun b => (s.nxt, b - f)) b).1
      unfold ups
      by_cases c : f ≤ b ∧ b < f + (L.length + 1) / 2
      · rw [if_pos c, if_pos c, ck_s (by have := I.2.1; show s.nxt ≠ 0; omega)]
        exact congrArg some up_n.symm
      · rw [if_neg c, if_neg c, ck_up (by have := (ids b hb).1; omega)]
    · show ck ca (s.sett b).1 = ck (va_up ca s.nxt k) (s.sett b).1
      rw [ck_up (by have := (ids b hb).2; omega)]
    · show ups (fun b => decide (b ∈ s.pend)) f ((L.length + 1) / 2) (fun _ => true) b = decide (b ∈ s.pend ++ (List.range ((L.length + 1) / 2)).map (f + ·))
      unfold ups
      by_cases c : f ≤ b ∧ b < f + (L.length + 1) / 2
      · rw [if_pos c]
        exact (decide_eq_true (List.mem_append.mpr (Or.inr (List.mem_map.mpr ⟨b - f, List.mem_range.mpr (by omega), by omega⟩)))).symm
      · rw [if_neg c]
        refine decide_eq_decide.mpr ⟨fun z => List.mem_append.mpr (Or.inl z), fun z => ?_⟩
        rcases List.mem_append.mp z with q | q
        · exact q
        · obtain ⟨j, j1, j2⟩ := List.mem_map.mp q
          rw [List.mem_range] at j1
          omega
  · rw [bo 2 (by decide) (by decide), b4]
    have : (s.chs ++ [s.nxt]).map (va_up ca s.nxt k) = s.chs.map ca ++ [k] := by
      rw [List.map_append, ← mapc]
      show _ ++ [va_up ca s.nxt k s.nxt] = _
      rw [up_n]
    show AL E.1 g3 (B 2) ec' ((s.chs ++ [s.nxt]).map (va_up ca s.nxt k))
    rw [this]
    exact L2.ext r1g2 sv3
  · rw [bo 3 (by decide) (by decide), b5]
    refine (V1.exO r1g1 (Ov.o O2) ?_ ?_ (fun a ha => ?_)).ext r1g2 sv3
    · simp only [List.mem_cons, List.not_mem_nil, or_false]
      rintro (z | z)
      · exact n1 z.symm
      · rw [z] at bv9; omega
    · simp only [List.mem_cons, List.not_mem_nil, or_false]
      rintro (z | z)
      · rw [z] at bv; omega
      · exact ne' z.symm
    · simp only [List.mem_cons, List.not_mem_nil, or_false] at ha
      rcases ha with z | z <;> rw [z] <;> omega
  · rw [(KS.I Xg.2.1 Xg.1 (by decide)).2]; exact la'
  · rw [(KS.I Xg.2.1 Xg.1 (by decide)).1, (Kg.I X.2.1 X.1 (by decide)).1]; exact h5
  · have z : hpI g3 x 6 = hpI g1 x 6 := by rw [(K3.I X2.2.1 X2.1 (by decide)).1, (K2.I X1.2.1 X1.1 (by decide)).1]
    rw [z, hg1]; exact I_same
  · rw [(KS.I Xg.2.1 Xg.1 (by decide)).1, (Kg.I X.2.1 X.1 (by decide)).1]; exact l2
  · by_cases c : q / 32 = s.nxt
    · rw [if_pos c]; exact Nat.zero_le _
    · rw [if_neg c]
      exact l4 q ⟨hq.1, by have := hq.2.1; have h' : q / 32 < s.nxt + 1 := this; omega, by have := hq.2.2; rwa [show (sWrite s L f vers lat now).np (q / 32) = s.np (q / 32) from up_o c] at this⟩ |>.1
  · rw [bo 2 (by decide) (by decide), bo 3 (by decide) (by decide)]; exact n1
  · rw [b4, b5]
    rcases ee with z | ⟨z, -⟩
    · rw [z]; exact ne'
    · omega
  · rw [(KS.2.2.1 k kN).1]; exact kT
  · rw [(KS.I kN kT (by decide)).1]; exact W.1.2.2.1
theorem WP.k {h h' : Hp} {w : Wl} {id k f pw : Nat} {pa pn : Nat → Nat} {L : List Pg} (W : WP h id k f pw pa L pn) (K : Keep w h h') (q1 : okX w = true) (q2 : (nF w 2 3 && (nF w 3 2 && (nF w 4 2 && nF w 6 2))) = true) : WP h' id k f pw pa L pn := by
  simp only [Bool.and_eq_true] at q2
  have sx := Sx.k K q1
  obtain ⟨KO', w1, w2, w3⟩ := W
  obtain ⟨u1, u2, u3⟩ := sx.2 _ KO'.2.2.2.2.2.2.2
  refine ⟨KO'.ext sx, by rw [(K.I KO'.2.1 KO'.1 q2.1).1]; exact w1, w2, fun i pg hi => ?_⟩
  obtain ⟨p1, p2, p3, p4, p5, p6, p7⟩ := w3 i pg hi
  obtain ⟨k1, k2, k3⟩ := p6.kk
  obtain ⟨t1, t2, t3⟩ := sx.2 _ p2
  obtain ⟨v1, v2, v3⟩ := sx.2 _ k3
  have g : ∀ j, j ≠ 2 → hpI h' (pn i) j = hpI h (pn i) j ∧ hpR h' (pn i) j = hpR h (pn i) j := fun j hj => t3 j (Or.inr (Or.inl ⟨k1, hj⟩))
  have g2 := fun z => v3 z (Or.inr (Or.inr (by omega)))
  have mk2 : hpI h' (pn i) 2 = hpI h (pn i) 2 := by
    rcases k1 with z | z | z
    · exact (K.I p2 z q2.2.1).1
    · exact (K.I p2 z q2.2.2.1).1
    · exact (K.I p2 z q2.2.2.2).1
  refine ⟨?_, Nat.lt_of_lt_of_le p2 K.1, by rw [(g 0 (by decide)).2]; exact p3, by rw [(g 1 (by decide)).1]; exact p4, by rw [mk2]; exact p5, p6.at K.1 t1 v1 v2 (fun j hj => g j (by omega)) ⟨funext fun z => (g2 z).1, funext fun z => (g2 z).2⟩ (fun _ _ _ _ => rfl), p7⟩
  rw [(u3 i (Or.inr (Or.inr (by have := KO'.2.2.2.2.2.1; omega)))).2]; exact p1
theorem x_commitS {E : Nat × Nat} {h : Hp} {x : Nat} {B : Nat → Nat} {va : List Nat} {ca ka pa : Nat → Nat} {rd base gen f : Nat} {s : Ab} (R : RX E.1 h x B va ca ka pa rd s) (I : Ivt s base gen) (ht : tcd s.tl s.tm = true) (hf : RW s.free ((pw s.now s.tl s.tm + 1) / 2) (some f)) (hn : s.nxt + 1 < 2 ^ 14) (hl : s.lat + 1 < 2 ^ 20) (hr : rd + 1 < 2 ^ 20) :
    ∃ h' B' va' ca' ka' pa', f_X_commit E x h = some (nI (s.lat + 1), h') ∧ RX E.1 h' x B' va' ca' ka' pa' (rd + 1) (sVers (sCommit s f) (dVers (sCommit s f))) ∧ hpN h ≤ hpN h' ∧ hpN h' ≤ hpN h + 60 ∧ hpS h' ≤ hpS h + 600 := by
  have I' := I.commit hf hn hl
  have R0 := R
  have len : (cmL s).length = pw s.now s.tl s.tm := wal_len _ _ _ _ _ _ _
  have p21 := pw_le s.now s.tl s.tm
  have p1 : 1 ≤ pw s.now s.tl s.tm := by unfold pw; omega
  have i5 := I.2.2.2.2.2.1
  have S := I.1
  obtain ⟨il, al, tt, ha, htt, te, x4, ile, hlast⟩ := R.lat i5
  obtain ⟨r1, X, ⟨N, T⟩, F, Lc, ⟨V, la⟩, ⟨h5, h6⟩, G, Q, n1, n2⟩ := R
  obtain ⟨o1, o2, o3, o4, o5⟩ := V.2.2 il al tt ha htt
  have lm : tt.2.2 = lmk s.vers := by unfold lmk; rw [hlast]; rfl
  rw [lm] at o4
  rw [te] at o3
  have p5 := N.1.1
  have pN := N.1.2.1
  have e0 := p_isTouched p5 T
  rw [ht] at e0
  have ep := p_pages N T
  have eb := blocks_for (np := pw s.now s.tl s.tm) (by omega) h
  obtain ⟨o, rw1, er⟩ := x_room (n := (pw s.now s.tl s.tm + 1) / 2) F.1 F.2.2.2.1 (by omega) (by omega)
  have eo := rw1.uniq hf
  subst eo
  dsimp only at er
  -- the chunk
  obtain ⟨k, hk⟩ : ∃ k, k = hpN h := ⟨_, rfl⟩
  obtain ⟨h1, i1, oo1, m1, s1, k1, k2, k3, k4, k5, k6, k7, k8⟩ := k_init (h := h) (n := pw s.now s.tl s.tm) (nI s.nxt) (nI f) (by omega)
  rw [← hk] at i1 m1 k1 k2 k3 k4 k5 k6 k7 k8
  have W1 : WP h1 s.nxt k f (pw s.now s.tl s.tm) pa [] (fun _ => 0) := ⟨⟨k1, by omega, k2, k3, k4, k7, k8, by omega⟩, by rw [k5]; rfl, Nat.zero_le _, fun i pg hi => by cases hi⟩
  obtain ⟨h2, pn, e2, W2, oo2, m2, s2, r4⟩ := p_writeTouched (ver := s.lat + 1) oo1 (by omega) N T G S (fun z => ⟨(I.bm z).1, (I.bm z).2.1⟩) W1 I.2.1
  have o02 : Only [] h h2 := oo1.tr oo2 (fun z hz hlt => by
    simp only [List.mem_cons, List.not_mem_nil, or_false] at hz
    omega)
  -- present
  have N2 := N.o o02 (fun z hz => by cases hz)
  obtain ⟨e3, T3⟩ := p_forget (h := h2) N2.1.1
  obtain ⟨h3, hh3⟩ : ∃ h3, h3 = wI (wI h2 (B 0) 2 0) (B 0) 3 0 := ⟨_, rfl⟩
  rw [← hh3] at e3 T3
  have K3 := fr_P_forgetTouched (C := cT) (mi := 0) e3
  have m3 : hpN h3 = hpN h2 ∧ hpS h3 = hpS h2 := by rw [hh3]; exact ⟨rfl, rfl⟩
  -- the version
  obtain ⟨vn, hvn⟩ : ∃ vn, vn = hpN h3 := ⟨_, rfl⟩
  obtain ⟨h4, e4, o34, m4, s4, v1, v2, v3, v4⟩ := v_init h3 (s.lat + 1) (some (pn (pw s.now s.tl s.tm - 1)))
  rw [← hvn] at e4 m4 v1 v2 v3 v4
  have K03 : Keep ([(5, 2), (5, 3)], []) h h3 := o02.kp.trans (K3.mono (by decide) (by decide))
  have K04 : Keep ([(5, 2), (5, 3)], []) h h4 := K03.trans o34.kp
  have X4 := X.k K04 (by decide)
  obtain ⟨h5', hh5⟩ : ∃ h5', h5' = wR h4 x 4 (some vn) := ⟨_, rfl⟩
  have K45 : Keep ([(0, 4)], []) h4 h5' := kw_R hh5 X4.1 (Or.inl (by decide))
  have m5 : hpN h5' = hpN h4 ∧ hpS h5' = hpS h4 := by rw [hh5]; exact ⟨rfl, rfl⟩
  have sv5 : Sv h h5' := (Sv.k K04 (by decide)).trans (Sv.k K45 (by decide))
  have V5 := V.ext r1 sv5
  have r15 : E.1 < hpN h5' := Nat.lt_of_lt_of_le r1 sv5.1
  have v33 : (cmV s).length ≤ 33 := I'.vers_le
  have vl : (cmV s).length = s.vers.length + 1 := by unfold cmV; rw [List.length_append]; rfl
  have v15 : hpT h5' vn = 7 := by rw [hh5]; exact v1
  obtain ⟨h6', ev', e6, L6, O6, ee, m6, s6⟩ := al_add (a := vn) V5.1 (by rw [V.2.1]; omega) ⟨by rw [v15]; decide, by rw [m5.1, m4, hvn]; omega⟩
  have K6 := fr_A_add1 (C := cTe E.1) (mi := E.2) e6
  have K26 : Keep ([(0, 4), (5, 2), (5, 3), (7, 0), (7, 1), (7, 2), (9, 0), (9, 1), (9, 2)], [66, 67, 73, 74]) h2 h6' := (((K3.mono (by decide) (by decide)).trans o34.kp).trans (K45.mono (by decide) (by decide))).trans (K6.mono (by decide) (by decide))
  have Kg : Keep ([(0, 4), (5, 2), (5, 3), (7, 0), (7, 1), (7, 2), (9, 0), (9, 1), (9, 2)], [66, 67, 73, 74]) h h6' := o02.kp.trans K26
  have K36 : Keep ([(0, 4), (9, 0), (9, 1), (9, 2)], [73, 74]) h3 h6' := (o34.kp.trans (K45.mono (by decide) (by decide))).trans (K6.mono (by decide) (by decide))
  have N3 := N2.k K3 (by decide)
  have W6 : WP h6' s.nxt k f (cmL s).length pa (cmL s) pn := by
    rw [len]; exact W2.k K26 (by decide) (by decide)
  have r46 : hpR h6' k 4 = some (pn ((cmL s).length - 1)) := by
    rw [(K26.I W2.1.2.1 W2.1.1 (by decide)).2, len]; exact r4
  have bv := V5.1.ek
  have bv9 := V5.1.1
  have bl := Lc.ek
  have B4 : B 4 < hpN h := by
    rcases Lc.2.2.2.2.2.2 with q | q
    · rw [q.1]; exact r1
    · exact q.2.1
  have B5 : B 5 < hpN h := by
    rcases V.1.2.2.2.2.2.2 with q | q
    · rw [q.1]; exact r1
    · exact q.2.1
  have bigK : 32 * s.nxt + (cmL s).length - 1 ≠ 0 := by have := I.2.1; omega
  have hvO : ∀ (i a : Nat) (t : Vt), (va ++ [vn])[i]? = some a → (cmV s)[i]? = some t → VO h6' a t (ck (paN pa s.nxt pn)) ∧ (some a = some vn ↔ t.1 = s.lat + 1) := fun i a t hi hti => by
    unfold cmV at hti
    rcases appT_at hi with ⟨z1, z2⟩ | ⟨z1, z2⟩
    · rcases appT_at hti with ⟨y1, y2⟩ | ⟨y1, y2⟩
      · have O := (V5.2.2 i a t z2 y2).exO (Ov.o O6) (by
          simp only [List.mem_cons, List.not_mem_nil, or_false]
          have := (V5.2.2 i a t z2 y2).1
          rintro (q | q) <;> rw [q] at this <;> omega)
        have al := (V.2.2 i a t z2 y2).2.1
        refine ⟨⟨O.1, O.2.1, O.2.2.1, ?_, O.2.2.2.2⟩, ⟨fun q => ?_, fun q => ?_⟩⟩
        · rw [O.2.2.2.1]
          refine (ck_paO fun q => ?_).symm
          have := (i5.2.2.2.2 t (List.mem_of_getElem? y2) q).1.2.1
          omega
        · exfalso
          have := Option.some.inj q
          have := o02.1
          omega
        · exfalso
          have := lat_le i5 t (List.mem_of_getElem? y2)
          omega
      · exfalso
        have := V.2.1
        omega
    · rcases appT_at hti with ⟨y1, y2⟩ | ⟨y1, y2⟩
      · exfalso
        have := V.2.1
        omega
      · rw [z2, y2]
        have nl : vn ∉ [B 3, B 5] := by
          simp only [List.mem_cons, List.not_mem_nil, or_false]
          have := o02.1
          have b3 := V.1.2.1
          omega
        have vN : vn < hpN h5' := by rw [m5.1, m4, hvn]; omega
        obtain ⟨c1, c2, c3, c4⟩ := O6.at vN nl
        refine ⟨⟨by rw [c1]; exact v15, Nat.lt_of_lt_of_le vN O6.1, ?_, ?_, ?_⟩, ⟨fun _ => rfl, fun _ => rfl⟩⟩
        · rw [c3, hh5]; exact v2
        · rw [c4, hh5, R_wRk (by decide), v3]
          show some _ = ck (paN pa s.nxt pn) (32 * s.nxt + (cmL s).length - 1)
          rw [ck_s bigK, show 32 * s.nxt + (cmL s).length - 1 = 32 * s.nxt + (pw s.now s.tl s.tm - 1) by omega, paN_n (by omega)]
        · rw [c3, hh5]; exact v4
  have x46 : hpR h6' x 4 = some vn := by
    rw [(K6.I (a := x) (κ := 0) (by rw [m5.1]; exact X4.2.1) (by rw [(K45.2.2.1 x X4.2.1).1]; exact X4.1) (by decide)).2, hh5, R_same]
  obtain ⟨h7, B', e7, R7, a7, -, -, m7, m7', s7⟩ := x_newChunk (lat := s.lat + 1) (now := s.now) (va' := va ++ [vn]) (vers := cmV s) (ev' := ev') R0 I (by have := I'.chs_le; have z : (s.chs ++ [s.nxt]).length ≤ 32 := this; rw [List.length_append] at z; exact z) (by have := I'.pend_le; have z : (s.pend ++ (List.range (((cmL s).length + 1) / 2)).map (f + ·)).length ≤ 32 := this; rw [List.length_append, List.length_map, List.length_range] at z; exact z) (by omega) (by omega) (by rw [len]; exact hf.1) (by omega) W6 r46 Kg (N3.k K36 (by decide)) (T3.k K36 N3.1.2.1 N3.1.1 (by decide)) ⟨L6, by rw [List.length_append, vl, V.2.1]; rfl, fun i a t hi hti => (hvO i a t hi hti).1⟩ (fun i a t hi hti => by rw [x46]; exact (hvO i a t hi hti).2) (Lc.ext r1 sv5 |>.exO r15 (Ov.o O6) (by
    simp only [List.mem_cons, List.not_mem_nil, or_false]
    rintro (z | z)
    · exact n1 z
    · have a := (Lc.ext r1 sv5).1
      rw [z] at a; omega) (by
    simp only [List.mem_cons, List.not_mem_nil, or_false]
    rintro (z | z)
    · have a := (Lc.ext r1 sv5).ek
      rw [z] at a; omega
    · exact n2 z)) (by
    rcases ee with z | ⟨z, -⟩
    · rw [z]; exact n2
    · have := sv5.1; omega) (by
    rcases ee with z | ⟨-, z⟩
    · rw [z]; have := sv5.1; have := O6.1; omega
    · exact z)
  obtain ⟨h8, va8, e8, R8, a8, m8, s8⟩ := x_drop R7 I'.1 I'.2.2.2.2.2.1 hr
  have vN6 : vn < hpN h6' := by
    have vN : vn < hpN h5' := by rw [m5.1, m4, hvn]; omega
    exact Nat.lt_of_lt_of_le vN O6.1
  refine ⟨h8, B', va8, _, _, _, ?_, R8, ?_, ?_, ?_⟩
  · have f0 : (0 : Int32) ≤ nI f := nI_le (a := 0) (Nat.zero_le _) (by have := hf.1; omega)
    have X0n : XO (nw h 2 0 5) x (B 0) (B 1) (B 2) (B 3) := X.k (w := ([], [])) (kw_N rfl) (by decide)
    have x6n : hpI (nw h 2 0 5) x 6 = nI s.nxt := by rw [I_nwo X.2.1]; exact h6
    have X1 := X.k (w := ([], [])) oo1.kp (by decide)
    have at1 := oo1.at X.2.1 List.not_mem_nil
    have al1 := oo1.at o2 List.not_mem_nil
    have p1' := oo1.at pN List.not_mem_nil
    have X2 := X.k (w := ([], [])) o02.kp (by decide)
    have p2' := o02.at pN List.not_mem_nil
    have X3 := X.k K03 (by decide)
    have Kn : Keep ([(5, 2), (5, 3)], []) h (nw h3 7 0 3) := K03.trans (kw_N rfl)
    have X3n := X.k Kn (by decide)
    have x43 : hpR (nw h3 7 0 3) x 4 = some al := by rw [(Kn.I X.2.1 X.1 (by decide)).2]; exact x4
    have al3 : hpT (nw h3 7 0 3) al = 7 := (Kn.2.2.1 al o2).1.trans o1
    have al30 : hpI (nw h3 7 0 3) al 0 = nI s.lat := by rw [(Kn.I o2 o1 (by decide)).1]; exact o3
    have kN3 : k < hpN h3 := by rw [m3.1]; exact W2.1.2.1
    have kT3 : hpT (nw h3 7 0 3) k = 2 := by
      rw [T_nwo kN3, (K3.2.2.1 k W2.1.2.1).1]; exact W2.1.1
    have k43 : hpR (nw h3 7 0 3) k 4 = some (pn (pw s.now s.tl s.tm - 1)) := by
      rw [R_nwo kN3, (K3.I W2.1.2.1 W2.1.1 (by decide)).2]; exact r4
    have X5 : XO h5' x (B 0) (B 1) (B 2) (B 3) := X4.k K45 (by decide)
    have x45 : hpR h5' x 4 = some vn := by rw [hh5]; exact R_same
    have X6 := X.k Kg (by decide)
    have x48 : hpR h8 x 4 = some vn := by
      have z := (fr_X_dropUnkept (C := cT) (mi := 0) e8).I R7.2.1.2.1 R7.2.1.1 (k := 4) (by decide)
      have z7 := (fr_X_writeToFile (C := cTe E.1) (mi := E.2) e7).I X6.2.1 X6.1 (k := 4) (by decide)
      rw [z.2, z7.2]; exact x46
    have vT6 : hpT h6' vn = 7 := by
      have vN : vn < hpN h5' := by rw [m5.1, m4, hvn]; omega
      rw [(O6.2.2.1 vn vN).1]; exact v15
    have vI6 : hpI h6' vn 0 = nI (s.lat + 1) := by
      have q := hvO (va ++ [vn]).length.pred vn (s.lat + 1, 0, 32 * s.nxt + (cmL s).length - 1) (by
        rw [List.length_append]
        show (va ++ [vn])[va.length]? = _
        rw [List.getElem?_append_right (Nat.le_refl _), Nat.sub_self]; rfl) (by
        rw [List.length_append]
        show (s.vers ++ [_])[va.length]? = _
        rw [V.2.1, List.getElem?_append_right (Nat.le_refl _), Nat.sub_self]; rfl)
      exact q.1.2.2.1
    have K7 := fr_X_writeToFile (C := cTe E.1) (mi := E.2) e7
    have K8 := fr_X_dropUnkept (C := cT) (mi := 0) e8
    have vT7 : hpT h7 vn = 7 := (K7.2.2.1 vn vN6).1.trans vT6
    have vN7 : vn < hpN h7 := Nat.lt_of_lt_of_le vN6 K7.1
    have vT8 : hpT h8 vn = 7 := (K8.2.2.1 vn vN7).1.trans vT7
    have vI8 : hpI h8 vn 0 = nI (s.lat + 1) := by rw [a8 vn vT7 vN7, a7 vn vT6 vN6]; exact vI6
    unfold f_X_commit
    rw [gd_t (isK_of X.1), dr_s X.2.2.1, gd_t (isK_of p5), cl_s e0, if_neg (by decide), gd_t (isK_of X.1), dr_s X.2.2.1, gd_t (isK_of p5), cl_s ep, gd_t (isK_of X.1), cl_s eb, dr_s X.2.2.2.1, gd_t (isK_of F.1.1), cl_s er, if_pos f0, nm_v, gd_t (isK_of X0n.1), x6n, ← hk, cv_s i1, gd_t (isK_of X1.1), at1.2.2.2, dr_s x4, gd_t (isK_of (al1.1.trans o1)), dr_s X.2.2.1, gd_t (isK_of (p1'.1.trans p5)), al1.2.2.1, o3, nI_s, al1.2.2.2, o4, cv_s e2, gd_t (isK_of X2.1), dr_s X2.2.2.1, gd_t (isK_of (p2'.1.trans p5)), cv_s e3, nm_v, gd_t (isK_of X3n.1), dr_s x43, gd_t (isK_of al3), gd_t (isK_of kT3), al30, nI_s, k43, ← hvn, cv_s e4, gd_t (isK_of X4.1), nm_v, ← hh5, dr_s X5.2.2.2.2.2, gd_t (isK_of bv9), x45, cl_s e6, gd_t (isK_of X6.1), cv_s e7, gd_t (isK_of R7.2.1.1), cv_s e8, gd_t (isK_of R8.2.1.1), dr_s x48, gd_t (isK_of vT8), vI8]
  · have := o02.1
    have := sv5.1
    omega
  · omega
  · omega

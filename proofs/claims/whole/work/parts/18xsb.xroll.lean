theorem x_above {e0 : Nat} {h : Hp} {x p F cs vs ev i : Nat} {va : List Nat} {vers : List Vt} {pk : Nat → Option Nat} {t : Vt} (X : XO h x p F cs vs) (V : XV e0 h vs ev va vers pk) (inc : ∀ (i j : Nat) (t u : Vt), vers[i]? = some t → vers[j]? = some u → i < j → t.1 < u.1) (bnd : ∀ (i : Nat) (t : Vt), vers[i]? = some t → t.1 < 2 ^ 20) (ht : vers[i]? = some t) :
    ∃ h', f_X_dropAbove x (nI t.1) h = some h' ∧ XV e0 h' vs ev (va.take (i + 1)) (vers.take (i + 1)) pk ∧ Only [vs, ev] h h' ∧ hpN h' = hpN h ∧ hpS h' = hpS h := by
  obtain ⟨L0, hlen, hV⟩ := V
  have h60 := L0.2.2.2.2.2.1
  have il : i < vers.length := (List.getElem?_eq_some_iff.mp ht).1
  have hxv : x ≠ vs := ne_T (h := h) (by rw [X.1, L0.1]; decide)
  have hxe : x ≠ ev := ne_T (h := h) (by have := L0.ek; rw [X.1]; omega)
  have key : ∃ r, l_X_dropAbove_10 x (nI t.1) (nI va.length - 1, h) = some r ∧ (AL e0 r vs ev (va.take (i + 1)) ∧ Only [vs, ev] h r ∧ hpN r = hpN h ∧ hpS r = hpS h) := by
    refine lp_up (b := fun s => b_X_dropAbove_10 x (nI t.1) s.1 s.2) (fun j s => s.1 = nI (va.length - j) - 1 ∧ AL e0 s.2 vs ev (va.take (max (va.length - j) (i + 1))) ∧ Only [vs, ev] h s.2 ∧ hpN s.2 = hpN h ∧ hpS s.2 = hpS h) _ va.length (by omega) ⟨rfl, ?_, Only.refl _ _, rfl, rfl⟩ (fun j s hj hs => Or.inl ?_) (fun s hs => ⟨s.2, ?_, ?_, hs.2.2⟩)
    · dsimp only
      rw [show max (va.length - 0) (i + 1) = va.length by omega, List.take_length]; exact L0
    · obtain ⟨a, r⟩ := s
      obtain ⟨b1, b2, b3, b4⟩ := hs
      dsimp only at b1 b2 b3 b4
      obtain ⟨k, hk⟩ : ∃ k, va.length - j = k + 1 := ⟨va.length - j - 1, by omega⟩
      rw [hk] at b1 b2
      rw [nI_pred] at b1
      subst b1
      have hk2 : va.length - (j + 1) = k := by omega
      obtain ⟨ad, ha⟩ : ∃ ad, va[k]? = some ad := ⟨_, List.getElem?_eq_getElem (by omega)⟩
      obtain ⟨u, hu⟩ : ∃ u, vers[k]? = some u := ⟨_, List.getElem?_eq_getElem (by omega)⟩
      have O' := (hV k ad u ha hu).keep b3 L0.1 L0.ek
      have x4 := b3.at2 X.2.1 hxv hxe
      have ub := bnd k u hu
      have tb := bnd i t ht
      have kl : k < (va.take (max (k + 1) (i + 1))).length := by rw [List.length_take]; omega
      have gt := al_get b2 kl
      rw [List.getElem?_take, if_pos (by omega), ha] at gt
      have x1 : hpT r x = 0 := by rw [x4.1]; exact X.1
      have x6 : hpR r x 3 = some vs := by rw [x4.2.2.2]; exact X.2.2.2.2.2
      rw [hk2]
      by_cases c : k ≤ i
      · have le : u.1 ≤ t.1 := by
          by_cases d : k = i
          · subst d; rw [ht] at hu; cases hu; exact Nat.le_refl _
          · exact Nat.le_of_lt (inc k i u t hu ht (by omega))
        refine ⟨(nI k - 1, r), ?_, rfl, ?_, b3, b4⟩
        · show b_X_dropAbove_10 x (nI t.1) (nI k) r = _
          unfold b_X_dropAbove_10
          simp (disch := omega) only [gd_T, dr_S, nm_v, cl_S, cv_S, bd_S, lk_L, lk_R, zbw_b, isK_e, isPg_3, isPg_4, isPg_6, asV_n, beq_self_eq_true, inb_N, inb_0, le_T, le_F, lt_T, lt_F, eq_F, le_0T, lt_0F, le_0F, eq_0F, nI_1, nI_add, pk_mul, nI_clamp, cl_0, if_true, if_false, of_nI, T_wI, L_wI, R_wI, N_wI, S_wI, T_wR, L_wR, I_wR, N_wR, S_wR, I_same, R_same, I_wIn, I_wIk, R_wRn, R_wRk, T_nwo, T_nwn, L_nwo, L_nwn, I_nwo, I_nwn, R_nwo, R_nwn, N_nw, S_nw, nar_1, nar_0, nar_01, b01_t0, b01_f0, b01_t1, b01_f1, ne_sn, eq_sn, sn_inj, x1, x6, b2.1, gt, caB_s O'.1, O'.1, O'.2.2.1, xm1]
        · dsimp only
          rw [show max k (i + 1) = max (k + 1) (i + 1) by omega]; exact b2
      · have lt : t.1 < u.1 := inc i k t u ht hu (by omega)
        obtain ⟨r', f1, f2, f3, f4, f5⟩ := al_remove b2 kl
        rw [List.getElem?_take, if_pos (by omega), ha] at f1
        refine ⟨(nI k - 1, r'), ?_, rfl, ?_, b3.trans f3, f4.trans b4.1, f5.trans b4.2⟩
        · show b_X_dropAbove_10 x (nI t.1) (nI k) r = _
          unfold b_X_dropAbove_10
          simp (disch := omega) only [gd_T, dr_S, nm_v, cl_S, cv_S, bd_S, lk_L, lk_R, zbw_b, isK_e, isPg_3, isPg_4, isPg_6, asV_n, beq_self_eq_true, inb_N, inb_0, le_T, le_F, lt_T, lt_F, eq_F, le_0T, lt_0F, le_0F, eq_0F, nI_1, nI_add, pk_mul, nI_clamp, cl_0, if_true, if_false, of_nI, T_wI, L_wI, R_wI, N_wI, S_wI, T_wR, L_wR, I_wR, N_wR, S_wR, I_same, R_same, I_wIn, I_wIk, R_wRn, R_wRk, T_nwo, T_nwn, L_nwo, L_nwn, I_nwo, I_nwn, R_nwo, R_nwn, N_nw, S_nw, nar_1, nar_0, nar_01, b01_t0, b01_f0, b01_t1, b01_f1, ne_sn, eq_sn, sn_inj, x1, x6, b2.1, gt, caB_s O'.1, O'.1, O'.2.2.1, f1, xm1]
        · dsimp only
          rw [show max k (i + 1) = k by omega]
          rw [show max (k + 1) (i + 1) = k + 1 by omega] at f2
          have e := er_s (S := []) ha
          rw [List.append_nil, List.append_nil] at e
          rw [e] at f2; exact f2
    · obtain ⟨a, r⟩ := s
      obtain ⟨b1, -⟩ := hs
      dsimp only at b1
      rw [Nat.sub_self] at b1
      subst b1
      show b_X_dropAbove_10 x (nI t.1) (nI 0 - 1) r = _
      unfold b_X_dropAbove_10
      rw [if_pos (by decide)]
    · have := hs.2.1
      rw [show max (va.length - va.length) (i + 1) = i + 1 by omega] at this
      exact this
  obtain ⟨r, e, q1, q2, q3⟩ := key
  refine ⟨r, ?_, ⟨q1, by rw [List.length_take, List.length_take, hlen], fun j a u hj hu => ?_⟩, q2, q3⟩
  · have sz := al_size L0
    unfold f_X_dropAbove
    rw [gd_t (isK_of X.1), dr_s X.2.2.2.2.2, gd_t (isK_of L0.1), cl_s sz, bd_s e]
  · have jl := (List.getElem?_eq_some_iff.mp hj).1
    rw [List.length_take] at jl
    rw [List.getElem?_take, if_pos (by omega)] at hj hu
    exact (hV j a u hj hu).keep q2 L0.1 L0.ek
theorem RX0.versO {e0 : Nat} {h h' : Hp} {x : Nat} {B : Nat → Nat} {va va' : List Nat} {ca ka pa : Nat → Nat} {rd : Nat} {s : Ab} {vers : List Vt} (R : RX0 e0 h x B va ca ka pa rd s) (O : Only [B 3, B 5] h h') (K : Keep W_X_dropAbove h h') (V' : XV e0 h' (B 3) (B 5) va' vers (ck pa)) (la' : ∀ (i a : Nat) (t : Vt), va'[i]? = some a → vers[i]? = some t → (some a = hpR h x 4 ↔ t.1 = s.lat)) : RX0 e0 h' x B va' ca ka pa rd (sVers s vers) := by
  obtain ⟨r1, X, ⟨N, T⟩, F, L, ⟨V, la⟩, ⟨h5, h6⟩, G, ⟨l1, l2, mr, l3, l4⟩, n1, n2⟩ := R
  have b4 := L.ek
  refine ⟨Nat.lt_of_lt_of_le r1 K.1, X.k K (by decide), ⟨N.k K (by decide), T.k K N.1.2.1 N.1.1 (by decide)⟩, F.k K (by decide), L.exO r1 (Ov.o O) ?_ ?_, ⟨V', ?_⟩, ⟨?_, ?_⟩, G.ext (Sx.k K (by decide)), ⟨l1, ?_, mr, l3.k G K (by decide), l4⟩, n1, n2⟩
  · simp only [List.mem_cons, List.not_mem_nil, or_false]
    rintro (z | z)
    · exact n1 z
    · have a := V.1.ek
      have := L.1
      rw [z] at this
      omega
  · simp only [List.mem_cons, List.not_mem_nil, or_false]
    rintro (z | z)
    · have := V.1.1
      rw [z] at b4; omega
    · exact n2 z
  · rw [(K.I X.2.1 X.1 (by decide)).2]; exact la'
  · rw [(K.I X.2.1 X.1 (by decide)).1]; exact h5
  · rw [(K.I X.2.1 X.1 (by decide)).1]; exact h6
  · rw [(K.I X.2.1 X.1 (by decide)).1]; exact l2
theorem x_copy {hB h : Hp} {a id : Nat} {t : Vt} {ca ka pa pn : Nat → Nat} {st : Nat → Pg} {fs np : Nat → Nat} (oB : Only [] hB h) (O : VO hB a t (ck pa)) (G : XG hB ca ka pa st fs np id) (S : SW st fs np id) (hb : t.2.2 ≠ 0 → vk np id t.2.2 ∧ kd st t.2.2 = 2) :
    ∃ h', f_X_copyOf (some a) h = some (some (hpN h), h') ∧ Only [] h h' ∧ CO h' (hpN h) (paN pa id pn) (cpg st t.2.2 t.1) ∧ hpR h' (hpN h) 0 = none ∧ hpI h' (hpN h) 2 = 0 ∧ hpN h' = hpN h + 2 ∧ hpS h' = hpS h + 9 := by
  obtain ⟨o1, o2, o3, o4, o5⟩ := O
  obtain ⟨a1, a2, a3, a4⟩ := oB.at o2 List.not_mem_nil
  have an : a < hpN h := Nat.lt_of_lt_of_le o2 oB.1
  obtain ⟨g, i1, i2, i3, i4, i5, i6, i7, i8, i9, i10, i11, i12, i13⟩ := e_init h (nI t.1)
  obtain ⟨m, hm⟩ : ∃ m, m = hpN h := ⟨_, rfl⟩
  rw [← hm] at i1 i3 i5 i6 i7 i8 i9 i10 i11 i12 i13 ⊢
  have key : ∃ r, l_X_copyOf_14 (some a) (some m) ((0 : Int32), g) = some r ∧ (Only [] h r ∧ (hpT r m = 4 ∧ hpR r m 0 = none ∧ hpI r m 2 = 0 ∧ hpR r m 4 = some (m + 1) ∧ hpI r m 3 = nI t.1 ∧ hpT r (m + 1) = 104 ∧ hpL r (m + 1) = 4 ∧ m + 1 < hpN r) ∧ (∀ i, i < 4 → hpR r (m + 1) i = ck pa (if t.2.2 = 0 then 0 else ld st t.2.2 i)) ∧ hpN r = hpN h + 2 ∧ hpS r = hpS h + 9) := by
    by_cases c : t.2.2 = 0
    · have a1' : hpR g a 1 = none := by rw [(i2.at an List.not_mem_nil).2.2.2, a4, o4, c, ck_0]
      have aT : hpT g a = 7 := by rw [(i2.at an List.not_mem_nil).1, a1]; exact o1
      have eb : b_X_copyOf_14 (some a) (some m) (0 : Int32) g = some (.inr g) := by
        unfold b_X_copyOf_14
        rw [if_neg (by decide), dr_s rfl, gd_t (isK_of aT), if_pos a1']
      refine ⟨g, ?_, i2, ⟨i5, i6, i8, i9, i10, i11, i12, by omega⟩, fun i _ => by rw [if_pos c, ck_0]; exact i13 i, by omega, by omega⟩
      have := lp_tr (b := fun s => b_X_copyOf_14 (some a) (some m) s.1 s.2) (fun _ => ((0 : Int32), g)) 0 g (by decide) (fun j hj => absurd hj (Nat.not_lt_zero _)) eb
      exact this
    · obtain ⟨v, k2⟩ := hb c
      refine lp_up (b := fun s => b_X_copyOf_14 (some a) (some m) s.1 s.2) (fun j s => s.1 = nI j ∧ Only [] h s.2 ∧ (hpT s.2 m = 4 ∧ hpR s.2 m 0 = none ∧ hpI s.2 m 2 = 0 ∧ hpR s.2 m 4 = some (m + 1) ∧ hpI s.2 m 3 = nI t.1 ∧ hpT s.2 (m + 1) = 104 ∧ hpL s.2 (m + 1) = 4 ∧ m + 1 < hpN s.2) ∧ (∀ i, i < 4 → hpR s.2 (m + 1) i = if i < j then ck pa (if t.2.2 = 0 then 0 else ld st t.2.2 i) else none) ∧ hpN s.2 = hpN h + 2 ∧ hpS s.2 = hpS h + 9) _ 4 (by decide) ⟨rfl, i2, ⟨i5, i6, i8, i9, i10, i11, i12, by show m + 1 < hpN g; omega⟩, fun i _ => by rw [if_neg (Nat.not_lt_zero _)]; exact i13 i, by show hpN g = _; omega, by show hpS g = _; omega⟩ (fun j s hj hs => Or.inl ?_) (fun s hs => ⟨s.2, ?_, hs.2.1, hs.2.2.1, fun i hi => by have := hs.2.2.2.1 i hi; rw [if_pos hi] at this; exact this, hs.2.2.2.2⟩)
      · obtain ⟨z, r⟩ := s
        obtain ⟨b1, b2, ⟨b3, b4, b5, b6, b7, b8, b9, b10⟩, b11, b12, b13⟩ := hs
        dsimp only at b1 b2 b3 b4 b5 b6 b7 b8 b9 b10 b11 b12 b13
        subst b1
        have oBr : Only [] hB r := oB.tr b2 (fun x hx _ => hx)
        obtain ⟨c1, c2, c3, c4⟩ := oBr.at o2 List.not_mem_nil
        have Gr := G.ext (Sx.o oBr (fun x hx => by cases hx))
        obtain ⟨d1, d2, d3, d4, d5, d6, d7⟩ := (Gr.po v).meta k2
        have aT : hpT r a = 7 := by rw [c1]; exact o1
        have a1' : hpR r a 1 = some (pa t.2.2) := by rw [c4, o4, ck_s c]
        have as : asV r (ck pa (ld st t.2.2 j)) (m + 1) = true := by
          by_cases z : ld st t.2.2 j = 0
          · rw [z, ck_0]; rfl
          · rw [ck_s z]
            obtain ⟨l1, l2, -⟩ := S.root v k2 hj z
            exact asV_rt b8 ((Gr.po l1).root l2).1
        refine ⟨(nI (j + 1), wR r (m + 1) j (ck pa (ld st t.2.2 j))), ?_, rfl, b2.wR (Or.inl (by omega)), ⟨b3, ?_, b5, ?_, b7, b8, b9, b10⟩, fun i hi => ?_, b12, b13⟩
        · show b_X_copyOf_14 (some a) (some m) (nI j) r = _
          unfold b_X_copyOf_14
          simp (disch := omega) only [gd_T, dr_S, nm_v, cl_S, cv_S, bd_S, lk_L, lk_R, zbw_b, isK_e, isPg_3, isPg_4, isPg_6, asV_n, beq_self_eq_true, inb_N, inb_0, le_T, le_F, lt_T, lt_F, eq_F, le_0T, lt_0F, le_0F, eq_0F, nI_1, nI_add, pk_mul, nI_clamp, cl_0, if_true, if_false, of_nI, T_wI, L_wI, R_wI, N_wI, S_wI, T_wR, L_wR, I_wR, N_wR, S_wR, I_same, R_same, I_wIn, I_wIk, R_wRn, R_wRk, T_nwo, T_nwn, L_nwo, L_nwn, I_nwo, I_nwn, R_nwo, R_nwn, N_nw, S_nw, nar_1, nar_0, nar_01, b01_t0, b01_f0, b01_t1, b01_f1, ne_sn, eq_sn, sn_inj, aT, a1', b3, d1, d3, d4, d5, d7 j hj, b6, b8, b9, as]
        · rw [R_wRn (by omega)]; exact b4
        · rw [R_wRn (by omega)]; exact b6
        · dsimp only
          by_cases e : i = j
          · subst e; rw [R_same, if_pos (Nat.lt_succ_self _), if_neg c]
          · rw [R_wRk e, b11 i hi]
            by_cases z : i < j
            · rw [if_pos z, if_pos (show i < j + 1 by omega)]
            · rw [if_neg z, if_neg (show ¬ i < j + 1 by omega)]
      · obtain ⟨z, r⟩ := s
        obtain ⟨b1, -⟩ := hs
        dsimp only at b1
        subst b1
        show b_X_copyOf_14 (some a) (some m) (nI 4) r = _
        unfold b_X_copyOf_14
        simp (disch := omega) only [gd_T, dr_S, nm_v, cl_S, cv_S, bd_S, lk_L, lk_R, zbw_b, isK_e, isPg_3, isPg_4, isPg_6, asV_n, beq_self_eq_true, inb_N, inb_0, le_T, le_F, lt_T, lt_F, eq_F, le_0T, lt_0F, le_0F, eq_0F, nI_1, nI_add, pk_mul, nI_clamp, cl_0, if_true, if_false, of_nI, T_wI, L_wI, R_wI, N_wI, S_wI, T_wR, L_wR, I_wR, N_wR, S_wR, I_same, R_same, I_wIn, I_wIk, R_wRn, R_wRk, T_nwo, T_nwn, L_nwo, L_nwn, I_nwo, I_nwn, R_nwo, R_nwn, N_nw, S_nw, nar_1, nar_0, nar_01, b01_t0, b01_f0, b01_t1, b01_f1, ne_sn, eq_sn, sn_inj]
  obtain ⟨r, e, q1, ⟨q2, q3, q4, q5, q6, q7, q8, q9⟩, q10, q11, q12⟩ := key
  refine ⟨r, ?_, q1, Or.inr (Or.inr ⟨rfl, q2, q6, q5, q7, q8, q9, fun j hj => ?_⟩), q3, q4, by rw [hm]; exact q11, q12⟩
  · have aTn : hpT (nw h 4 0 5) a = 7 := by rw [T_nwo an, a1]; exact o1
    have aIn : hpI (nw h 4 0 5) a 0 = nI t.1 := by rw [I_nwo an, a3]; exact o3
    unfold f_X_copyOf
    rw [nm_v, dr_s rfl, gd_t (isK_of aTn), aIn, ← hm, cv_s i1, bd_s e]
  · rw [q10 j hj]
    show _ = ck (paN pa id pn) (if t.2.2 = 0 then 0 else ld st t.2.2 j)
    refine (ck_paO fun z => ?_).symm
    by_cases c : t.2.2 = 0
    · rw [if_pos c] at z; exact absurd rfl z
    · rw [if_neg c] at z ⊢
      obtain ⟨v, k2⟩ := hb c
      have := (S.root v k2 hj z).2.2.1
      have := v.2.1
      omega

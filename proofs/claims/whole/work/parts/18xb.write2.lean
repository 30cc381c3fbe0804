theorem cn_mono {f : Nat → Bool} {i j : Nat} (h : i ≤ j) : cn f i ≤ cn f j := by
  induction j with
  | zero => rw [show i = 0 by omega]; exact Nat.le_refl _
  | succ j ih =>
    by_cases e : i = j + 1
    · rw [e]; exact Nat.le_refl _
    · exact Nat.le_trans (ih (by omega)) (Nat.le_add_right _ _)
theorem wls_mono {now : Nat → Option Int32} {tl : Nat → Bool} {m i j : Nat} {L : List Pg} (h : i ≤ j) : (wls now tl m L i).length ≤ (wls now tl m L j).length := by
  rw [wls_len, wls_len]
  have := cn_mono (f := nl now tl m) h
  omega
theorem ck_paN {pa pn pn' : Nat → Nat} {id x : Nat} (h : x ≠ 0 → x / 32 = id → pn' (x % 32) = pn (x % 32)) : ck (paN pa id pn') x = ck (paN pa id pn) x := by
  by_cases c : x = 0
  · rw [c, ck_0, ck_0]
  · rw [ck_s c, ck_s c]
    unfold paN
    by_cases e : x / 32 = id
    · rw [if_pos e, if_pos e, h c e]
    · rw [if_neg e, if_neg e]
theorem ck_paO {pa pn : Nat → Nat} {id x : Nat} (h : x ≠ 0 → x / 32 ≠ id) : ck (paN pa id pn) x = ck pa x := by
  by_cases c : x = 0
  · rw [c, ck_0, ck_0]
  · rw [ck_s c, ck_s c, paN_o (h c)]
theorem rld_lt {now : Nat → Option Int32} {tl : Nat → Bool} {st : Nat → Pg} {fs np : Nat → Nat} {bm id m i j : Nat} {L : List Pg} (S : SW st fs np id) (hb : bm ≠ 0 → vk np id bm ∧ kd st bm = 2) (hm : m < 4) (hij : i < j) (hj : j ≤ 4) (hl : (wls now tl m L j).length ≤ 31) (h0 : rld now tl st bm id m L i ≠ 0) (he : rld now tl st bm id m L i / 32 = id) : rld now tl st bm id m L i % 32 < (wls now tl m L j).length := by
  unfold rld at h0 he ⊢
  cases c1 : tl (4 * m + i) with
  | true =>
    rw [c1] at h0 he
    cases c2 : lh now m i with
    | true =>
      rw [c2] at h0 he
      have h1 : (wls now tl m L (i + 1)).length ≤ (wls now tl m L j).length := wls_mono (by omega)
      have h2 : (wls now tl m L (i + 1)).length = (wls now tl m L i).length + 1 := by
        show (wls now tl m L i ++ _).length = _
        unfold nl
        rw [c1, c2, List.length_append]; rfl
      show (32 * id + (wls now tl m L i).length) % 32 < _
      omega
    | false => rw [c2] at h0; exact absurd rfl h0
  | false =>
    exfalso
    rw [c1] at h0 he
    dsimp only [cond] at h0 he
    by_cases c : bm = 0
    · rw [if_pos c] at h0; exact h0 rfl
    · rw [if_neg c] at h0 he
      obtain ⟨v, k2⟩ := hb c
      have := (S.lkk v k2 hm (by omega) h0).2.2.1
      have := v.2.1
      omega
theorem p_writeMap {hB h : Hp} {p a0 a1 m id k f pw bm : Nat} {now : Nat → Option Int32} {tl tm : Nat → Bool} {ca ka pa pn fs np : Nat → Nat} {st : Nat → Pg} {L : List Pg} (oB : Only [] hB h) (kB : hpN hB ≤ k) (N : PN hB p a0 a1 now) (T : PT hB p tl tm) (G : XG hB ca ka pa st fs np id) (S : SW st fs np id) (hb : bm ≠ 0 → vk np id bm ∧ kd st bm = 2) (W : WP h id k f pw pa L pn) (hid : 1 ≤ id) (hm : m < 4) (hmc : mc tl tm m = true) (hl : L.length + pm now tl tm m < pw) (hpw : pw ≤ 21) :
    ∃ h' pn', f_P_writeMap p (some k) (nI m) (ck pa bm) h = some (ck (paN pa id pn') (wmk now tl tm st bm id m L), h') ∧ WP h' id k f pw pa (wmL now tl tm st bm id m L) pn' ∧ Only [k, k + 1] h h' ∧ hpN h' ≤ hpN h + 10 ∧ hpS h' ≤ hpS h + 60 ∧ (∀ i, i < L.length → pn' i = pn i) ∧ hpR h' k 4 = hpR h k 4 ∧ (wmk now tl tm st bm id m L ≠ 0 → hpT h' (paN pa id pn' (wmk now tl tm st bm id m L)) = 6 ∧ (wmk now tl tm st bm id m L / 32 = id → wmk now tl tm st bm id m L % 32 < (wmL now tl tm st bm id m L).length)) := by
  have Nh := N.o oB (fun x hx => by cases hx)
  have Th := T.o oB N.1.2.1 List.not_mem_nil
  have nr := p_needsRoot Nh Th hm
  rw [hmc, Bool.true_and] at nr
  have k1 := W.1.1
  have kN := W.1.2.1
  have k8 := W.1.2.2.2.2.2.2.2
  have pmeq : pm now tl tm m = cn (nl now tl m) 4 + (bif mh now m then 1 else 0) := by
    unfold pm; rw [hmc, Bool.true_and]; rfl
  unfold wmk wmL
  rw [hmc, Bool.true_and]
  cases hmh : mh now m with
  | false =>
    rw [hmh] at nr
    refine ⟨h, pn, ?_, W, Only.refl _ _, by omega, by omega, fun _ _ => rfl, rfl, fun z => absurd rfl z⟩
    unfold f_P_writeMap
    simp (disch := omega) only [gd_T, dr_S, nm_v, cl_S, cv_S, bd_S, lk_L, lk_R, zbw_b, isK_e, isPg_3, isPg_4, isPg_6, asV_n, beq_self_eq_true, inb_N, inb_0, le_T, le_F, lt_T, lt_F, eq_F, le_0T, lt_0F, le_0F, eq_0F, nI_1, nI_add, pk_mul, nI_clamp, cl_0, if_true, if_false, of_nI, T_wI, L_wI, R_wI, N_wI, S_wI, T_wR, L_wR, I_wR, N_wR, S_wR, I_same, R_same, I_wIn, I_wIk, R_wRn, R_wRk, T_nwo, T_nwn, L_nwo, L_nwn, I_nwo, I_nwn, R_nwo, R_nwn, N_nw, S_nw, nar_1, nar_0, nar_01, b01_t0, b01_f0, b01_t1, b01_f1, ne_sn, eq_sn, sn_inj, Nh.1.1, nr]
    rfl
  | true =>
    rw [hmh] at nr pmeq
    dsimp only [cond] at pmeq ⊢
    obtain ⟨g, i1, i2, i3, i4, i5, i6, i7, i8, i9, i10, i11, i12⟩ := o_init h
    obtain ⟨a, ha⟩ : ∃ a, a = hpN h := ⟨_, rfl⟩
    rw [← ha] at i1 i3 i5 i6 i7 i8 i9 i10 i11 i12
    have Lle : ∀ j, j ≤ 4 → (wls now tl m L j).length < pw := fun j hj => by
      have := wls_mono (now := now) (tl := tl) (m := m) (L := L) hj
      rw [wls_len _ _ _ _ 4] at this
      omega
    have key : ∃ r, l_P_writeMap_22 p (some k) (nI m) (ck pa bm) (some a) ((0 : Int32), g) = some r ∧ (∃ pj, WP r id k f pw pa (wls now tl m L 4) pj ∧ Only [k, k + 1] h r ∧ (hpT r a = 6 ∧ hpR r a 0 = none ∧ hpI r a 2 = 0 ∧ hpR r a 3 = some (a + 1) ∧ hpT r (a + 1) = 105 ∧ hpL r (a + 1) = 4 ∧ a + 1 < hpN r) ∧ (∀ i, i < 4 → hpR r (a + 1) i = if i < 4 then ck (paN pa id pj) (rld now tl st bm id m L i) else none) ∧ (∀ i, i < L.length → pj i = pn i) ∧ hpN r ≤ hpN h + 2 + 2 * 4 ∧ hpS r ≤ hpS h + 8 + 13 * 4 ∧ hpR r k 4 = hpR h k 4) := by
      refine lp_up (b := fun s => b_P_writeMap_22 p (some k) (nI m) (ck pa bm) (some a) s.1 s.2) (fun j s => s.1 = nI j ∧ ∃ pj, WP s.2 id k f pw pa (wls now tl m L j) pj ∧ Only [k, k + 1] h s.2 ∧ (hpT s.2 a = 6 ∧ hpR s.2 a 0 = none ∧ hpI s.2 a 2 = 0 ∧ hpR s.2 a 3 = some (a + 1) ∧ hpT s.2 (a + 1) = 105 ∧ hpL s.2 (a + 1) = 4 ∧ a + 1 < hpN s.2) ∧ (∀ i, i < 4 → hpR s.2 (a + 1) i = if i < j then ck (paN pa id pj) (rld now tl st bm id m L i) else none) ∧ (∀ i, i < L.length → pj i = pn i) ∧ hpN s.2 ≤ hpN h + 2 + 2 * j ∧ hpS s.2 ≤ hpS h + 8 + 13 * j ∧ hpR s.2 k 4 = hpR h k 4) _ 4 (by decide) ⟨rfl, pn, W.o i2 List.not_mem_nil List.not_mem_nil (fun _ _ _ => ⟨List.not_mem_nil, List.not_mem_nil⟩), i2.mono (fun x hx => by cases hx), ⟨i5, i6, i8, i9, i10, i11, by show a + 1 < hpN g; omega⟩, fun i _ => by rw [if_neg (Nat.not_lt_zero _)]; exact i12 i, fun _ _ => rfl, by show hpN g ≤ _; omega, by show hpS g ≤ _; omega, ?_⟩ (fun j s hj hs => Or.inl ?_) (fun s hs => ⟨s.2, ?_, hs.2⟩)
      · rw [(i2.at kN List.not_mem_nil).2.2.2]
      · obtain ⟨z, r⟩ := s
        obtain ⟨b1, pj, b2, b3, ⟨b4, b5, b6, b7, b8, b9, b10⟩, b11, b12, b13, b14, b15⟩ := hs
        dsimp only at b1 b2 b3 b4 b5 b6 b7 b8 b9 b10 b11 b12 b13 b14 b15
        subst b1
        have oBr : Only [] hB r := oB.tr b3 (fun x hx hl => by
          simp only [List.mem_cons, List.not_mem_nil, or_false] at hx
          omega)
        have Nr := N.o oBr (fun x hx => by cases hx)
        have Tr := T.o oBr N.1.2.1 List.not_mem_nil
        have Gr := G.ext (Sx.o oBr (fun x hx => by cases hx))
        have e1 := p_needsLeaf Nr Tr hm hj
        have e2 := p_isLeafTouched Nr.1.1 Tr hm hj
        have ak : a ≠ k := ne_T (h := r) (by rw [b4, b2.1.1]; decide)
        have ak1 : a ≠ k + 1 := ne_T (h := r) (by rw [b4, b2.1.2.2.2.2.2.1]; decide)
        have a1k : a + 1 ≠ k := ne_T (h := r) (by rw [b8, b2.1.1]; decide)
        have a1k1 : a + 1 ≠ k + 1 := by omega
        have Lj := Lle j (by omega)
        have hN : hpN h ≤ hpN r := b3.1
        cases c1 : tl (4 * m + j) with
        | true =>
          rw [c1] at e1 e2
          cases c2 : lh now m j with
          | true =>
            rw [c2] at e1
            obtain ⟨r1, w1, w2, w3, w4, w5, w6, w7⟩ := p_writeLeaf Nr b2 hm hj Lj hpw
            have Le : wls now tl m L (j + 1) = wls now tl m L j ++ [lpg now m j] := by
              show wls now tl m L j ++ _ = _
              unfold nl; rw [c1, c2]; rfl
            obtain ⟨d1, d2, d3, d4⟩ := w3.at (x := a) (by omega) (by simp only [List.mem_cons, List.not_mem_nil, or_false]; omega)
            obtain ⟨f1, f2, f3, f4⟩ := w3.at (x := a + 1) b10 (by simp only [List.mem_cons, List.not_mem_nil, or_false]; omega)
            have as : asV r1 (some (hpN r)) (a + 1) = true := asV_lf (by rw [f1]; exact b8) w6
            have ow : Only [a + 1] r1 (wR r1 (a + 1) j (some (hpN r))) := on_wR (by simp)
            refine ⟨(nI (j + 1), wR r1 (a + 1) j (some (hpN r))), ?_, rfl, va_up pj (wls now tl m L j).length (hpN r), ?_, ?_, ⟨?_, ?_, ?_, ?_, ?_, ?_, ?_⟩, fun i hi => ?_, fun i hi => ?_, ?_, ?_, ?_⟩
            · show b_P_writeMap_22 p (some k) (nI m) (ck pa bm) (some a) (nI j) r = _
              unfold b_P_writeMap_22
              simp (disch := omega) only [gd_T, dr_S, nm_v, cl_S, cv_S, bd_S, lk_L, lk_R, zbw_b, isK_e, isPg_3, isPg_4, isPg_6, asV_n, beq_self_eq_true, inb_N, inb_0, le_T, le_F, lt_T, lt_F, eq_F, le_0T, lt_0F, le_0F, eq_0F, nI_1, nI_add, pk_mul, nI_clamp, cl_0, if_true, if_false, of_nI, T_wI, L_wI, R_wI, N_wI, S_wI, T_wR, L_wR, I_wR, N_wR, S_wR, I_same, R_same, I_wIn, I_wIk, R_wRn, R_wRk, T_nwo, T_nwn, L_nwo, L_nwn, I_nwo, I_nwn, R_nwo, R_nwn, N_nw, S_nw, nar_1, nar_0, nar_01, b01_t0, b01_f0, b01_t1, b01_f1, ne_sn, eq_sn, sn_inj, Nr.1.1, e1, Bool.true_and, b4, w1, b7, f1, b8, f2, b9, as]
            · rw [Le]
              refine w2.o ow (by simp only [List.mem_cons, List.not_mem_nil, or_false]; omega) (by simp only [List.mem_cons, List.not_mem_nil, or_false]; omega) (fun i pg hi => ?_)
              obtain ⟨u1, u2, u3, u4, u5, u6, u7⟩ := w2.2.2.2 i pg hi
              obtain ⟨q1, q2, q3⟩ := u6.kk
              have n1 : va_up pj (wls now tl m L j).length (hpN r) i ≠ a := fun z => by rw [z, d4, b5] at u3; cases u3
              have n2 : va_up pj (wls now tl m L j).length (hpN r) i ≠ a + 1 := fun z => by rw [z, f1, b8] at q1; omega
              simp only [List.mem_cons, List.not_mem_nil, or_false]
              omega
            · refine (b3.tr w3 (fun x hx _ => hx)).wR (Or.inl ?_)
              omega
            · show hpT r1 a = 6
              rw [d1]; exact b4
            · simp (disch := omega) only [gd_T, dr_S, nm_v, cl_S, cv_S, bd_S, lk_L, lk_R, zbw_b, isK_e, isPg_3, isPg_4, isPg_6, asV_n, beq_self_eq_true, inb_N, inb_0, le_T, le_F, lt_T, lt_F, eq_F, le_0T, lt_0F, le_0F, eq_0F, nI_1, nI_add, pk_mul, nI_clamp, cl_0, if_true, if_false, of_nI, T_wI, L_wI, R_wI, N_wI, S_wI, T_wR, L_wR, I_wR, N_wR, S_wR, I_same, R_same, I_wIn, I_wIk, R_wRn, R_wRk, T_nwo, T_nwn, L_nwo, L_nwn, I_nwo, I_nwn, R_nwo, R_nwn, N_nw, S_nw, nar_1, nar_0, nar_01, b01_t0, b01_f0, b01_t1, b01_f1, ne_sn, eq_sn, sn_inj, d4, b5]
            · show hpI r1 a 2 = 0
              rw [d3]; exact b6
            · simp (disch := omega) only [gd_T, dr_S, nm_v, cl_S, cv_S, bd_S, lk_L, lk_R, zbw_b, isK_e, isPg_3, isPg_4, isPg_6, asV_n, beq_self_eq_true, inb_N, inb_0, le_T, le_F, lt_T, lt_F, eq_F, le_0T, lt_0F, le_0F, eq_0F, nI_1, nI_add, pk_mul, nI_clamp, cl_0, if_true, if_false, of_nI, T_wI, L_wI, R_wI, N_wI, S_wI, T_wR, L_wR, I_wR, N_wR, S_wR, I_same, R_same, I_wIn, I_wIk, R_wRn, R_wRk, T_nwo, T_nwn, L_nwo, L_nwn, I_nwo, I_nwn, R_nwo, R_nwn, N_nw, S_nw, nar_1, nar_0, nar_01, b01_t0, b01_f0, b01_t1, b01_f1, ne_sn, eq_sn, sn_inj, d4, b7]
            · show hpT r1 (a + 1) = 105
              rw [f1]; exact b8
            · show hpL r1 (a + 1) = 4
              rw [f2]; exact b9
            · show a + 1 < hpN r1
              omega
            · dsimp only
              by_cases e : i = j
              · subst e
                rw [R_same, if_pos (Nat.lt_succ_self _)]
                have : rld now tl st bm id m L i = 32 * id + (wls now tl m L i).length := by unfold rld; rw [c1, c2]; rfl
                rw [this]
                rw [ck_s (by omega), paN_n (by omega)]
                unfold va_up; rw [if_pos rfl]
              · rw [R_wRk e, f4, b11 i hi]
                by_cases z : i < j
                · rw [if_pos z, if_pos (by omega)]
                  refine (ck_paN fun z1 z2 => ?_).symm
                  have := rld_lt S hb hm z (by omega) (by omega) z1 z2
                  exact if_neg (by omega)
                · rw [if_neg z, if_neg (by omega)]
            · have : i ≠ (wls now tl m L j).length := by rw [wls_len]; omega
              unfold va_up; rw [if_neg this]; exact b12 i hi
            · show hpN r1 ≤ _
              omega
            · show hpS r1 ≤ _
              omega
            · simp (disch := omega) only [gd_T, dr_S, nm_v, cl_S, cv_S, bd_S, lk_L, lk_R, zbw_b, isK_e, isPg_3, isPg_4, isPg_6, asV_n, beq_self_eq_true, inb_N, inb_0, le_T, le_F, lt_T, lt_F, eq_F, le_0T, lt_0F, le_0F, eq_0F, nI_1, nI_add, pk_mul, nI_clamp, cl_0, if_true, if_false, of_nI, T_wI, L_wI, R_wI, N_wI, S_wI, T_wR, L_wR, I_wR, N_wR, S_wR, I_same, R_same, I_wIn, I_wIk, R_wRn, R_wRk, T_nwo, T_nwn, L_nwo, L_nwn, I_nwo, I_nwn, R_nwo, R_nwn, N_nw, S_nw, nar_1, nar_0, nar_01, b01_t0, b01_f0, b01_t1, b01_f1, ne_sn, eq_sn, sn_inj, w7, b15]
          | false =>
            rw [c2] at e1
            have Le : wls now tl m L (j + 1) = wls now tl m L j := by
              show wls now tl m L j ++ _ = _
              unfold nl; rw [c1, c2]; exact List.append_nil _
            refine ⟨(nI (j + 1), r), ?_, rfl, pj, by rw [Le]; exact b2, b3, ⟨b4, b5, b6, b7, b8, b9, b10⟩, fun i hi => ?_, b12, by show hpN r ≤ _; omega, by show hpS r ≤ _; omega, b15⟩
            · show b_P_writeMap_22 p (some k) (nI m) (ck pa bm) (some a) (nI j) r = _
              unfold b_P_writeMap_22
              simp (disch := omega) only [gd_T, dr_S, nm_v, cl_S, cv_S, bd_S, lk_L, lk_R, zbw_b, isK_e, isPg_3, isPg_4, isPg_6, asV_n, beq_self_eq_true, inb_N, inb_0, le_T, le_F, lt_T, lt_F, eq_F, le_0T, lt_0F, le_0F, eq_0F, nI_1, nI_add, pk_mul, nI_clamp, cl_0, if_true, if_false, of_nI, T_wI, L_wI, R_wI, N_wI, S_wI, T_wR, L_wR, I_wR, N_wR, S_wR, I_same, R_same, I_wIn, I_wIk, R_wRn, R_wRk, T_nwo, T_nwn, L_nwo, L_nwn, I_nwo, I_nwn, R_nwo, R_nwn, N_nw, S_nw, nar_1, nar_0, nar_01, b01_t0, b01_f0, b01_t1, b01_f1, ne_sn, eq_sn, sn_inj, Nr.1.1, e1, Bool.true_and, Bool.false_and, Bool.and_false, e2]
            · dsimp only
              rw [b11 i hi]
              by_cases e : i = j
              · subst e
                rw [if_neg (Nat.lt_irrefl _), if_pos (Nat.lt_succ_self _)]
                have : rld now tl st bm id m L i = 0 := by unfold rld; rw [c1, c2]; rfl
                rw [this, ck_0]
              · by_cases z : i < j
                · rw [if_pos z, if_pos (by omega)]
                · rw [if_neg z, if_neg (by omega)]
        | false =>
          rw [c1] at e1 e2
          have Le : wls now tl m L (j + 1) = wls now tl m L j := by
            show wls now tl m L j ++ _ = _
            unfold nl; rw [c1]; exact List.append_nil _
          by_cases c : bm = 0
          · refine ⟨(nI (j + 1), r), ?_, rfl, pj, by rw [Le]; exact b2, b3, ⟨b4, b5, b6, b7, b8, b9, b10⟩, fun i hi => ?_, b12, by show hpN r ≤ _; omega, by show hpS r ≤ _; omega, b15⟩
            · show b_P_writeMap_22 p (some k) (nI m) (ck pa bm) (some a) (nI j) r = _
              unfold b_P_writeMap_22
              rw [c, ck_0]
              simp (disch := omega) only [gd_T, dr_S, nm_v, cl_S, cv_S, bd_S, lk_L, lk_R, zbw_b, isK_e, isPg_3, isPg_4, isPg_6, asV_n, beq_self_eq_true, inb_N, inb_0, le_T, le_F, lt_T, lt_F, eq_F, le_0T, lt_0F, le_0F, eq_0F, nI_1, nI_add, pk_mul, nI_clamp, cl_0, if_true, if_false, of_nI, T_wI, L_wI, R_wI, N_wI, S_wI, T_wR, L_wR, I_wR, N_wR, S_wR, I_same, R_same, I_wIn, I_wIk, R_wRn, R_wRk, T_nwo, T_nwn, L_nwo, L_nwn, I_nwo, I_nwn, R_nwo, R_nwn, N_nw, S_nw, nar_1, nar_0, nar_01, b01_t0, b01_f0, b01_t1, b01_f1, ne_sn, eq_sn, sn_inj, Nr.1.1, e1, Bool.true_and, Bool.false_and, Bool.and_false, e2]
            · dsimp only
              rw [b11 i hi]
              by_cases e : i = j
              · subst e
                rw [if_neg (Nat.lt_irrefl _), if_pos (Nat.lt_succ_self _)]
                have : rld now tl st bm id m L i = 0 := by unfold rld; rw [c1, c]; rfl
                rw [this, ck_0]
              · by_cases z : i < j
                · rw [if_pos z, if_pos (by omega)]
                · rw [if_neg z, if_neg (by omega)]
          · obtain ⟨v, k2⟩ := hb c
            have lo2 := e_leafOf Gr S v k2 hm hj
            have mt := ((Gr.po v).meta k2).1
            have as : asV r (ck pa (lk2 st bm m j)) (a + 1) = true := by
              by_cases z : lk2 st bm m j = 0
              · rw [z, ck_0]; rfl
              · rw [ck_s z]
                obtain ⟨l1, l2, -⟩ := S.lkk v k2 hm hj z
                exact asV_lf b8 ((Gr.po l1).leaf l2).1
            have ow : Only [a + 1] r (wR r (a + 1) j (ck pa (lk2 st bm m j))) := on_wR (by simp)
            refine ⟨(nI (j + 1), wR r (a + 1) j (ck pa (lk2 st bm m j))), ?_, rfl, pj, ?_, b3.wR (Or.inl (by omega)), ⟨b4, ?_, b6, ?_, b8, b9, b10⟩, fun i hi => ?_, b12, by show hpN r ≤ _; omega, by show hpS r ≤ _; omega, ?_⟩
            · show b_P_writeMap_22 p (some k) (nI m) (ck pa bm) (some a) (nI j) r = _
              unfold b_P_writeMap_22
              rw [ck_s c]
              simp (disch := omega) only [gd_T, dr_S, nm_v, cl_S, cv_S, bd_S, lk_L, lk_R, zbw_b, isK_e, isPg_3, isPg_4, isPg_6, asV_n, beq_self_eq_true, inb_N, inb_0, le_T, le_F, lt_T, lt_F, eq_F, le_0T, lt_0F, le_0F, eq_0F, nI_1, nI_add, pk_mul, nI_clamp, cl_0, if_true, if_false, of_nI, T_wI, L_wI, R_wI, N_wI, S_wI, T_wR, L_wR, I_wR, N_wR, S_wR, I_same, R_same, I_wIn, I_wIk, R_wRn, R_wRk, T_nwo, T_nwn, L_nwo, L_nwn, I_nwo, I_nwn, R_nwo, R_nwn, N_nw, S_nw, nar_1, nar_0, nar_01, b01_t0, b01_f0, b01_t1, b01_f1, ne_sn, eq_sn, sn_inj, Nr.1.1, e1, Bool.true_and, Bool.false_and, Bool.and_false, e2, b4, mt, lo2, b7, b8, b9, as]
            · rw [Le]
              refine b2.o ow (by simp only [List.mem_cons, List.not_mem_nil, or_false]; omega) (by simp only [List.mem_cons, List.not_mem_nil, or_false]; omega) (fun i pg hi => ?_)
              obtain ⟨u1, u2, u3, u4, u5, u6, u7⟩ := b2.2.2.2 i pg hi
              obtain ⟨q1, q2, q3⟩ := u6.kk
              have n1 : pj i ≠ a := fun z => by rw [z, b5] at u3; cases u3
              have n2 : pj i ≠ a + 1 := fun z => by rw [z, b8] at q1; omega
              simp only [List.mem_cons, List.not_mem_nil, or_false]
              omega
            · simp (disch := omega) only [gd_T, dr_S, nm_v, cl_S, cv_S, bd_S, lk_L, lk_R, zbw_b, isK_e, isPg_3, isPg_4, isPg_6, asV_n, beq_self_eq_true, inb_N, inb_0, le_T, le_F, lt_T, lt_F, eq_F, le_0T, lt_0F, le_0F, eq_0F, nI_1, nI_add, pk_mul, nI_clamp, cl_0, if_true, if_false, of_nI, T_wI, L_wI, R_wI, N_wI, S_wI, T_wR, L_wR, I_wR, N_wR, S_wR, I_same, R_same, I_wIn, I_wIk, R_wRn, R_wRk, T_nwo, T_nwn, L_nwo, L_nwn, I_nwo, I_nwn, R_nwo, R_nwn, N_nw, S_nw, nar_1, nar_0, nar_01, b01_t0, b01_f0, b01_t1, b01_f1, ne_sn, eq_sn, sn_inj, b5]
            · simp (disch := omega) only [gd_T, dr_S, nm_v, cl_S, cv_S, bd_S, lk_L, lk_R, zbw_b, isK_e, isPg_3, isPg_4, isPg_6, asV_n, beq_self_eq_true, inb_N, inb_0, le_T, le_F, lt_T, lt_F, eq_F, le_0T, lt_0F, le_0F, eq_0F, nI_1, nI_add, pk_mul, nI_clamp, cl_0, if_true, if_false, of_nI, T_wI, L_wI, R_wI, N_wI, S_wI, T_wR, L_wR, I_wR, N_wR, S_wR, I_same, R_same, I_wIn, I_wIk, R_wRn, R_wRk, T_nwo, T_nwn, L_nwo, L_nwn, I_nwo, I_nwn, R_nwo, R_nwn, N_nw, S_nw, nar_1, nar_0, nar_01, b01_t0, b01_f0, b01_t1, b01_f1, ne_sn, eq_sn, sn_inj, b7]
            · dsimp only
              by_cases e : i = j
              · subst e
                rw [R_same, if_pos (Nat.lt_succ_self _)]
                have : rld now tl st bm id m L i = lk2 st bm m i := by unfold rld; rw [c1]; exact if_neg c
                rw [this]
                refine (ck_paO fun z => ?_).symm
                have := (S.lkk v k2 hm hi z).2.2.1
                have := v.2.1
                omega
              · rw [R_wRk e, b11 i hi]
                by_cases z : i < j
                · rw [if_pos z, if_pos (by omega)]
                · rw [if_neg z, if_neg (by omega)]
            · simp (disch := omega) only [gd_T, dr_S, nm_v, cl_S, cv_S, bd_S, lk_L, lk_R, zbw_b, isK_e, isPg_3, isPg_4, isPg_6, asV_n, beq_self_eq_true, inb_N, inb_0, le_T, le_F, lt_T, lt_F, eq_F, le_0T, lt_0F, le_0F, eq_0F, nI_1, nI_add, pk_mul, nI_clamp, cl_0, if_true, if_false, of_nI, T_wI, L_wI, R_wI, N_wI, S_wI, T_wR, L_wR, I_wR, N_wR, S_wR, I_same, R_same, I_wIn, I_wIk, R_wRn, R_wRk, T_nwo, T_nwn, L_nwo, L_nwn, I_nwo, I_nwn, R_nwo, R_nwn, N_nw, S_nw, nar_1, nar_0, nar_01, b01_t0, b01_f0, b01_t1, b01_f1, ne_sn, eq_sn, sn_inj, b15]
      · obtain ⟨z, r⟩ := s
        obtain ⟨b1, -⟩ := hs
        dsimp only at b1
        subst b1
        show b_P_writeMap_22 p (some k) (nI m) (ck pa bm) (some a) (nI 4) r = _
        unfold b_P_writeMap_22
        simp (disch := omega) only [gd_T, dr_S, nm_v, cl_S, cv_S, bd_S, lk_L, lk_R, zbw_b, isK_e, isPg_3, isPg_4, isPg_6, asV_n, beq_self_eq_true, inb_N, inb_0, le_T, le_F, lt_T, lt_F, eq_F, le_0T, lt_0F, le_0F, eq_0F, nI_1, nI_add, pk_mul, nI_clamp, cl_0, if_true, if_false, of_nI, T_wI, L_wI, R_wI, N_wI, S_wI, T_wR, L_wR, I_wR, N_wR, S_wR, I_same, R_same, I_wIn, I_wIk, R_wRn, R_wRk, T_nwo, T_nwn, L_nwo, L_nwn, I_nwo, I_nwn, R_nwo, R_nwn, N_nw, S_nw, nar_1, nar_0, nar_01, b01_t0, b01_f0, b01_t1, b01_f1, ne_sn, eq_sn, sn_inj]
    obtain ⟨r, e, pj, b2, b3, ⟨b4, b5, b6, b7, b8, b9, b10⟩, b11, b12, b13, b14, b15⟩ := key
    have L4 := Lle 4 (by omega)
    have C : CO r a (paN pa id pj) (rpg now tl st bm id m L) := Or.inr (Or.inl ⟨rfl, b4, b7, b8, b9, b10, fun j hj => by rw [b11 j hj, if_pos hj]; rfl⟩)
    obtain ⟨h', u1, u2, u3, u4, u5, u6, u7⟩ := w_append b2 L4 hpw C b5 b6 (fun j hj hz he => rld_lt S hb hm hj (Nat.le_refl _) (by omega) hz he)
    refine ⟨h', va_up pj (wls now tl m L 4).length a, ?_, u2, b3.tr u3 (fun x hx hl => ?_), by omega, by omega, fun i hi => ?_, by rw [u7]; exact b15, fun z => ⟨?_, fun _ => ?_⟩⟩
    · have ec : ck (paN pa id (va_up pj (wls now tl m L 4).length a)) (32 * id + (wls now tl m L 4).length) = some a := by
        rw [ck_s (by omega), paN_n (by omega)]
        unfold va_up; rw [if_pos rfl]
      rw [ec]
      unfold f_P_writeMap
      rw [ha] at i1 e u1 ⊢
      simp (disch := omega) only [gd_T, dr_S, nm_v, cl_S, cv_S, bd_S, lk_L, lk_R, zbw_b, isK_e, isPg_3, isPg_4, isPg_6, asV_n, beq_self_eq_true, inb_N, inb_0, le_T, le_F, lt_T, lt_F, eq_F, le_0T, lt_0F, le_0F, eq_0F, nI_1, nI_add, pk_mul, nI_clamp, cl_0, if_true, if_false, of_nI, T_wI, L_wI, R_wI, N_wI, S_wI, T_wR, L_wR, I_wR, N_wR, S_wR, I_same, R_same, I_wIn, I_wIk, R_wRn, R_wRk, T_nwo, T_nwn, L_nwo, L_nwn, I_nwo, I_nwn, R_nwo, R_nwn, N_nw, S_nw, nar_1, nar_0, nar_01, b01_t0, b01_f0, b01_t1, b01_f1, ne_sn, eq_sn, sn_inj, Nh.1.1, nr, i1, e, b2.1.1, u1]
    · simp only [List.mem_cons, List.not_mem_nil, or_false] at hx ⊢
      omega
    · have : i ≠ (wls now tl m L 4).length := by rw [wls_len]; omega
      unfold va_up; rw [if_neg this]; exact b12 i hi
    · rw [paN_n (by omega)]
      unfold va_up
      rw [if_pos rfl, u6]; exact b4
    · rw [List.length_append]
      show (32 * id + (wls now tl m L 4).length) % 32 < (wls now tl m L 4).length + 1
      omega
theorem wms_mono {now : Nat → Option Int32} {tl tm : Nat → Bool} {st : Nat → Pg} {bm id i j : Nat} (h : i ≤ j) : (wms now tl tm st bm id i).length ≤ (wms now tl tm st bm id j).length := by
  induction j with
  | zero => rw [show i = 0 by omega]; exact Nat.le_refl _
  | succ j ih =>
    by_cases e : i = j + 1
    · rw [e]; exact Nat.le_refl _
    · refine Nat.le_trans (ih (by omega)) ?_
      show _ ≤ (wmL now tl tm st bm id j _).length
      rw [wmL_len]; omega
theorem p_writeTouched {hB h : Hp} {p a0 a1 id k f bm ver : Nat} {now : Nat → Option Int32} {tl tm : Nat → Bool} {ca ka pa pn fs np : Nat → Nat} {st : Nat → Pg} (oB : Only [] hB h) (kB : hpN hB ≤ k) (N : PN hB p a0 a1 now) (T : PT hB p tl tm) (G : XG hB ca ka pa st fs np id) (S : SW st fs np id) (hb : bm ≠ 0 → vk np id bm ∧ kd st bm = 2) (W : WP h id k f (pw now tl tm) pa [] pn) (hid : 1 ≤ id) :
    ∃ h' pn', f_P_writeTouched p (some k) (nI ver) (ck pa bm) h = some h' ∧ WP h' id k f (pw now tl tm) pa (wal now tl tm st bm id ver) pn' ∧ Only [k, k + 1] h h' ∧ hpN h' ≤ hpN h + 42 ∧ hpS h' ≤ hpS h + 249 ∧ hpR h' k 4 = some (pn' (pw now tl tm - 1)) := by
  have pw21 := pw_le now tl tm
  obtain ⟨g, i1, i2, i3, i4, i5, i6, i7, i8, i9, i10, i11, i12, i13⟩ := e_init h (nI ver)
  obtain ⟨a, ha⟩ : ∃ a, a = hpN h := ⟨_, rfl⟩
  rw [← ha] at i1 i3 i5 i6 i7 i8 i9 i10 i11 i12 i13
  have kN := W.1.2.1
  have k8 := W.1.2.2.2.2.2.2.2
  have Lle : ∀ j, j ≤ 4 → (wms now tl tm st bm id j).length < pw now tl tm := fun j hj => by
    have := wms_mono (now := now) (tl := tl) (tm := tm) (st := st) (bm := bm) (id := id) hj
    rw [wms_len _ _ _ _ _ _ 4] at this
    unfold pw
    omega
  have key : ∃ r, l_P_writeTouched_13 p (some k) (ck pa bm) (some a) ((0 : Int32), g) = some r ∧ (∃ pj, WP r id k f (pw now tl tm) pa (wms now tl tm st bm id 4) pj ∧ Only [k, k + 1] h r ∧ (hpT r a = 4 ∧ hpR r a 0 = none ∧ hpI r a 2 = 0 ∧ hpR r a 4 = some (a + 1) ∧ hpI r a 3 = nI ver ∧ hpT r (a + 1) = 104 ∧ hpL r (a + 1) = 4 ∧ a + 1 < hpN r) ∧ (∀ i, i < 4 → hpR r (a + 1) i = if i < 4 then ck (paN pa id pj) (wmk now tl tm st bm id i (wms now tl tm st bm id i)) else none) ∧ (∀ i, i < 4 → wmk now tl tm st bm id i (wms now tl tm st bm id i) ≠ 0 → wmk now tl tm st bm id i (wms now tl tm st bm id i) / 32 = id → wmk now tl tm st bm id i (wms now tl tm st bm id i) % 32 < (wms now tl tm st bm id 4).length) ∧ hpN r ≤ hpN h + 2 + 10 * 4 ∧ hpS r ≤ hpS h + 9 + 60 * 4 ∧ hpR r k 4 = hpR h k 4) := by
    refine lp_up (b := fun s => b_P_writeTouched_13 p (some k) (ck pa bm) (some a) s.1 s.2) (fun j s => s.1 = nI j ∧ ∃ pj, WP s.2 id k f (pw now tl tm) pa (wms now tl tm st bm id j) pj ∧ Only [k, k + 1] h s.2 ∧ (hpT s.2 a = 4 ∧ hpR s.2 a 0 = none ∧ hpI s.2 a 2 = 0 ∧ hpR s.2 a 4 = some (a + 1) ∧ hpI s.2 a 3 = nI ver ∧ hpT s.2 (a + 1) = 104 ∧ hpL s.2 (a + 1) = 4 ∧ a + 1 < hpN s.2) ∧ (∀ i, i < 4 → hpR s.2 (a + 1) i = if i < j then ck (paN pa id pj) (wmk now tl tm st bm id i (wms now tl tm st bm id i)) else none) ∧ (∀ i, i < j → wmk now tl tm st bm id i (wms now tl tm st bm id i) ≠ 0 → wmk now tl tm st bm id i (wms now tl tm st bm id i) / 32 = id → wmk now tl tm st bm id i (wms now tl tm st bm id i) % 32 < (wms now tl tm st bm id j).length) ∧ hpN s.2 ≤ hpN h + 2 + 10 * j ∧ hpS s.2 ≤ hpS h + 9 + 60 * j ∧ hpR s.2 k 4 = hpR h k 4) _ 4 (by decide) ⟨rfl, pn, W.o i2 List.not_mem_nil List.not_mem_nil (fun _ _ _ => ⟨List.not_mem_nil, List.not_mem_nil⟩), i2.mono (fun x hx => by cases hx), ⟨i5, i6, i8, i9, i10, i11, i12, by show a + 1 < hpN g; omega⟩, fun i _ => by rw [if_neg (Nat.not_lt_zero _)]; exact i13 i, fun i hi => absurd hi (Nat.not_lt_zero _), by show hpN g ≤ _; omega, by show hpS g ≤ _; omega, ?_⟩ (fun j s hj hs => Or.inl ?_) (fun s hs => ⟨s.2, ?_, hs.2⟩)
    · rw [(i2.at kN List.not_mem_nil).2.2.2]
    · obtain ⟨z, r⟩ := s
      obtain ⟨b1, pj, b2, b3, ⟨b4, b5, b6, b7, bv, b8, b9, b10⟩, b11, b12, b13, b14, b15⟩ := hs
      dsimp only at b1 b2 b3 b4 b5 b6 b7 bv b8 b9 b10 b11 b12 b13 b14 b15
      subst b1
      have oBr : Only [] hB r := oB.tr b3 (fun x hx hl => by
        simp only [List.mem_cons, List.not_mem_nil, or_false] at hx
        omega)
      have Nr := N.o oBr (fun x hx => by cases hx)
      have Tr := T.o oBr N.1.2.1 List.not_mem_nil
      have Gr := G.ext (Sx.o oBr (fun x hx => by cases hx))
      have e1 := p_isMapChanged Nr.1.1 Tr hj
      have ak : a ≠ k := ne_T (h := r) (by rw [b4, b2.1.1]; decide)
      have ak1 : a ≠ k + 1 := ne_T (h := r) (by rw [b4, b2.1.2.2.2.2.2.1]; decide)
      have a1k : a + 1 ≠ k := ne_T (h := r) (by rw [b8, b2.1.1]; decide)
      have a1k1 : a + 1 ≠ k + 1 := by omega
      have Lj := Lle (j + 1) (by omega)
      have hN : hpN h ≤ hpN r := b3.1
      have mono1 : (wms now tl tm st bm id j).length ≤ (wms now tl tm st bm id (j + 1)).length := wms_mono (by omega)
      cases c1 : mc tl tm j with
      | true =>
        rw [c1] at e1
        have Lj2 : (wms now tl tm st bm id j).length + pm now tl tm j < pw now tl tm := by
          have : (wms now tl tm st bm id (j + 1)).length = _ := wmL_len now tl tm st bm id j (wms now tl tm st bm id j)
          omega
        obtain ⟨r1, pj', w1, w2, w3, w4, w5, w6, w7, w8⟩ := p_writeMap oBr kB N T G S hb b2 hid hj c1 Lj2 pw21
        obtain ⟨d1, d2, d3, d4⟩ := w3.at (x := a) (by omega) (by simp only [List.mem_cons, List.not_mem_nil, or_false]; omega)
        obtain ⟨f1, f2, f3, f4⟩ := w3.at (x := a + 1) b10 (by simp only [List.mem_cons, List.not_mem_nil, or_false]; omega)
        have w2' : WP r1 id k f (pw now tl tm) pa (wms now tl tm st bm id (j + 1)) pj' := w2
        have as : asV r1 (ck (paN pa id pj') (wmk now tl tm st bm id j (wms now tl tm st bm id j))) (a + 1) = true := by
          by_cases z : wmk now tl tm st bm id j (wms now tl tm st bm id j) = 0
          · rw [z, ck_0]; rfl
          · rw [ck_s z]; exact asV_rt (by rw [f1]; exact b8) (w8 z).1
        have ow : Only [a + 1] r1 (wR r1 (a + 1) j (ck (paN pa id pj') (wmk now tl tm st bm id j (wms now tl tm st bm id j)))) := on_wR (by simp)
        refine ⟨(nI (j + 1), wR r1 (a + 1) j (ck (paN pa id pj') (wmk now tl tm st bm id j (wms now tl tm st bm id j)))), ?_, rfl, pj', ?_, ?_, ⟨?_, ?_, ?_, ?_, ?_, ?_, ?_, ?_⟩, fun i hi => ?_, fun i hi z1 z2 => ?_, ?_, ?_, ?_⟩
        · show b_P_writeTouched_13 p (some k) (ck pa bm) (some a) (nI j) r = _
          unfold b_P_writeTouched_13
          simp (disch := omega) only [gd_T, dr_S, nm_v, cl_S, cv_S, bd_S, lk_L, lk_R, zbw_b, isK_e, isPg_3, isPg_4, isPg_6, asV_n, beq_self_eq_true, inb_N, inb_0, le_T, le_F, lt_T, lt_F, eq_F, le_0T, lt_0F, le_0F, eq_0F, nI_1, nI_add, pk_mul, nI_clamp, cl_0, if_true, if_false, of_nI, T_wI, L_wI, R_wI, N_wI, S_wI, T_wR, L_wR, I_wR, N_wR, S_wR, I_same, R_same, I_wIn, I_wIk, R_wRn, R_wRk, T_nwo, T_nwn, L_nwo, L_nwn, I_nwo, I_nwn, R_nwo, R_nwn, N_nw, S_nw, nar_1, nar_0, nar_01, b01_t0, b01_f0, b01_t1, b01_f1, ne_sn, eq_sn, sn_inj, Nr.1.1, e1, Bool.true_and, b4, w1, b7, f1, b8, f2, b9, as]
        · refine w2'.o ow (by simp only [List.mem_cons, List.not_mem_nil, or_false]; omega) (by simp only [List.mem_cons, List.not_mem_nil, or_false]; omega) (fun i pg hi => ?_)
          obtain ⟨u1, u2, u3, u4, u5, u6, u7⟩ := w2'.2.2.2 i pg hi
          obtain ⟨q1, q2, q3⟩ := u6.kk
          have n1 : pj' i ≠ a := fun z => by rw [z, d4, b5] at u3; cases u3
          have n2 : pj' i ≠ a + 1 := fun z => by rw [z, f1, b8] at q1; omega
          simp only [List.mem_cons, List.not_mem_nil, or_false]
          omega
        · refine (b3.tr w3 (fun x hx _ => hx)).wR (Or.inl ?_)
          omega
        · show hpT r1 a = 4
          rw [d1]; exact b4
        · simp (disch := omega) only [gd_T, dr_S, nm_v, cl_S, cv_S, bd_S, lk_L, lk_R, zbw_b, isK_e, isPg_3, isPg_4, isPg_6, asV_n, beq_self_eq_true, inb_N, inb_0, le_T, le_F, lt_T, lt_F, eq_F, le_0T, lt_0F, le_0F, eq_0F, nI_1, nI_add, pk_mul, nI_clamp, cl_0, if_true, if_false, of_nI, T_wI, L_wI, R_wI, N_wI, S_wI, T_wR, L_wR, I_wR, N_wR, S_wR, I_same, R_same, I_wIn, I_wIk, R_wRn, R_wRk, T_nwo, T_nwn, L_nwo, L_nwn, I_nwo, I_nwn, R_nwo, R_nwn, N_nw, S_nw, nar_1, nar_0, nar_01, b01_t0, b01_f0, b01_t1, b01_f1, ne_sn, eq_sn, sn_inj, d4, b5]
        · show hpI r1 a 2 = 0
          rw [d3]; exact b6
        · simp (disch := omega) only [gd_T, dr_S, nm_v, cl_S, cv_S, bd_S, lk_L, lk_R, zbw_b, isK_e, isPg_3, isPg_4, isPg_6, asV_n, beq_self_eq_true, inb_N, inb_0, le_T, le_F, lt_T, lt_F, eq_F, le_0T, lt_0F, le_0F, eq_0F, nI_1, nI_add, pk_mul, nI_clamp, cl_0, if_true, if_false, of_nI, T_wI, L_wI, R_wI, N_wI, S_wI, T_wR, L_wR, I_wR, N_wR, S_wR, I_same, R_same, I_wIn, I_wIk, R_wRn, R_wRk, T_nwo, T_nwn, L_nwo, L_nwn, I_nwo, I_nwn, R_nwo, R_nwn, N_nw, S_nw, nar_1, nar_0, nar_01, b01_t0, b01_f0, b01_t1, b01_f1, ne_sn, eq_sn, sn_inj, d4, b7]
        · show hpI r1 a 3 = nI ver
          rw [d3]; exact bv
        · show hpT r1 (a + 1) = 104
          rw [f1]; exact b8
        · show hpL r1 (a + 1) = 4
          rw [f2]; exact b9
        · show a + 1 < hpN r1
          have := w3.1
          omega
        · dsimp only
          by_cases e : i = j
          · subst e
            rw [R_same, if_pos (Nat.lt_succ_self _)]
          · rw [R_wRk e, f4, b11 i hi]
            by_cases z : i < j
            · rw [if_pos z, if_pos (by omega)]
              refine (ck_paN fun z1 z2 => ?_).symm
              exact w6 _ (b12 i z z1 z2)
            · rw [if_neg z, if_neg (by omega)]
        · by_cases e : i = j
          · subst e
            exact (w8 z1).2 z2
          · have := b12 i (by omega) z1 z2
            omega
        · show hpN r1 ≤ _
          omega
        · show hpS r1 ≤ _
          omega
        · simp (disch := omega) only [gd_T, dr_S, nm_v, cl_S, cv_S, bd_S, lk_L, lk_R, zbw_b, isK_e, isPg_3, isPg_4, isPg_6, asV_n, beq_self_eq_true, inb_N, inb_0, le_T, le_F, lt_T, lt_F, eq_F, le_0T, lt_0F, le_0F, eq_0F, nI_1, nI_add, pk_mul, nI_clamp, cl_0, if_true, if_false, of_nI, T_wI, L_wI, R_wI, N_wI, S_wI, T_wR, L_wR, I_wR, N_wR, S_wR, I_same, R_same, I_wIn, I_wIk, R_wRn, R_wRk, T_nwo, T_nwn, L_nwo, L_nwn, I_nwo, I_nwn, R_nwo, R_nwn, N_nw, S_nw, nar_1, nar_0, nar_01, b01_t0, b01_f0, b01_t1, b01_f1, ne_sn, eq_sn, sn_inj, w7, b15]
      | false =>
        rw [c1] at e1
        have Le : wms now tl tm st bm id (j + 1) = wms now tl tm st bm id j := by
          show wmL now tl tm st bm id j _ = _
          unfold wmL; rw [c1]; rfl
        by_cases c : bm = 0
        · have wz : wmk now tl tm st bm id j (wms now tl tm st bm id j) = 0 := by unfold wmk; rw [c1]; exact if_pos c
          refine ⟨(nI (j + 1), r), ?_, rfl, pj, by rw [Le]; exact b2, b3, ⟨b4, b5, b6, b7, bv, b8, b9, b10⟩, fun i hi => ?_, fun i hi z1 z2 => ?_, by show hpN r ≤ _; omega, by show hpS r ≤ _; omega, b15⟩
          · show b_P_writeTouched_13 p (some k) (ck pa bm) (some a) (nI j) r = _
            unfold b_P_writeTouched_13
            rw [c, ck_0]
            simp (disch := omega) only [gd_T, dr_S, nm_v, cl_S, cv_S, bd_S, lk_L, lk_R, zbw_b, isK_e, isPg_3, isPg_4, isPg_6, asV_n, beq_self_eq_true, inb_N, inb_0, le_T, le_F, lt_T, lt_F, eq_F, le_0T, lt_0F, le_0F, eq_0F, nI_1, nI_add, pk_mul, nI_clamp, cl_0, if_true, if_false, of_nI, T_wI, L_wI, R_wI, N_wI, S_wI, T_wR, L_wR, I_wR, N_wR, S_wR, I_same, R_same, I_wIn, I_wIk, R_wRn, R_wRk, T_nwo, T_nwn, L_nwo, L_nwn, I_nwo, I_nwn, R_nwo, R_nwn, N_nw, S_nw, nar_1, nar_0, nar_01, b01_t0, b01_f0, b01_t1, b01_f1, ne_sn, eq_sn, sn_inj, Nr.1.1, e1]
          · dsimp only
            rw [b11 i hi]
            by_cases e : i = j
            · subst e
              rw [if_neg (Nat.lt_irrefl _), if_pos (Nat.lt_succ_self _), wz, ck_0]
            · by_cases z : i < j
              · rw [if_pos z, if_pos (by omega)]
              · rw [if_neg z, if_neg (by omega)]
          · by_cases e : i = j
            · subst e; exact absurd wz z1
            · rw [Le]; exact b12 i (by omega) z1 z2
        · obtain ⟨v, k2⟩ := hb c
          have wz : wmk now tl tm st bm id j (wms now tl tm st bm id j) = ld st bm j := by unfold wmk; rw [c1]; exact if_neg c
          obtain ⟨m1, m2, m3, m4, m5, m6, m7⟩ := (Gr.po v).meta k2
          have as : asV r (ck pa (ld st bm j)) (a + 1) = true := by
            by_cases z : ld st bm j = 0
            · rw [z, ck_0]; rfl
            · rw [ck_s z]
              obtain ⟨l1, l2, -⟩ := S.root v k2 hj z
              exact asV_rt b8 ((Gr.po l1).root l2).1
          have ow : Only [a + 1] r (wR r (a + 1) j (ck pa (ld st bm j))) := on_wR (by simp)
          refine ⟨(nI (j + 1), wR r (a + 1) j (ck pa (ld st bm j))), ?_, rfl, pj, ?_, b3.wR (Or.inl (by omega)), ⟨b4, ?_, b6, ?_, bv, b8, b9, b10⟩, fun i hi => ?_, fun i hi z1 z2 => ?_, by show hpN r ≤ _; omega, by show hpS r ≤ _; omega, ?_⟩
          · show b_P_writeTouched_13 p (some k) (ck pa bm) (some a) (nI j) r = _
            unfold b_P_writeTouched_13
            rw [ck_s c]
            simp (disch := omega) only [gd_T, dr_S, nm_v, cl_S, cv_S, bd_S, lk_L, lk_R, zbw_b, isK_e, isPg_3, isPg_4, isPg_6, asV_n, beq_self_eq_true, inb_N, inb_0, le_T, le_F, lt_T, lt_F, eq_F, le_0T, lt_0F, le_0F, eq_0F, nI_1, nI_add, pk_mul, nI_clamp, cl_0, if_true, if_false, of_nI, T_wI, L_wI, R_wI, N_wI, S_wI, T_wR, L_wR, I_wR, N_wR, S_wR, I_same, R_same, I_wIn, I_wIk, R_wRn, R_wRk, T_nwo, T_nwn, L_nwo, L_nwn, I_nwo, I_nwn, R_nwo, R_nwn, N_nw, S_nw, nar_1, nar_0, nar_01, b01_t0, b01_f0, b01_t1, b01_f1, ne_sn, eq_sn, sn_inj, Nr.1.1, e1, b4, m1, m3, m4, m5, m7 j hj, b7, b8, b9, as]
          · rw [Le]
            refine b2.o ow (by simp only [List.mem_cons, List.not_mem_nil, or_false]; omega) (by simp only [List.mem_cons, List.not_mem_nil, or_false]; omega) (fun i pg hi => ?_)
            obtain ⟨u1, u2, u3, u4, u5, u6, u7⟩ := b2.2.2.2 i pg hi
            obtain ⟨q1, q2, q3⟩ := u6.kk
            have n1 : pj i ≠ a := fun z => by rw [z, b5] at u3; cases u3
            have n2 : pj i ≠ a + 1 := fun z => by rw [z, b8] at q1; omega
            simp only [List.mem_cons, List.not_mem_nil, or_false]
            omega
          · simp (disch := omega) only [gd_T, dr_S, nm_v, cl_S, cv_S, bd_S, lk_L, lk_R, zbw_b, isK_e, isPg_3, isPg_4, isPg_6, asV_n, beq_self_eq_true, inb_N, inb_0, le_T, le_F, lt_T, lt_F, eq_F, le_0T, lt_0F, le_0F, eq_0F, nI_1, nI_add, pk_mul, nI_clamp, cl_0, if_true, if_false, of_nI, T_wI, L_wI, R_wI, N_wI, S_wI, T_wR, L_wR, I_wR, N_wR, S_wR, I_same, R_same, I_wIn, I_wIk, R_wRn, R_wRk, T_nwo, T_nwn, L_nwo, L_nwn, I_nwo, I_nwn, R_nwo, R_nwn, N_nw, S_nw, nar_1, nar_0, nar_01, b01_t0, b01_f0, b01_t1, b01_f1, ne_sn, eq_sn, sn_inj, b5]
          · simp (disch := omega) only [gd_T, dr_S, nm_v, cl_S, cv_S, bd_S, lk_L, lk_R, zbw_b, isK_e, isPg_3, isPg_4, isPg_6, asV_n, beq_self_eq_true, inb_N, inb_0, le_T, le_F, lt_T, lt_F, eq_F, le_0T, lt_0F, le_0F, eq_0F, nI_1, nI_add, pk_mul, nI_clamp, cl_0, if_true, if_false, of_nI, T_wI, L_wI, R_wI, N_wI, S_wI, T_wR, L_wR, I_wR, N_wR, S_wR, I_same, R_same, I_wIn, I_wIk, R_wRn, R_wRk, T_nwo, T_nwn, L_nwo, L_nwn, I_nwo, I_nwn, R_nwo, R_nwn, N_nw, S_nw, nar_1, nar_0, nar_01, b01_t0, b01_f0, b01_t1, b01_f1, ne_sn, eq_sn, sn_inj, b7]
          · dsimp only
            by_cases e : i = j
            · subst e
              rw [R_same, if_pos (Nat.lt_succ_self _), wz]
              refine (ck_paO fun z => ?_).symm
              have := (S.root v k2 hi z).2.2.1
              have := v.2.1
              omega
            · rw [R_wRk e, b11 i hi]
              by_cases z : i < j
              · rw [if_pos z, if_pos (by omega)]
              · rw [if_neg z, if_neg (by omega)]
          · by_cases e : i = j
            · subst e
              exfalso
              rw [wz] at z1 z2
              have := (S.root v k2 hj z1).2.2.1
              have := v.2.1
              omega
            · rw [Le]; exact b12 i (by omega) z1 z2
          · simp (disch := omega) only [gd_T, dr_S, nm_v, cl_S, cv_S, bd_S, lk_L, lk_R, zbw_b, isK_e, isPg_3, isPg_4, isPg_6, asV_n, beq_self_eq_true, inb_N, inb_0, le_T, le_F, lt_T, lt_F, eq_F, le_0T, lt_0F, le_0F, eq_0F, nI_1, nI_add, pk_mul, nI_clamp, cl_0, if_true, if_false, of_nI, T_wI, L_wI, R_wI, N_wI, S_wI, T_wR, L_wR, I_wR, N_wR, S_wR, I_same, R_same, I_wIn, I_wIk, R_wRn, R_wRk, T_nwo, T_nwn, L_nwo, L_nwn, I_nwo, I_nwn, R_nwo, R_nwn, N_nw, S_nw, nar_1, nar_0, nar_01, b01_t0, b01_f0, b01_t1, b01_f1, ne_sn, eq_sn, sn_inj, b15]
    · obtain ⟨z, r⟩ := s
      obtain ⟨b1, -⟩ := hs
      dsimp only at b1
      subst b1
      show b_P_writeTouched_13 p (some k) (ck pa bm) (some a) (nI 4) r = _
      unfold b_P_writeTouched_13
      simp (disch := omega) only [gd_T, dr_S, nm_v, cl_S, cv_S, bd_S, lk_L, lk_R, zbw_b, isK_e, isPg_3, isPg_4, isPg_6, asV_n, beq_self_eq_true, inb_N, inb_0, le_T, le_F, lt_T, lt_F, eq_F, le_0T, lt_0F, le_0F, eq_0F, nI_1, nI_add, pk_mul, nI_clamp, cl_0, if_true, if_false, of_nI, T_wI, L_wI, R_wI, N_wI, S_wI, T_wR, L_wR, I_wR, N_wR, S_wR, I_same, R_same, I_wIn, I_wIk, R_wRn, R_wRk, T_nwo, T_nwn, L_nwo, L_nwn, I_nwo, I_nwn, R_nwo, R_nwn, N_nw, S_nw, nar_1, nar_0, nar_01, b01_t0, b01_f0, b01_t1, b01_f1, ne_sn, eq_sn, sn_inj]
  obtain ⟨r, e, pj, b2, b3, ⟨b4, b5, b6, b7, bv, b8, b9, b10⟩, b11, b12, b13, b14, b15⟩ := key
  have L4 := Lle 4 (by omega)
  have C : CO r a (paN pa id pj) (mpg now tl tm st bm id ver) := Or.inr (Or.inr ⟨rfl, b4, bv, b7, b8, b9, b10, fun j hj => by rw [b11 j hj, if_pos hj]; rfl⟩)
  obtain ⟨h', u1, u2, u3, u4, u5, u6, u7⟩ := w_append b2 L4 pw21 C b5 b6 (fun j hj hz he => b12 j hj hz he)
  have l4 : (wms now tl tm st bm id 4).length = pw now tl tm - 1 := by rw [wms_len]; unfold pw; omega
  have kh : k < hpN h' := u2.1.2.1
  refine ⟨wR h' k 4 (some a), va_up pj (wms now tl tm st bm id 4).length a, ?_, ?_, (b3.tr u3 (fun x hx hl => ?_)).wR (Or.inr (by simp)), by show hpN h' ≤ _; omega, by show hpS h' ≤ _; omega, ?_⟩
  · unfold f_P_writeTouched f_K_close
    rw [ha] at i1 e u1 ⊢
    simp (disch := omega) only [gd_T, dr_S, nm_v, cl_S, cv_S, bd_S, lk_L, lk_R, zbw_b, isK_e, isPg_3, isPg_4, isPg_6, asV_n, beq_self_eq_true, inb_N, inb_0, le_T, le_F, lt_T, lt_F, eq_F, le_0T, lt_0F, le_0F, eq_0F, nI_1, nI_add, pk_mul, nI_clamp, cl_0, if_true, if_false, of_nI, T_wI, L_wI, R_wI, N_wI, S_wI, T_wR, L_wR, I_wR, N_wR, S_wR, I_same, R_same, I_wIn, I_wIk, R_wRn, R_wRk, T_nwo, T_nwn, L_nwo, L_nwn, I_nwo, I_nwn, R_nwo, R_nwn, N_nw, S_nw, nar_1, nar_0, nar_01, b01_t0, b01_f0, b01_t1, b01_f1, ne_sn, eq_sn, sn_inj, i1, e, b2.1.1, u1, u2.1.1]
  · obtain ⟨⟨x1, x2, x3, x4, x5, x6, x7, x8⟩, y1, y2, y3⟩ := u2
    refine ⟨⟨x1, x2, x3, x4, ?_, x6, x7, x8⟩, y1, y2, fun i pg hi => ?_⟩
    · simp (disch := omega) only [gd_T, dr_S, nm_v, cl_S, cv_S, bd_S, lk_L, lk_R, zbw_b, isK_e, isPg_3, isPg_4, isPg_6, asV_n, beq_self_eq_true, inb_N, inb_0, le_T, le_F, lt_T, lt_F, eq_F, le_0T, lt_0F, le_0F, eq_0F, nI_1, nI_add, pk_mul, nI_clamp, cl_0, if_true, if_false, of_nI, T_wI, L_wI, R_wI, N_wI, S_wI, T_wR, L_wR, I_wR, N_wR, S_wR, I_same, R_same, I_wIn, I_wIk, R_wRn, R_wRk, T_nwo, T_nwn, L_nwo, L_nwn, I_nwo, I_nwn, R_nwo, R_nwn, N_nw, S_nw, nar_1, nar_0, nar_01, b01_t0, b01_f0, b01_t1, b01_f1, ne_sn, eq_sn, sn_inj, x5]
    · obtain ⟨z1, z2, z3, z4, z5, z6, z7⟩ := y3 i pg hi
      obtain ⟨q1, q2, q3⟩ := z6.kk
      have n1 : va_up pj (wms now tl tm st bm id 4).length a i ≠ k := ne_T (h := h') (by rw [x1]; omega)
      have n2 : va_up pj (wms now tl tm st bm id 4).length a i + 1 ≠ k := ne_T (h := h') (by rw [x1]; omega)
      refine ⟨?_, z2, ?_, z4, z5, z6.at (Nat.le_refl _) rfl rfl rfl (fun j _ => ⟨rfl, ?_⟩) ⟨rfl, ?_⟩ (fun _ _ _ _ => rfl), z7⟩
      · simp (disch := omega) only [gd_T, dr_S, nm_v, cl_S, cv_S, bd_S, lk_L, lk_R, zbw_b, isK_e, isPg_3, isPg_4, isPg_6, asV_n, beq_self_eq_true, inb_N, inb_0, le_T, le_F, lt_T, lt_F, eq_F, le_0T, lt_0F, le_0F, eq_0F, nI_1, nI_add, pk_mul, nI_clamp, cl_0, if_true, if_false, of_nI, T_wI, L_wI, R_wI, N_wI, S_wI, T_wR, L_wR, I_wR, N_wR, S_wR, I_same, R_same, I_wIn, I_wIk, R_wRn, R_wRk, T_nwo, T_nwn, L_nwo, L_nwn, I_nwo, I_nwn, R_nwo, R_nwn, N_nw, S_nw, nar_1, nar_0, nar_01, b01_t0, b01_f0, b01_t1, b01_f1, ne_sn, eq_sn, sn_inj, z1]
      · simp (disch := omega) only [gd_T, dr_S, nm_v, cl_S, cv_S, bd_S, lk_L, lk_R, zbw_b, isK_e, isPg_3, isPg_4, isPg_6, asV_n, beq_self_eq_true, inb_N, inb_0, le_T, le_F, lt_T, lt_F, eq_F, le_0T, lt_0F, le_0F, eq_0F, nI_1, nI_add, pk_mul, nI_clamp, cl_0, if_true, if_false, of_nI, T_wI, L_wI, R_wI, N_wI, S_wI, T_wR, L_wR, I_wR, N_wR, S_wR, I_same, R_same, I_wIn, I_wIk, R_wRn, R_wRk, T_nwo, T_nwn, L_nwo, L_nwn, I_nwo, I_nwn, R_nwo, R_nwn, N_nw, S_nw, nar_1, nar_0, nar_01, b01_t0, b01_f0, b01_t1, b01_f1, ne_sn, eq_sn, sn_inj, z3]
      · simp (disch := omega) only [gd_T, dr_S, nm_v, cl_S, cv_S, bd_S, lk_L, lk_R, zbw_b, isK_e, isPg_3, isPg_4, isPg_6, asV_n, beq_self_eq_true, inb_N, inb_0, le_T, le_F, lt_T, lt_F, eq_F, le_0T, lt_0F, le_0F, eq_0F, nI_1, nI_add, pk_mul, nI_clamp, cl_0, if_true, if_false, of_nI, T_wI, L_wI, R_wI, N_wI, S_wI, T_wR, L_wR, I_wR, N_wR, S_wR, I_same, R_same, I_wIn, I_wIk, R_wRn, R_wRk, T_nwo, T_nwn, L_nwo, L_nwn, I_nwo, I_nwn, R_nwo, R_nwn, N_nw, S_nw, nar_1, nar_0, nar_01, b01_t0, b01_f0, b01_t1, b01_f1, ne_sn, eq_sn, sn_inj]
      · funext z; simp (disch := omega) only [gd_T, dr_S, nm_v, cl_S, cv_S, bd_S, lk_L, lk_R, zbw_b, isK_e, isPg_3, isPg_4, isPg_6, asV_n, beq_self_eq_true, inb_N, inb_0, le_T, le_F, lt_T, lt_F, eq_F, le_0T, lt_0F, le_0F, eq_0F, nI_1, nI_add, pk_mul, nI_clamp, cl_0, if_true, if_false, of_nI, T_wI, L_wI, R_wI, N_wI, S_wI, T_wR, L_wR, I_wR, N_wR, S_wR, I_same, R_same, I_wIn, I_wIk, R_wRn, R_wRk, T_nwo, T_nwn, L_nwo, L_nwn, I_nwo, I_nwn, R_nwo, R_nwn, N_nw, S_nw, nar_1, nar_0, nar_01, b01_t0, b01_f0, b01_t1, b01_f1, ne_sn, eq_sn, sn_inj]
  · simp only [List.mem_cons, List.not_mem_nil, or_false] at hx ⊢
    omega
  · rw [R_same, ← l4]
    unfold va_up; rw [if_pos rfl]

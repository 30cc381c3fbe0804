/-! the class's marks -/
def XM (h : Hp) (pa : Nat → Nat) (np : Nat → Nat) (nxt : Nat) (mr : Nat → Nat) : Prop := ∀ k, vk np nxt k → hpI h (pa k) 2 = nI (mr k)
theorem XM.set {h : Hp} {ca ka pa : Nat → Nat} {st : Nat → Pg} {fs np : Nat → Nat} {nxt k rd : Nat} {mr : Nat → Nat} (G : XG h ca ka pa st fs np nxt) (S : SW st fs np nxt) (X : XM h pa np nxt mr) (v : vk np nxt k) : XM (wI h (pa k) 2 (nI rd)) pa np nxt (fun x => bif decide (x = k) then rd else mr x) := by
  intro x hx
  dsimp only
  by_cases e : x = k
  · subst e
    rw [I_same, decide_eq_true rfl]; rfl
  · rw [I_wIn (fun z => e (G.pa S hx v z)), X x hx, decide_eq_false e]; rfl
theorem bif_or (a b : Bool) (x y : Nat) : (bif a then x else bif b then x else y) = bif b || a then x else y := by cases a <;> cases b <;> rfl
theorem Sx.m {h : Hp} {a : Nat} {v : Int32} (t : hpT h a = 3 ∨ hpT h a = 4 ∨ hpT h a = 6) : Sx h (wI h a 2 v) := by
  refine ⟨Nat.le_refl _, fun x hx => ⟨rfl, rfl, fun k hk => ⟨if_neg fun z => ?_, rfl⟩⟩⟩
  rw [z.1, z.2] at hk
  omega
theorem Sx.refl (h : Hp) : Sx h h := ⟨Nat.le_refl _, fun _ _ => ⟨rfl, rfl, fun _ _ => ⟨rfl, rfl⟩⟩⟩
theorem o_mark {h : Hp} {ca ka pa : Nat → Nat} {st : Nat → Pg} {fs np : Nat → Nat} {nxt k rd : Nat} {mr : Nat → Nat} (G : XG h ca ka pa st fs np nxt) (S : SW st fs np nxt) (X : XM h pa np nxt mr) (v : vk np nxt k) (hk : kd st k = 1) :
    ∃ h', f_O_markLive (pa k) (nI rd) h = some h' ∧ Sx h h' ∧ XM h' pa np nxt (fun x => bif decide (x = k) || rl st k 4 x then rd else mr x) ∧ hpN h' = hpN h ∧ hpS h' = hpS h := by
  obtain ⟨a1, a3, a4, a5, a6, a7⟩ := (G.po v).root hk
  have key : ∃ r, l_O_markLive_7 (pa k) (nI rd) ((0 : Int32), wI h (pa k) 2 (nI rd)) = some r ∧ (Sx h r ∧ XM r pa np nxt (fun x => bif decide (x = k) || rl st k 4 x then rd else mr x) ∧ hpN r = hpN h ∧ hpS r = hpS h) := by
    refine lp_up (b := fun s => b_O_markLive_7 (pa k) (nI rd) s.1 s.2) (fun j s => s.1 = nI j ∧ Sx h s.2 ∧ XM s.2 pa np nxt (fun x => bif decide (x = k) || rl st k j x then rd else mr x) ∧ hpN s.2 = hpN h ∧ hpS s.2 = hpS h) _ 4 (by decide) ⟨rfl, Sx.m (Or.inr (Or.inr a1)), ?_, rfl, rfl⟩ (fun j s hj hs => Or.inl ?_) (fun s hs => ⟨s.2, ?_, hs.2⟩)
    · have := X.set G S v (rd := rd)
      intro x hx
      have e := this x hx
      dsimp only at e ⊢
      rw [show rl st k 0 x = false from rfl, Bool.or_false]
      exact e
    · obtain ⟨a, r⟩ := s
      obtain ⟨b1, b2, b3, b4, b5⟩ := hs
      dsimp only at b1 b2 b3 b4 b5
      subst b1
      have Gr := G.ext b2
      obtain ⟨q1, q3, q4, q5, q6, q7⟩ := (Gr.po v).root hk
      have q8 := q7 j hj
      by_cases c : ld st k j = 0
      · rw [c, ck_0] at q8
        refine ⟨(nI (j + 1), r), ?_, rfl, b2, fun x hx => ?_, b4, b5⟩
        · show b_O_markLive_7 (pa k) (nI rd) (nI j) r = _
          unfold b_O_markLive_7
          simp (disch := omega) only [gd_T, dr_S, nm_v, cl_S, cv_S, bd_S, lk_L, lk_R, zbw_b, isK_e, isPg_3, isPg_4, isPg_6, asV_n, beq_self_eq_true, inb_N, inb_0, le_T, le_F, lt_T, lt_F, eq_F, le_0T, lt_0F, le_0F, eq_0F, nI_1, nI_add, pk_mul, nI_clamp, cl_0, if_true, if_false, of_nI, T_wI, L_wI, R_wI, N_wI, S_wI, T_wR, L_wR, I_wR, N_wR, S_wR, I_same, R_same, I_wIn, I_wIk, R_wRn, R_wRk, T_nwo, T_nwn, L_nwo, L_nwn, I_nwo, I_nwn, R_nwo, R_nwn, N_nw, S_nw, nar_1, nar_0, nar_01, b01_t0, b01_f0, b01_t1, b01_f1, ne_sn, eq_sn, sn_inj, q1, q3, q4, q5, q8]
        · have := b3 x hx
          dsimp only at this ⊢
          rw [rl_s, dec_n c, Bool.false_and, Bool.or_false]
          exact this
      · rw [ck_s c] at q8
        obtain ⟨d1, d2, -⟩ := S.leaf v hk hj c
        obtain ⟨e1, -⟩ := (Gr.po d1).leaf d2
        refine ⟨(nI (j + 1), wI r (pa (ld st k j)) 2 (nI rd)), ?_, rfl, b2.trans (Sx.m (Or.inl e1)), fun x hx => ?_, b4, b5⟩
        · show b_O_markLive_7 (pa k) (nI rd) (nI j) r = _
          unfold b_O_markLive_7
          simp (disch := omega) only [gd_T, dr_S, nm_v, cl_S, cv_S, bd_S, lk_L, lk_R, zbw_b, isK_e, isPg_3, isPg_4, isPg_6, asV_n, beq_self_eq_true, inb_N, inb_0, le_T, le_F, lt_T, lt_F, eq_F, le_0T, lt_0F, le_0F, eq_0F, nI_1, nI_add, pk_mul, nI_clamp, cl_0, if_true, if_false, of_nI, T_wI, L_wI, R_wI, N_wI, S_wI, T_wR, L_wR, I_wR, N_wR, S_wR, I_same, R_same, I_wIn, I_wIk, R_wRn, R_wRk, T_nwo, T_nwn, L_nwo, L_nwn, I_nwo, I_nwn, R_nwo, R_nwn, N_nw, S_nw, nar_1, nar_0, nar_01, b01_t0, b01_f0, b01_t1, b01_f1, ne_sn, eq_sn, sn_inj, q1, q3, q4, q5, q8, e1]
        · have := b3.set Gr S d1 (rd := rd) x hx
          dsimp only at this ⊢
          rw [rl_s, dec_p c, Bool.true_and, this, bif_or, Bool.or_assoc]
    · obtain ⟨a, r⟩ := s
      obtain ⟨b1, -⟩ := hs
      dsimp only at b1
      subst b1
      show b_O_markLive_7 (pa k) (nI rd) (nI 4) r = _
      unfold b_O_markLive_7
      simp (disch := omega) only [gd_T, dr_S, nm_v, cl_S, cv_S, bd_S, lk_L, lk_R, zbw_b, isK_e, isPg_3, isPg_4, isPg_6, asV_n, beq_self_eq_true, inb_N, inb_0, le_T, le_F, lt_T, lt_F, eq_F, le_0T, lt_0F, le_0F, eq_0F, nI_1, nI_add, pk_mul, nI_clamp, cl_0, if_true, if_false, of_nI, T_wI, L_wI, R_wI, N_wI, S_wI, T_wR, L_wR, I_wR, N_wR, S_wR, I_same, R_same, I_wIn, I_wIk, R_wRn, R_wRk, T_nwo, T_nwn, L_nwo, L_nwn, I_nwo, I_nwn, R_nwo, R_nwn, N_nw, S_nw, nar_1, nar_0, nar_01, b01_t0, b01_f0, b01_t1, b01_f1, ne_sn, eq_sn, sn_inj]
  obtain ⟨r, e, q⟩ := key
  refine ⟨r, ?_, q⟩
  unfold f_O_markLive
  simp (disch := omega) only [gd_T, dr_S, nm_v, cl_S, cv_S, bd_S, lk_L, lk_R, zbw_b, isK_e, isPg_3, isPg_4, isPg_6, asV_n, beq_self_eq_true, inb_N, inb_0, le_T, le_F, lt_T, lt_F, eq_F, le_0T, lt_0F, le_0F, eq_0F, nI_1, nI_add, pk_mul, nI_clamp, cl_0, if_true, if_false, of_nI, T_wI, L_wI, R_wI, N_wI, S_wI, T_wR, L_wR, I_wR, N_wR, S_wR, I_same, R_same, I_wIn, I_wIk, R_wRn, R_wRk, T_nwo, T_nwn, L_nwo, L_nwn, I_nwo, I_nwn, R_nwo, R_nwn, N_nw, S_nw, nar_1, nar_0, nar_01, b01_t0, b01_f0, b01_t1, b01_f1, ne_sn, eq_sn, sn_inj, a1, e]
theorem e_mark {h : Hp} {ca ka pa : Nat → Nat} {st : Nat → Pg} {fs np : Nat → Nat} {nxt k rd : Nat} {mr : Nat → Nat} (G : XG h ca ka pa st fs np nxt) (S : SW st fs np nxt) (X : XM h pa np nxt mr) (v : vk np nxt k) (hk : kd st k = 2) :
    ∃ h', f_E_markLive (pa k) (nI rd) h = some h' ∧ Sx h h' ∧ XM h' pa np nxt (fun x => bif rcb st k x then rd else mr x) ∧ hpN h' = hpN h ∧ hpS h' = hpS h := by
  obtain ⟨a1, -, a3, a4, a5, a6, a7⟩ := (G.po v).meta hk
  have key : ∃ r, l_E_markLive_7 (pa k) (nI rd) ((0 : Int32), wI h (pa k) 2 (nI rd)) = some r ∧ (Sx h r ∧ XM r pa np nxt (fun x => bif rcb st k x then rd else mr x) ∧ hpN r = hpN h ∧ hpS r = hpS h) := by
    refine lp_up (b := fun s => b_E_markLive_7 (pa k) (nI rd) s.1 s.2) (fun j s => s.1 = nI j ∧ Sx h s.2 ∧ XM s.2 pa np nxt (fun x => bif decide (x = k) || rr st k j x then rd else mr x) ∧ hpN s.2 = hpN h ∧ hpS s.2 = hpS h) _ 4 (by decide) ⟨rfl, Sx.m (Or.inr (Or.inl a1)), ?_, rfl, rfl⟩ (fun j s hj hs => Or.inl ?_) (fun s hs => ⟨s.2, ?_, hs.2⟩)
    · have := X.set G S v (rd := rd)
      intro x hx
      have e := this x hx
      dsimp only at e ⊢
      rw [show rr st k 0 x = false from rfl, Bool.or_false]
      exact e
    · obtain ⟨a, r⟩ := s
      obtain ⟨b1, b2, b3, b4, b5⟩ := hs
      dsimp only at b1 b2 b3 b4 b5
      subst b1
      have Gr := G.ext b2
      obtain ⟨q1, -, q3, q4, q5, q6, q7⟩ := (Gr.po v).meta hk
      have q8 := q7 j hj
      by_cases c : ld st k j = 0
      · rw [c, ck_0] at q8
        refine ⟨(nI (j + 1), r), ?_, rfl, b2, fun x hx => ?_, b4, b5⟩
        · show b_E_markLive_7 (pa k) (nI rd) (nI j) r = _
          unfold b_E_markLive_7
          simp (disch := omega) only [gd_T, dr_S, nm_v, cl_S, cv_S, bd_S, lk_L, lk_R, zbw_b, isK_e, isPg_3, isPg_4, isPg_6, asV_n, beq_self_eq_true, inb_N, inb_0, le_T, le_F, lt_T, lt_F, eq_F, le_0T, lt_0F, le_0F, eq_0F, nI_1, nI_add, pk_mul, nI_clamp, cl_0, if_true, if_false, of_nI, T_wI, L_wI, R_wI, N_wI, S_wI, T_wR, L_wR, I_wR, N_wR, S_wR, I_same, R_same, I_wIn, I_wIk, R_wRn, R_wRk, T_nwo, T_nwn, L_nwo, L_nwn, I_nwo, I_nwn, R_nwo, R_nwn, N_nw, S_nw, nar_1, nar_0, nar_01, b01_t0, b01_f0, b01_t1, b01_f1, ne_sn, eq_sn, sn_inj, q1, q3, q4, q5, q8]
        · have := b3 x hx
          dsimp only at this ⊢
          rw [rr_s, dec_n c, Bool.false_and, Bool.or_false]
          exact this
      · rw [ck_s c] at q8
        obtain ⟨d1, d2, -⟩ := S.root v hk hj c
        obtain ⟨e1, -⟩ := (Gr.po d1).root d2
        obtain ⟨r', f1, f2, f3, f4, f5⟩ := o_mark Gr S b3 d1 d2 (rd := rd)
        refine ⟨(nI (j + 1), r'), ?_, rfl, b2.trans f2, fun x hx => ?_, f4.trans b4, f5.trans b5⟩
        · show b_E_markLive_7 (pa k) (nI rd) (nI j) r = _
          unfold b_E_markLive_7
          simp (disch := omega) only [gd_T, dr_S, nm_v, cl_S, cv_S, bd_S, lk_L, lk_R, zbw_b, isK_e, isPg_3, isPg_4, isPg_6, asV_n, beq_self_eq_true, inb_N, inb_0, le_T, le_F, lt_T, lt_F, eq_F, le_0T, lt_0F, le_0F, eq_0F, nI_1, nI_add, pk_mul, nI_clamp, cl_0, if_true, if_false, of_nI, T_wI, L_wI, R_wI, N_wI, S_wI, T_wR, L_wR, I_wR, N_wR, S_wR, I_same, R_same, I_wIn, I_wIk, R_wRn, R_wRk, T_nwo, T_nwn, L_nwo, L_nwn, I_nwo, I_nwn, R_nwo, R_nwn, N_nw, S_nw, nar_1, nar_0, nar_01, b01_t0, b01_f0, b01_t1, b01_f1, ne_sn, eq_sn, sn_inj, q1, q3, q4, q5, q8, e1, f1]
        · have := f3 x hx
          dsimp only at this ⊢
          rw [rr_s, dec_p c, Bool.true_and, this, bif_or, Bool.or_assoc]
    · obtain ⟨a, r⟩ := s
      obtain ⟨b1, -⟩ := hs
      dsimp only at b1
      subst b1
      show b_E_markLive_7 (pa k) (nI rd) (nI 4) r = _
      unfold b_E_markLive_7
      simp (disch := omega) only [gd_T, dr_S, nm_v, cl_S, cv_S, bd_S, lk_L, lk_R, zbw_b, isK_e, isPg_3, isPg_4, isPg_6, asV_n, beq_self_eq_true, inb_N, inb_0, le_T, le_F, lt_T, lt_F, eq_F, le_0T, lt_0F, le_0F, eq_0F, nI_1, nI_add, pk_mul, nI_clamp, cl_0, if_true, if_false, of_nI, T_wI, L_wI, R_wI, N_wI, S_wI, T_wR, L_wR, I_wR, N_wR, S_wR, I_same, R_same, I_wIn, I_wIk, R_wRn, R_wRk, T_nwo, T_nwn, L_nwo, L_nwn, I_nwo, I_nwn, R_nwo, R_nwn, N_nw, S_nw, nar_1, nar_0, nar_01, b01_t0, b01_f0, b01_t1, b01_f1, ne_sn, eq_sn, sn_inj]
  obtain ⟨r, e, q⟩ := key
  refine ⟨r, ?_, q⟩
  unfold f_E_markLive
  simp (disch := omega) only [gd_T, dr_S, nm_v, cl_S, cv_S, bd_S, lk_L, lk_R, zbw_b, isK_e, isPg_3, isPg_4, isPg_6, asV_n, beq_self_eq_true, inb_N, inb_0, le_T, le_F, lt_T, lt_F, eq_F, le_0T, lt_0F, le_0F, eq_0F, nI_1, nI_add, pk_mul, nI_clamp, cl_0, if_true, if_false, of_nI, T_wI, L_wI, R_wI, N_wI, S_wI, T_wR, L_wR, I_wR, N_wR, S_wR, I_same, R_same, I_wIn, I_wIk, R_wRn, R_wRk, T_nwo, T_nwn, L_nwo, L_nwn, I_nwo, I_nwn, R_nwo, R_nwn, N_nw, S_nw, nar_1, nar_0, nar_01, b01_t0, b01_f0, b01_t1, b01_f1, ne_sn, eq_sn, sn_inj, a1, e]
/-- the versions' metas are metas -/
def VK (st : Nat → Pg) (np : Nat → Nat) (nxt : Nat) (vers : List Vt) : Prop := ∀ t ∈ vers, t.2.2 ≠ 0 → vk np nxt t.2.2 ∧ kd st t.2.2 = 2
/-- what keeps lists and versions -/
def Sv (h h' : Hp) : Prop := hpN h ≤ hpN h' ∧ ∀ a, a < hpN h → hpT h' a = hpT h a ∧ hpL h' a = hpL h a ∧ ∀ k, (hpT h a = 7 ∨ hpT h a = 9 ∨ hpT h a = 64 ∨ hpT h a = 73 ∨ hpT h a = 74) → hpI h' a k = hpI h a k ∧ hpR h' a k = hpR h a k
def okV (w : Wl) : Bool := w.1.all (fun x => !decide (x.1 = 7) && (!decide (x.1 = 9) && (!decide (x.1 = 64) && (!decide (x.1 = 73) && !decide (x.1 = 74))))) && w.2.all fun x => !decide (x = 7) && (!decide (x = 9) && (!decide (x = 64) && (!decide (x = 73) && !decide (x = 74))))
theorem Sv.k {h h' : Hp} {w : Wl} (K : Keep w h h') (hw : okV w = true) : Sv h h' := by
  unfold okV at hw
  rw [Bool.and_eq_true, List.all_eq_true, List.all_eq_true] at hw
  obtain ⟨w1, w2⟩ := hw
  refine ⟨K.1, fun a ha => ⟨(K.2.2.1 a ha).1, (K.2.2.1 a ha).2, fun k hk => K.2.2.2 a ha k ?_⟩⟩
  rintro (q | q)
  · have := w1 _ q
    simp only [Bool.and_eq_true, Bool.not_eq_true', decide_eq_false_iff_not] at this
    omega
  · have := w2 _ q
    simp only [Bool.and_eq_true, Bool.not_eq_true', decide_eq_false_iff_not] at this
    omega
theorem Sv.trans {h h1 h2 : Hp} (a : Sv h h1) (b : Sv h1 h2) : Sv h h2 := by
  refine ⟨Nat.le_trans a.1 b.1, fun x hx => ?_⟩
  obtain ⟨p1, p2, p3⟩ := a.2 x hx
  obtain ⟨q1, q2, q3⟩ := b.2 x (Nat.lt_of_lt_of_le hx a.1)
  refine ⟨q1.trans p1, q2.trans p2, fun k hk => ?_⟩
  obtain ⟨u1, u2⟩ := p3 k hk
  obtain ⟨w1, w2⟩ := q3 k (by rw [p1]; exact hk)
  exact ⟨w1.trans u1, w2.trans u2⟩
theorem Sv.refl (h : Hp) : Sv h h := ⟨Nat.le_refl _, fun _ _ => ⟨rfl, rfl, fun _ _ => ⟨rfl, rfl⟩⟩⟩
theorem Sv.m {h : Hp} {a k : Nat} {v : Int32} (t : hpT h a ≠ 7 ∧ hpT h a ≠ 9 ∧ hpT h a < 64) : Sv h (wI h a k v) := by
  refine ⟨Nat.le_refl _, fun x hx => ⟨rfl, rfl, fun j hj => ⟨if_neg fun z => ?_, rfl⟩⟩⟩
  rw [z.1] at hj
  omega
theorem Sv.mR {h : Hp} {a k : Nat} {v : Option Nat} (t : hpT h a ≠ 7 ∧ hpT h a ≠ 9 ∧ hpT h a < 64) : Sv h (wR h a k v) := by
  refine ⟨Nat.le_refl _, fun x hx => ⟨rfl, rfl, fun j hj => ⟨rfl, if_neg fun z => ?_⟩⟩⟩
  rw [z.1] at hj
  omega
theorem AL.ext {e0 cs e : Nat} {h h' : Hp} {l : List Nat} (H : AL e0 h cs e l) (he : e0 < hpN h) (s : Sv h h') : AL e0 h' cs e l := by
  have en : e < hpN h := by
    rcases H.2.2.2.2.2.2 with q | q
    · rw [q.1]; exact he
    · exact q.2.1
  obtain ⟨s1, s2⟩ := s
  obtain ⟨c1, c2, c3⟩ := s2 cs H.2.1
  obtain ⟨d1, d2, d3⟩ := s2 e en
  refine H.keep s1 (fun b hb => ⟨(s2 b hb).1, (s2 b hb).2.1⟩) (c3 1 (Or.inr (Or.inl H.1))).1 (c3 0 (Or.inr (Or.inl H.1))).2 (fun _ i _ => (d3 i (Or.inr (Or.inr H.ek))).2) (fun q => ⟨by rw [d1]; exact q, d2⟩)
theorem VO.ext {h h' : Hp} {a : Nat} {t : Vt} {pk : Nat → Option Nat} (O : VO h a t pk) (s : Sv h h') : VO h' a t pk := by
  obtain ⟨o1, o2, o3, o4, o5⟩ := O
  obtain ⟨c1, c2, c3⟩ := s.2 a o2
  have g := fun k => c3 k (Or.inl o1)
  exact ⟨by rw [c1]; exact o1, Nat.lt_of_lt_of_le o2 s.1, by rw [(g 0).1]; exact o3, by rw [(g 1).2]; exact o4, by rw [(g 2).1]; exact o5⟩
theorem XV.ext {e0 vs ev : Nat} {h h' : Hp} {va : List Nat} {vers : List Vt} {pk : Nat → Option Nat} (V : XV e0 h vs ev va vers pk) (he : e0 < hpN h) (s : Sv h h') : XV e0 h' vs ev va vers pk :=
  ⟨V.1.ext he s, V.2.1, fun i a t ha ht => (V.2.2 i a t ha ht).ext s⟩
theorem lvb_s {st : Nat → Pg} {vers : List Vt} {i x : Nat} {t : Vt} (h : vers[i]? = some t) : lvb st (vers.take (i + 1)) x = (lvb st (vers.take i) x || (decide (t.2.2 ≠ 0) && rcb st t.2.2 x)) := by
  unfold lvb
  rw [take_s h, List.any_append, List.any_cons, List.any_nil, Bool.or_false]
theorem x_markLive {e0 : Nat} {h : Hp} {x p F lc vs ev rd : Nat} {va : List Nat} {vers : List Vt} {ca ka pa : Nat → Nat} {st : Nat → Pg} {fs np : Nat → Nat} {nxt : Nat} {mr : Nat → Nat} (X : XO h x p F lc vs) (V : XV e0 h vs ev va vers (ck pa)) (he : e0 < hpN h) (G : XG h ca ka pa st fs np nxt) (S : SW st fs np nxt) (vks : VK st np nxt vers) (Q : XM h pa np nxt mr) (hr : hpI h x 7 = nI rd) :
    ∃ h', f_X_markLivePages x h = some h' ∧ Sx h h' ∧ Sv h h' ∧ XM h' pa np nxt (fun k => bif lvb st vers k then rd + 1 else mr k) ∧ hpI h' x 7 = nI (rd + 1) ∧ hpN h' = hpN h ∧ hpS h' = hpS h := by
  obtain ⟨g, hg⟩ : ∃ g, g = wI h x 7 (nI (rd + 1)) := ⟨_, rfl⟩
  have kg : Keep W_X_markLivePages h g := kw_I hg X.1 (Or.inl (by decide))
  have Sg : Sx h g := Sx.k kg (by decide)
  have Vg : Sv h g := Sv.k kg (by decide)
  have Xg : XO g x p F lc vs := by rw [hg]; exact X
  have rg : hpI g x 7 = nI (rd + 1) := by rw [hg]; exact I_same
  have Qg : XM g pa np nxt mr := fun k hk => by
    rw [hg, I_wIn (ne_T (h := h) (by rw [X.1]; have := (G.po hk).kk; omega)), Q k hk]
  have key : ∃ r, l_X_markLivePages_12 x ((0 : Int32), g) = some r ∧ (Sx g r ∧ Sv g r ∧ XM r pa np nxt (fun k => bif lvb st (vers.take vers.length) k then rd + 1 else mr k) ∧ hpI r x 7 = nI (rd + 1) ∧ hpN r = hpN g ∧ hpS r = hpS g) := by
    have hlen := V.2.1
    have h60 := V.1.2.2.2.2.2.1
    refine lp_up (b := fun s => b_X_markLivePages_12 x s.1 s.2) (fun j s => s.1 = nI j ∧ Sx g s.2 ∧ Sv g s.2 ∧ XM s.2 pa np nxt (fun k => bif lvb st (vers.take j) k then rd + 1 else mr k) ∧ (hpI s.2 x 7 = nI (rd + 1) ∧ XO s.2 x p F lc vs) ∧ hpN s.2 = hpN g ∧ hpS s.2 = hpS g) _ vers.length (by omega) ⟨rfl, Sx.refl _, Sv.refl _, ?_, ⟨rg, Xg⟩, rfl, rfl⟩ (fun j s hj hs => Or.inl ?_) (fun s hs => ⟨s.2, ?_, hs.2.1, hs.2.2.1, hs.2.2.2.1, hs.2.2.2.2.1.1, hs.2.2.2.2.2⟩)
    · intro k hk
      rw [Qg k hk, List.take_zero]; rfl
    · obtain ⟨a, r⟩ := s
      obtain ⟨b1, b2, b3, b4, ⟨b5, b6⟩, b7, b8⟩ := hs
      dsimp only at b1 b2 b3 b4 b5 b6 b7 b8
      subst b1
      obtain ⟨a, ha⟩ : ∃ a, va[j]? = some a := ⟨_, List.getElem?_eq_getElem (by omega)⟩
      obtain ⟨t, ht⟩ : ∃ t, vers[j]? = some t := ⟨_, List.getElem?_eq_getElem hj⟩
      have Vr := V.ext he (Vg.trans b3)
      have Gr := G.ext (Sg.trans b2)
      have O := Vr.2.2 j a t ha ht
      have sz := al_size Vr.1
      have gt := al_get Vr.1 (i := j) (by omega)
      rw [ha] at gt
      obtain ⟨o1, o2, o3, o4, o5⟩ := O
      obtain ⟨x1, x2, x3, x4, x5, x6⟩ := b6
      have lt := Vr.1.1
      by_cases c : t.2.2 = 0
      · rw [c, ck_0] at o4
        refine ⟨(nI (j + 1), r), ?_, rfl, b2, b3, fun k hk => ?_, ⟨b5, x1, x2, x3, x4, x5, x6⟩, b7, b8⟩
        · show b_X_markLivePages_12 x (nI j) r = _
          unfold b_X_markLivePages_12
          simp (disch := omega) only [gd_T, dr_S, nm_v, cl_S, cv_S, bd_S, lk_L, lk_R, zbw_b, isK_e, isPg_3, isPg_4, isPg_6, asV_n, beq_self_eq_true, inb_N, inb_0, le_T, le_F, lt_T, lt_F, eq_F, le_0T, lt_0F, le_0F, eq_0F, nI_1, nI_add, pk_mul, nI_clamp, cl_0, if_true, if_false, of_nI, T_wI, L_wI, R_wI, N_wI, S_wI, T_wR, L_wR, I_wR, N_wR, S_wR, I_same, R_same, I_wIn, I_wIk, R_wRn, R_wRk, T_nwo, T_nwn, L_nwo, L_nwn, I_nwo, I_nwn, R_nwo, R_nwn, N_nw, S_nw, nar_1, nar_0, nar_01, b01_t0, b01_f0, b01_t1, b01_f1, ne_sn, eq_sn, sn_inj, x1, x6, lt, sz, gt, caB_s o1, o1, o4]
        · dsimp only
          rw [lvb_s ht, dec_n c, Bool.false_and, Bool.or_false]; exact b4 k hk
      · rw [ck_s c] at o4
        obtain ⟨v1, v2⟩ := vks t (List.mem_of_getElem? ht) c
        obtain ⟨e1, -⟩ := (Gr.po v1).meta v2
        obtain ⟨r', f1, f2, f3, f4, f5⟩ := e_mark Gr S b4 v1 v2 (rd := rd + 1)
        have K := fr_E_markLive (C := cT) (mi := 0) f1
        refine ⟨(nI (j + 1), r'), ?_, rfl, b2.trans f2, b3.trans (Sv.k K (by decide)), fun k hk => ?_, ⟨?_, ?_⟩, f4.trans b7, f5.trans b8⟩
        · show b_X_markLivePages_12 x (nI j) r = _
          unfold b_X_markLivePages_12
          simp (disch := omega) only [gd_T, dr_S, nm_v, cl_S, cv_S, bd_S, lk_L, lk_R, zbw_b, isK_e, isPg_3, isPg_4, isPg_6, asV_n, beq_self_eq_true, inb_N, inb_0, le_T, le_F, lt_T, lt_F, eq_F, le_0T, lt_0F, le_0F, eq_0F, nI_1, nI_add, pk_mul, nI_clamp, cl_0, if_true, if_false, of_nI, T_wI, L_wI, R_wI, N_wI, S_wI, T_wR, L_wR, I_wR, N_wR, S_wR, I_same, R_same, I_wIn, I_wIk, R_wRn, R_wRk, T_nwo, T_nwn, L_nwo, L_nwn, I_nwo, I_nwn, R_nwo, R_nwn, N_nw, S_nw, nar_1, nar_0, nar_01, b01_t0, b01_f0, b01_t1, b01_f1, ne_sn, eq_sn, sn_inj, x1, x6, lt, sz, gt, caB_s o1, o1, o4, e1, b5, f1]
        · have := f3 k hk
          dsimp only at this ⊢
          rw [this, bif_or, lvb_s ht, dec_p c, Bool.true_and]
        · rw [(K.2.2.2 x x2 7 (by rw [x1]; exact nF_i (by decide))).1]; exact b5
        · have kr := fun k => (K.2.2.2 x x2 k (by rw [x1]; exact nW_i (by decide) k)).2
          exact ⟨by rw [(K.2.2.1 x x2).1]; exact x1, by rw [f4]; exact x2, by rw [kr 0]; exact x3, by rw [kr 1]; exact x4, by rw [kr 2]; exact x5, by rw [kr 3]; exact x6⟩
    · obtain ⟨a, r⟩ := s
      obtain ⟨b1, b2, b3, b4, ⟨b5, b6⟩, b7, b8⟩ := hs
      dsimp only at b1 b3 b6
      subst b1
      have Vr := V.ext he (Vg.trans b3)
      have sz := al_size Vr.1
      rw [hlen] at sz
      show b_X_markLivePages_12 x (nI vers.length) r = _
      unfold b_X_markLivePages_12
      simp (disch := omega) only [gd_T, dr_S, nm_v, cl_S, cv_S, bd_S, lk_L, lk_R, zbw_b, isK_e, isPg_3, isPg_4, isPg_6, asV_n, beq_self_eq_true, inb_N, inb_0, le_T, le_F, lt_T, lt_F, eq_F, le_0T, lt_0F, le_0F, eq_0F, nI_1, nI_add, pk_mul, nI_clamp, cl_0, if_true, if_false, of_nI, T_wI, L_wI, R_wI, N_wI, S_wI, T_wR, L_wR, I_wR, N_wR, S_wR, I_same, R_same, I_wIn, I_wIk, R_wRn, R_wRk, T_nwo, T_nwn, L_nwo, L_nwn, I_nwo, I_nwn, R_nwo, R_nwn, N_nw, S_nw, nar_1, nar_0, nar_01, b01_t0, b01_f0, b01_t1, b01_f1, ne_sn, eq_sn, sn_inj, b6.1, b6.2.2.2.2.2, Vr.1.1, sz]
  obtain ⟨r, e, q1, q2, q3, q4, q5, q6⟩ := key
  rw [List.take_length] at q3
  refine ⟨r, ?_, Sg.trans q1, Vg.trans q2, q3, q4, ?_, ?_⟩
  · unfold f_X_markLivePages
    rw [hg] at e
    simp (disch := omega) only [gd_T, dr_S, nm_v, cl_S, cv_S, bd_S, lk_L, lk_R, zbw_b, isK_e, isPg_3, isPg_4, isPg_6, asV_n, beq_self_eq_true, inb_N, inb_0, le_T, le_F, lt_T, lt_F, eq_F, le_0T, lt_0F, le_0F, eq_0F, nI_1, nI_add, pk_mul, nI_clamp, cl_0, if_true, if_false, of_nI, T_wI, L_wI, R_wI, N_wI, S_wI, T_wR, L_wR, I_wR, N_wR, S_wR, I_same, R_same, I_wIn, I_wIk, R_wRn, R_wRk, T_nwo, T_nwn, L_nwo, L_nwn, I_nwo, I_nwn, R_nwo, R_nwn, N_nw, S_nw, nar_1, nar_0, nar_01, b01_t0, b01_f0, b01_t1, b01_f1, ne_sn, eq_sn, sn_inj, X.1, hr, e]
  · rw [q5, hg]; rfl
  · rw [q6, hg]; rfl
theorem k_live {h : Hp} {ca ka pa : Nat → Nat} {st : Nat → Pg} {fs np : Nat → Nat} {nxt id rd : Nat} {mr : Nat → Nat} (G : XG h ca ka pa st fs np nxt) (S : SW st fs np nxt) (Q : XM h pa np nxt mr) (h1 : 1 ≤ id) (h2 : id < nxt) (hr : rd < 2 ^ 20) (hm : ∀ k, vk np nxt k → mr k < 2 ^ 20) : f_K_livePages (ca id) (nI rd) h = some (nI (cn (fun i => decide (mr (32 * id + i) = rd)) (np id)), h) := by
  obtain ⟨⟨k1, k2, k3, k4, k5, k6, k7, k8⟩, -, g2⟩ := G id h1 h2
  obtain ⟨n1, n2, n3⟩ := S.2.1 id h1 h2
  have key : l_K_livePages_4 (ca id) (nI rd) (nI 0, (0 : Int32), h) = some (nI (0 + cn (fun i => decide (mr (32 * id + i) = rd)) (np id)), h) := by
    have vkk : ∀ j, j < np id → vk np nxt (32 * id + j) := fun j hj => by
      refine ⟨?_, ?_, ?_⟩
      · omega
      · omega
      · rw [show (32 * id + j) / 32 = id by omega, show (32 * id + j) % 32 = j by omega]; exact hj
    refine lp_cn (b := fun s => b_K_livePages_4 (ca id) (nI rd) s.1 s.2.1 s.2.2) h _ 0 (np id) (by omega) (fun n j hj hf => ?_) (fun n j hj hf => ?_) (fun n => ?_)
    · have g := g2 j hj
      have e := Q _ (vkk j hj)
      rw [of_decide_eq_true hf] at e
      show b_K_livePages_4 (ca id) (nI rd) (nI n) (nI j) h = _
      unfold b_K_livePages_4
      simp (disch := omega) only [gd_T, dr_S, nm_v, cl_S, cv_S, bd_S, lk_L, lk_R, zbw_b, isK_e, isPg_3, isPg_4, isPg_6, asV_n, beq_self_eq_true, inb_N, inb_0, le_T, le_F, lt_T, lt_F, eq_F, le_0T, lt_0F, le_0F, eq_0F, nI_1, nI_add, pk_mul, nI_clamp, cl_0, if_true, if_false, of_nI, T_wI, L_wI, R_wI, N_wI, S_wI, T_wR, L_wR, I_wR, N_wR, S_wR, I_same, R_same, I_wIn, I_wIk, R_wRn, R_wRk, T_nwo, T_nwn, L_nwo, L_nwn, I_nwo, I_nwn, R_nwo, R_nwn, N_nw, S_nw, nar_1, nar_0, nar_01, b01_t0, b01_f0, b01_t1, b01_f1, ne_sn, eq_sn, sn_inj, k1, k5, k6, k7, g.1, g.2.pg, e]
    · have g := g2 j hj
      have e := Q _ (vkk j hj)
      have b := hm _ (vkk j hj)
      have ne := of_decide_eq_false hf
      show b_K_livePages_4 (ca id) (nI rd) (nI n) (nI j) h = _
      unfold b_K_livePages_4
      simp (disch := omega) only [gd_T, dr_S, nm_v, cl_S, cv_S, bd_S, lk_L, lk_R, zbw_b, isK_e, isPg_3, isPg_4, isPg_6, asV_n, beq_self_eq_true, inb_N, inb_0, le_T, le_F, lt_T, lt_F, eq_F, le_0T, lt_0F, le_0F, eq_0F, nI_1, nI_add, pk_mul, nI_clamp, cl_0, if_true, if_false, of_nI, T_wI, L_wI, R_wI, N_wI, S_wI, T_wR, L_wR, I_wR, N_wR, S_wR, I_same, R_same, I_wIn, I_wIk, R_wRn, R_wRk, T_nwo, T_nwn, L_nwo, L_nwn, I_nwo, I_nwn, R_nwo, R_nwn, N_nw, S_nw, nar_1, nar_0, nar_01, b01_t0, b01_f0, b01_t1, b01_f1, ne_sn, eq_sn, sn_inj, k1, k5, k6, k7, g.1, g.2.pg, e]
    · show b_K_livePages_4 (ca id) (nI rd) (nI n) (nI (np id)) h = _
      unfold b_K_livePages_4
      simp (disch := omega) only [gd_T, dr_S, nm_v, cl_S, cv_S, bd_S, lk_L, lk_R, zbw_b, isK_e, isPg_3, isPg_4, isPg_6, asV_n, beq_self_eq_true, inb_N, inb_0, le_T, le_F, lt_T, lt_F, eq_F, le_0T, lt_0F, le_0F, eq_0F, nI_1, nI_add, pk_mul, nI_clamp, cl_0, if_true, if_false, of_nI, T_wI, L_wI, R_wI, N_wI, S_wI, T_wR, L_wR, I_wR, N_wR, S_wR, I_same, R_same, I_wIn, I_wIk, R_wRn, R_wRk, T_nwo, T_nwn, L_nwo, L_nwn, I_nwo, I_nwn, R_nwo, R_nwn, N_nw, S_nw, nar_1, nar_0, nar_01, b01_t0, b01_f0, b01_t1, b01_f1, ne_sn, eq_sn, sn_inj, k1, k5, k6, k7]
  unfold f_K_livePages
  rw [bd_s (show l_K_livePages_4 (ca id) (nI rd) ((0 : Int32), (0 : Int32), h) = _ from key), Nat.zero_add]
/-- the live pages of a chunk -/
def lo (st : Nat → Pg) (np : Nat → Nat) (vers : List Vt) (id : Nat) : Nat := cn (fun i => lvb st vers (32 * id + i)) (np id)
/-- the marks say what lives -/
def XL (h : Hp) (x : Nat) (pa : Nat → Nat) (np : Nat → Nat) (nxt : Nat) (st : Nat → Pg) (vers : List Vt) (rd : Nat) : Prop := rd < 2 ^ 20 ∧ hpI h x 7 = nI rd ∧ ∃ mr, XM h pa np nxt mr ∧ ∀ k, vk np nxt k → mr k ≤ rd ∧ (mr k = rd ↔ lvb st vers k = true)
theorem x_live {h : Hp} {x : Nat} {ca ka pa : Nat → Nat} {st : Nat → Pg} {fs np : Nat → Nat} {nxt id rd : Nat} {vers : List Vt} (G : XG h ca ka pa st fs np nxt) (S : SW st fs np nxt) (L : XL h x pa np nxt st vers rd) (h1 : 1 ≤ id) (h2 : id < nxt) : f_K_livePages (ca id) (hpI h x 7) h = some (nI (lo st np vers id), h) := by
  obtain ⟨l1, l2, mr, l3, l4⟩ := L
  rw [l2, k_live G S l3 h1 h2 l1 (fun k hk => by have := (l4 k hk).1; omega)]
  have n2 := (S.2.1 id h1 h2).2.1
  unfold lo
  congr 3
  refine cn_ext fun i hi => ?_
  have v : vk np nxt (32 * id + i) := by
    refine ⟨?_, ?_, ?_⟩
    · omega
    · omega
    · rw [show (32 * id + i) / 32 = id by omega, show (32 * id + i) % 32 = i by omega]; exact hi
  have q := (l4 _ v).2
  cases e : lvb st vers (32 * id + i) with
  | true => exact decide_eq_true (q.mpr e)
  | false => exact decide_eq_false (fun z => by rw [q.mp z] at e; cases e)

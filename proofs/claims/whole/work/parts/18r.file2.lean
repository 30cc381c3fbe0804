/-- is the i-th pending write lost -/
def lst (d : Nat) (mask : Int32) (i : Nat) : Bool := decide (16 ≤ i - d) || !bt mask (i - d)
def lsb (pend : List Nat) (d : Nat) (mask : Int32) (n b : Nat) : Bool := (List.range n).any fun i => decide (d ≤ i) && (decide (pend[i]? = some b) && lst d mask i)
theorem lsb_d {pend : List Nat} {d : Nat} {mask : Int32} {b : Nat} : lsb pend d mask d b = false := any_f (fun i hi => by rw [decide_eq_false (by omega), Bool.false_and])
theorem lsb_s {pend : List Nat} {d : Nat} {mask : Int32} {n b : Nat} (h : d ≤ n) : lsb pend d mask (n + 1) b = (lsb pend d mask n b || (decide (pend[n]? = some b) && lst d mask n)) := by
  unfold lsb
  rw [List.range_succ, List.any_append, List.any_cons, List.any_nil, Bool.or_false, decide_eq_true h, Bool.true_and]
theorem lsb_mem {pend : List Nat} {d : Nat} {mask : Int32} {n b : Nat} (h : lsb pend d mask n b = true) : b ∈ pend := by
  obtain ⟨i, -, q⟩ := any_t.mp h
  simp only [Bool.and_eq_true, decide_eq_true_eq] at q
  exact List.mem_of_getElem? q.2.1
theorem x_loseL {h : Hp} {F c0 c1 c2 c3 c4 d : Nat} {mask : Int32} {cc cs : Nat → Option Nat} {free pnd : Nat → Bool} {pend : List Nat} (R : FR h F c0 c1 c2 c3 c4 cc cs free pnd pend) (hcs : ∀ b k, cs b = some k → hpT h k = 2) (hd : d ≤ pend.length) :
    ∃ h', l_F_losePending_2 F (nI d) mask (nI d, h) = some h' ∧ FR h' F c0 c1 c2 c3 c4 (fun b => bif lsb pend d mask pend.length b then cs b else cc b) cs free pnd pend ∧ Keep W_F_losePending h h' ∧ hpN h' = hpN h ∧ hpS h' = hpS h := by
  have h60 := R.2.2.2.2.2.2.1
  have key := lp_for (b := fun s => b_F_losePending_2 F (nI d) mask s.1 s.2) (fun j s => d ≤ j ∧ s.1 = nI j ∧ FR s.2 F c0 c1 c2 c3 c4 (fun b => bif lsb pend d mask j b then cs b else cc b) cs free pnd pend ∧ (∀ b k, cs b = some k → hpT s.2 k = 2) ∧ hpN s.2 = hpN h ∧ hpS s.2 = hpS h) (fun r => FR r F c0 c1 c2 c3 c4 (fun b => bif lsb pend d mask pend.length b then cs b else cc b) cs free pnd pend ∧ hpN r = hpN h ∧ hpS r = hpS h) pend.length (fun j s hj hs => Or.inl ?_) (fun s hs => ⟨s.2, ?_, hs.2.2.1, hs.2.2.2.2⟩) FU d (nI d, h) hd (by show _ < 4096; omega) ⟨Nat.le_refl _, rfl, ?_, hcs, rfl, rfl⟩
  · obtain ⟨r, e, q1, q2, q3⟩ := key
    exact ⟨r, e, q1, kl_F_losePending_2 (C := cT) (mi := 0) e, q2, q3⟩
  · obtain ⟨a, r⟩ := s
    obtain ⟨bd, b1, b3, b6, b4, b5⟩ := hs
    dsimp only at b1 b3 b4 b5 b6
    subst b1
    obtain ⟨O, r1, r2, r3, r4, r5, r6, r7⟩ := b3
    obtain ⟨⟨f0, f1, f2, f3, f4⟩, ⟨n01, n02, n03, n04⟩, ⟨n12, n13, n14⟩, ⟨n23, n24⟩, n34⟩ := O.nes
    have O2 := O
    obtain ⟨o1, o2, ⟨p0, p1, p2, p3⟩, ⟨p4, p5, p6, p7⟩, ⟨p8, p9, p10, p11⟩, ⟨p12, p13, p14, p15⟩, ⟨p16, p17, p18, p19⟩⟩ := O
    obtain ⟨b, hb⟩ : ∃ b, pend[j]? = some b := ⟨_, List.getElem?_eq_getElem hj⟩
    obtain ⟨q1, q2⟩ := r7 j b hb
    have eb : b_F_losePending_2 F (nI d) mask (nI j) r = bif lst d mask j then some (.inl (nI (j + 1), wR r c0 b (cs b))) else some (.inl (nI (j + 1), r)) := by
      have as : asV r (cs b) c0 = true := asV_c (Or.inl p1) (b6 b)
      unfold b_F_losePending_2 j_F_losePending_31_L2 lst
      by_cases c : 16 ≤ j - d
      · simp (disch := omega) only [gd_T, dr_S, nm_v, cl_S, cv_S, bd_S, lk_L, lk_R, zbw_b, isK_e, isPg_3, isPg_4, isPg_6, asV_n, beq_self_eq_true, inb_N, inb_0, le_T, le_F, lt_T, lt_F, eq_F, le_0T, lt_0F, le_0F, eq_0F, nI_1, nI_add, pk_mul, nI_clamp, cl_0, if_true, if_false, of_nI, T_wI, L_wI, R_wI, N_wI, S_wI, T_wR, L_wR, I_wR, N_wR, S_wR, I_same, R_same, I_wIn, I_wIk, R_wRn, R_wRk, T_nwo, T_nwn, L_nwo, L_nwn, I_nwo, I_nwn, R_nwo, R_nwn, N_nw, S_nw, nar_1, nar_0, nar_01, b01_t0, b01_f0, b01_t1, b01_f1, ne_sn, eq_sn, sn_inj, o1, r5, pk_sub, p16, p17, p18, q1, p4, p5, p6, p0, p1, p2, r2 b q2, as]
        rw [decide_eq_true c]; rfl
      · simp (disch := omega) only [gd_T, dr_S, nm_v, cl_S, cv_S, bd_S, lk_L, lk_R, zbw_b, isK_e, isPg_3, isPg_4, isPg_6, asV_n, beq_self_eq_true, inb_N, inb_0, le_T, le_F, lt_T, lt_F, eq_F, le_0T, lt_0F, le_0F, eq_0F, nI_1, nI_add, pk_mul, nI_clamp, cl_0, if_true, if_false, of_nI, T_wI, L_wI, R_wI, N_wI, S_wI, T_wR, L_wR, I_wR, N_wR, S_wR, I_same, R_same, I_wIn, I_wIk, R_wRn, R_wRk, T_nwo, T_nwn, L_nwo, L_nwn, I_nwo, I_nwn, R_nwo, R_nwn, N_nw, S_nw, nar_1, nar_0, nar_01, b01_t0, b01_f0, b01_t1, b01_f1, ne_sn, eq_sn, sn_inj, o1, r5, pk_sub, p16, p17, p18, q1, p4, p5, p6, p0, p1, p2, r2 b q2, as, sshr_1]
        rw [decide_eq_false c, Bool.false_or]
        cases bt mask (j - d) <;> rfl
    show ∃ s', b_F_losePending_2 F (nI d) mask (nI j) r = some (.inl s') ∧ _
    rw [eb]
    cases hl : lst d mask j with
    | false =>
      refine ⟨_, rfl, by omega, rfl, ⟨O2, fun i hi => ?_, r2, r3, r4, r5, r6, r7⟩, b6, b4, b5⟩
      rw [r1 i hi]
      dsimp only
      rw [lsb_s bd, hl, Bool.and_false, Bool.or_false]
    | true =>
      refine ⟨(nI (j + 1), wR r c0 b (cs b)), rfl, by omega, rfl, ⟨⟨o1, o2, ⟨?_, p1, p2, p3⟩, ⟨?_, p5, p6, p7⟩, ⟨?_, p9, p10, p11⟩, ⟨?_, p13, p14, p15⟩, ⟨?_, p17, p18, p19⟩⟩, fun i hi => ?_, fun i hi => ?_, r3, r4, r5, r6, r7⟩, b6, b4, b5⟩
      · rw [R_wRn f0]; exact p0
      · rw [R_wRn f0]; exact p4
      · rw [R_wRn f0]; exact p8
      · rw [R_wRn f0]; exact p12
      · rw [R_wRn f0]; exact p16
      · dsimp only
        rw [lsb_s bd, hl, Bool.and_true, hb]
        by_cases e : i = b
        · subst e
          rw [R_same, decide_eq_true rfl, Bool.or_true]; rfl
        · rw [R_wRk e, r1 i hi, decide_eq_false (fun z => by cases z; exact e rfl), Bool.or_false]
      · rw [R_wRn (Ne.symm n01)]; exact r2 i hi
  · obtain ⟨a, r⟩ := s
    obtain ⟨bd, b1, b3, b6, b4, b5⟩ := hs
    dsimp only at b1 b3
    subst b1
    show b_F_losePending_2 F (nI d) mask (nI pend.length) r = _
    unfold b_F_losePending_2
    simp (disch := omega) only [gd_T, dr_S, nm_v, cl_S, cv_S, bd_S, lk_L, lk_R, zbw_b, isK_e, isPg_3, isPg_4, isPg_6, asV_n, beq_self_eq_true, inb_N, inb_0, le_T, le_F, lt_T, lt_F, eq_F, le_0T, lt_0F, le_0F, eq_0F, nI_1, nI_add, pk_mul, nI_clamp, cl_0, if_true, if_false, of_nI, T_wI, L_wI, R_wI, N_wI, S_wI, T_wR, L_wR, I_wR, N_wR, S_wR, I_same, R_same, I_wIn, I_wIk, R_wRn, R_wRk, T_nwo, T_nwn, L_nwo, L_nwn, I_nwo, I_nwn, R_nwo, R_nwn, N_nw, S_nw, nar_1, nar_0, nar_01, b01_t0, b01_f0, b01_t1, b01_f1, ne_sn, eq_sn, sn_inj, b3.1.1, b3.2.2.2.2.2.1]
  · obtain ⟨O, r1, r2⟩ := R
    refine ⟨O, fun b hb => ?_, r2⟩
    rw [r1 b hb]
    dsimp only
    rw [lsb_d]; rfl
theorem x_release {h : Hp} {F c0 c1 c2 c3 c4 k ar id fs np : Nat} {cc cs : Nat → Option Nat} {free pnd : Nat → Bool} {pend : List Nat} (R : FR h F c0 c1 c2 c3 c4 cc cs free pnd pend) (K : KO h k ar id fs np) (hf : fs + (np + 1) / 2 ≤ 32) :
    ∃ h', f_F_release F (some k) h = some h' ∧ FR h' F c0 c1 c2 c3 c4 cc cs (ups free fs ((np + 1) / 2) (fun _ => true)) pnd pend ∧ hpN h' = hpN h ∧ hpS h' = hpS h := by
  obtain ⟨n, hn⟩ : ∃ n, n = (np + 1) / 2 := ⟨_, rfl⟩
  rw [← hn] at hf ⊢
  have key : ∃ r, l_F_release_2 F (some k) ((0 : Int32), h) = some r ∧ (FR r F c0 c1 c2 c3 c4 cc cs (ups free fs n (fun _ => true)) pnd pend ∧ hpN r = hpN h ∧ hpS r = hpS h) := by
    refine lp_up (b := fun s => b_F_release_2 F (some k) s.1 s.2) (fun j s => s.1 = nI j ∧ KO s.2 k ar id fs np ∧ FR s.2 F c0 c1 c2 c3 c4 cc cs (ups free fs j (fun _ => true)) pnd pend ∧ hpN s.2 = hpN h ∧ hpS s.2 = hpS h) _ n (by omega) ⟨rfl, K, by rw [ups_0]; exact R, rfl, rfl⟩ (fun j s hj hs => Or.inl ?_) (fun s hs => ⟨s.2, ?_, hs.2.2⟩)
    · obtain ⟨a, r⟩ := s
      obtain ⟨b1, b2, b3, b4, b5⟩ := hs
      dsimp only at b1 b2 b3 b4 b5
      subst b1
      have kb := k_blocks b2 (by omega)
      rw [← hn] at kb
      obtain ⟨O, r1, r2, r3, r4, r5, r6, r7⟩ := b3
      obtain ⟨⟨f0, f1, f2, f3, f4⟩, ⟨n01, n02, n03, n04⟩, ⟨n12, n13, n14⟩, ⟨n23, n24⟩, n34⟩ := O.nes
      have O2 := O
      obtain ⟨o1, o2, ⟨p0, p1, p2, p3⟩, ⟨p4, p5, p6, p7⟩, ⟨p8, p9, p10, p11⟩, ⟨p12, p13, p14, p15⟩, ⟨p16, p17, p18, p19⟩⟩ := O
      obtain ⟨k1, k2, k3, k4, k5, k6, k7, k8⟩ := b2
      have hk2 : k ≠ c2 := ne_T (h := r) (by rw [k1, p9]; decide)
      refine ⟨(nI (j + 1), wI r c2 (fs + j) 1), ?_, rfl, ⟨k1, k2, ?_, ?_, k5, k6, k7, k8⟩, ⟨O2, r1, r2, fun i hi => ?_, fun i hi => ?_, ?_, r6, fun i x hx => ?_⟩, b4, b5⟩
      · show b_F_release_2 F (some k) (nI j) r = _
        unfold b_F_release_2
        simp (disch := omega) only [gd_T, dr_S, nm_v, cl_S, cv_S, bd_S, lk_L, lk_R, zbw_b, isK_e, isPg_3, isPg_4, isPg_6, asV_n, beq_self_eq_true, inb_N, inb_0, le_T, le_F, lt_T, lt_F, eq_F, le_0T, lt_0F, le_0F, eq_0F, nI_1, nI_add, pk_mul, nI_clamp, cl_0, if_true, if_false, of_nI, T_wI, L_wI, R_wI, N_wI, S_wI, T_wR, L_wR, I_wR, N_wR, S_wR, I_same, R_same, I_wIn, I_wIk, R_wRn, R_wRk, T_nwo, T_nwn, L_nwo, L_nwn, I_nwo, I_nwn, R_nwo, R_nwn, N_nw, S_nw, nar_1, nar_0, nar_01, b01_t0, b01_f0, b01_t1, b01_f1, ne_sn, eq_sn, sn_inj, k1, kb, o1, k4, p8, p9, p10]
      · rw [I_wIn hk2]; exact k3
      · rw [I_wIn hk2]; exact k4
      · rw [ups_s]
        unfold va_up
        dsimp only
        by_cases e : i = fs + j
        · subst e; rw [I_same, if_pos rfl]; rfl
        · rw [I_wIk e, if_neg e]; exact r3 i hi
      · rw [I_wIn (Ne.symm n23)]; exact r4 i hi
      · rw [I_wIn f2]; exact r5
      · rw [I_wIn (Ne.symm n24)]; exact r7 i x hx
    · obtain ⟨a, r⟩ := s
      obtain ⟨b1, b2, b3, b4, b5⟩ := hs
      dsimp only at b1 b2
      subst b1
      show b_F_release_2 F (some k) (nI n) r = _
      unfold b_F_release_2
      have kb := k_blocks b2 (by omega)
      rw [← hn] at kb
      simp (disch := omega) only [gd_T, dr_S, nm_v, cl_S, cv_S, bd_S, lk_L, lk_R, zbw_b, isK_e, isPg_3, isPg_4, isPg_6, asV_n, beq_self_eq_true, inb_N, inb_0, le_T, le_F, lt_T, lt_F, eq_F, le_0T, lt_0F, le_0F, eq_0F, nI_1, nI_add, pk_mul, nI_clamp, cl_0, if_true, if_false, of_nI, T_wI, L_wI, R_wI, N_wI, S_wI, T_wR, L_wR, I_wR, N_wR, S_wR, I_same, R_same, I_wIn, I_wIk, R_wRn, R_wRk, T_nwo, T_nwn, L_nwo, L_nwn, I_nwo, I_nwn, R_nwo, R_nwn, N_nw, S_nw, nar_1, nar_0, nar_01, b01_t0, b01_f0, b01_t1, b01_f1, ne_sn, eq_sn, sn_inj, b2.1, kb]
  obtain ⟨r, e, q⟩ := key
  refine ⟨r, ?_, q⟩
  unfold f_F_release
  simp (disch := omega) only [gd_T, dr_S, nm_v, cl_S, cv_S, bd_S, lk_L, lk_R, zbw_b, isK_e, isPg_3, isPg_4, isPg_6, asV_n, beq_self_eq_true, inb_N, inb_0, le_T, le_F, lt_T, lt_F, eq_F, le_0T, lt_0F, le_0F, eq_0F, nI_1, nI_add, pk_mul, nI_clamp, cl_0, if_true, if_false, of_nI, T_wI, L_wI, R_wI, N_wI, S_wI, T_wR, L_wR, I_wR, N_wR, S_wR, I_same, R_same, I_wIn, I_wIk, R_wRn, R_wRk, T_nwo, T_nwn, L_nwo, L_nwn, I_nwo, I_nwn, R_nwo, R_nwn, N_nw, S_nw, nar_1, nar_0, nar_01, b01_t0, b01_f0, b01_t1, b01_f1, ne_sn, eq_sn, sn_inj, e]
theorem x_freeCount {h : Hp} {F c0 c1 c2 c3 c4 : Nat} {free : Nat → Bool} (O : FO h F c0 c1 c2 c3 c4) (B : Bs h c2 free) : f_F_freeCount F h = some (nI (cn free 32), h) := by
  obtain ⟨o1, o2, -, -, ⟨p8, p9, p10, p11⟩, -⟩ := O
  have key : l_F_freeCount_4 F (nI 0, (0 : Int32), h) = some (nI (0 + cn free 32), h) := by
    refine lp_cn (b := fun s => b_F_freeCount_4 F s.1 s.2.1 s.2.2) h free 0 32 (by decide) (fun n j hj hf => ?_) (fun n j hj hf => ?_) (fun n => ?_)
    · show b_F_freeCount_4 F (nI n) (nI j) h = _
      unfold b_F_freeCount_4
      simp (disch := omega) only [gd_T, dr_S, nm_v, cl_S, cv_S, bd_S, lk_L, lk_R, zbw_b, isK_e, isPg_3, isPg_4, isPg_6, asV_n, beq_self_eq_true, inb_N, inb_0, le_T, le_F, lt_T, lt_F, eq_F, le_0T, lt_0F, le_0F, eq_0F, nI_1, nI_add, pk_mul, nI_clamp, cl_0, if_true, if_false, of_nI, T_wI, L_wI, R_wI, N_wI, S_wI, T_wR, L_wR, I_wR, N_wR, S_wR, I_same, R_same, I_wIn, I_wIk, R_wRn, R_wRk, T_nwo, T_nwn, L_nwo, L_nwn, I_nwo, I_nwn, R_nwo, R_nwn, N_nw, S_nw, nar_1, nar_0, nar_01, b01_t0, b01_f0, b01_t1, b01_f1, ne_sn, eq_sn, sn_inj, o1, p8, p9, p10, B j hj, hf]
    · show b_F_freeCount_4 F (nI n) (nI j) h = _
      unfold b_F_freeCount_4
      simp (disch := omega) only [gd_T, dr_S, nm_v, cl_S, cv_S, bd_S, lk_L, lk_R, zbw_b, isK_e, isPg_3, isPg_4, isPg_6, asV_n, beq_self_eq_true, inb_N, inb_0, le_T, le_F, lt_T, lt_F, eq_F, le_0T, lt_0F, le_0F, eq_0F, nI_1, nI_add, pk_mul, nI_clamp, cl_0, if_true, if_false, of_nI, T_wI, L_wI, R_wI, N_wI, S_wI, T_wR, L_wR, I_wR, N_wR, S_wR, I_same, R_same, I_wIn, I_wIk, R_wRn, R_wRk, T_nwo, T_nwn, L_nwo, L_nwn, I_nwo, I_nwn, R_nwo, R_nwn, N_nw, S_nw, nar_1, nar_0, nar_01, b01_t0, b01_f0, b01_t1, b01_f1, ne_sn, eq_sn, sn_inj, o1, p8, p9, p10, B j hj, hf]
    · show b_F_freeCount_4 F (nI n) (nI 32) h = _
      unfold b_F_freeCount_4
      simp (disch := omega) only [gd_T, dr_S, nm_v, cl_S, cv_S, bd_S, lk_L, lk_R, zbw_b, isK_e, isPg_3, isPg_4, isPg_6, asV_n, beq_self_eq_true, inb_N, inb_0, le_T, le_F, lt_T, lt_F, eq_F, le_0T, lt_0F, le_0F, eq_0F, nI_1, nI_add, pk_mul, nI_clamp, cl_0, if_true, if_false, of_nI, T_wI, L_wI, R_wI, N_wI, S_wI, T_wR, L_wR, I_wR, N_wR, S_wR, I_same, R_same, I_wIn, I_wIk, R_wRn, R_wRk, T_nwo, T_nwn, L_nwo, L_nwn, I_nwo, I_nwn, R_nwo, R_nwn, N_nw, S_nw, nar_1, nar_0, nar_01, b01_t0, b01_f0, b01_t1, b01_f1, ne_sn, eq_sn, sn_inj]
  unfold f_F_freeCount
  rw [bd_s (show l_F_freeCount_4 F ((0 : Int32), (0 : Int32), h) = _ from key), Nat.zero_add]
/-- the greatest of n numbers -/
def gm (f : Nat → Nat) : Nat → Nat
  | 0 => 0
  | n + 1 => if gm f n < f n then f n else gm f n
theorem gm_ge {f : Nat → Nat} {n i : Nat} (h : i < n) : f i ≤ gm f n := by
  induction n with
  | zero => omega
  | succ n ih =>
    show _ ≤ if gm f n < f n then f n else gm f n
    by_cases e : i = n
    · subst e
      split <;> omega
    · have := ih (by omega)
      split <;> omega
theorem gm_at (f : Nat → Nat) (n : Nat) : gm f n = 0 ∨ ∃ i, i < n ∧ gm f n = f i := by
  induction n with
  | zero => exact Or.inl rfl
  | succ n ih =>
    show (if gm f n < f n then f n else gm f n) = 0 ∨ ∃ i, i < n + 1 ∧ (if gm f n < f n then f n else gm f n) = f i
    by_cases e : gm f n < f n
    · rw [if_pos e]; exact Or.inr ⟨n, by omega, rfl⟩
    · rw [if_neg e]
      rcases ih with q | ⟨i, q1, q2⟩
      · exact Or.inl q
      · exact Or.inr ⟨i, by omega, q2⟩
theorem gm_lt {f : Nat → Nat} {n B : Nat} (hB : 0 < B) (h : ∀ i, i < n → f i < B) : gm f n < B := by
  rcases gm_at f n with q | ⟨i, q1, q2⟩
  · omega
  · rw [q2]; exact h i q1
theorem x_greatest {h : Hp} {F c0 c1 c2 c3 c4 : Nat} {g : Nat → Nat} (O : FO h F c0 c1 c2 c3 c4) (hg : ∀ b, b < 32 → (hpR h c0 b = none ∧ g b = 0) ∨ ∃ k, hpR h c0 b = some k ∧ hpT h k = 2 ∧ hpI h k 0 = nI (g b)) (hl : ∀ b, b < 32 → g b < 2 ^ 20) : f_F_greatestId F h = some (nI (gm g 32), h) := by
  obtain ⟨o1, o2, ⟨p0, p1, p2, p3⟩, -⟩ := O
  have key : l_F_greatestId_4 F (nI 0, (0 : Int32), h) = some (nI (gm g 32), h) := by
    refine lp_tr (b := fun s => b_F_greatestId_4 F s.1 s.2.1 s.2.2) (fun j => (nI (gm g j), nI j, h)) 32 _ (by decide) (fun j hj => ?_) ?_
    · show b_F_greatestId_4 F (nI (gm g j)) (nI j) h = some (.inl (nI (if gm g j < g j then g j else gm g j), nI (j + 1), h))
      have hs : gm g j < 2 ^ 20 := gm_lt (by decide) (fun i hi => hl i (by omega))
      have hq := hl j hj
      unfold b_F_greatestId_4
      rcases hg j hj with ⟨q1, q2⟩ | ⟨k, q1, q2, q3⟩
      · simp (disch := omega) only [gd_T, dr_S, nm_v, cl_S, cv_S, bd_S, lk_L, lk_R, zbw_b, isK_e, isPg_3, isPg_4, isPg_6, asV_n, beq_self_eq_true, inb_N, inb_0, le_T, le_F, lt_T, lt_F, eq_F, le_0T, lt_0F, le_0F, eq_0F, nI_1, nI_add, pk_mul, nI_clamp, cl_0, if_true, if_false, of_nI, T_wI, L_wI, R_wI, N_wI, S_wI, T_wR, L_wR, I_wR, N_wR, S_wR, I_same, R_same, I_wIn, I_wIk, R_wRn, R_wRk, T_nwo, T_nwn, L_nwo, L_nwn, I_nwo, I_nwn, R_nwo, R_nwn, N_nw, S_nw, nar_1, nar_0, nar_01, b01_t0, b01_f0, b01_t1, b01_f1, ne_sn, eq_sn, sn_inj, o1, p0, p1, p2, q1]
        rw [q2, if_neg (by omega)]
      · simp (disch := omega) only [gd_T, dr_S, nm_v, cl_S, cv_S, bd_S, lk_L, lk_R, zbw_b, isK_e, isPg_3, isPg_4, isPg_6, asV_n, beq_self_eq_true, inb_N, inb_0, le_T, le_F, lt_T, lt_F, eq_F, le_0T, lt_0F, le_0F, eq_0F, nI_1, nI_add, pk_mul, nI_clamp, cl_0, if_true, if_false, of_nI, T_wI, L_wI, R_wI, N_wI, S_wI, T_wR, L_wR, I_wR, N_wR, S_wR, I_same, R_same, I_wIn, I_wIk, R_wRn, R_wRk, T_nwo, T_nwn, L_nwo, L_nwn, I_nwo, I_nwn, R_nwo, R_nwn, N_nw, S_nw, nar_1, nar_0, nar_01, b01_t0, b01_f0, b01_t1, b01_f1, ne_sn, eq_sn, sn_inj, o1, p0, p1, p2, q1, q2, q3]
        by_cases c : gm g j < g j
        · rw [if_pos c, if_pos (nI_lt c (by omega))]
        · rw [if_neg c, if_neg (nI_nlt (by omega) (by omega))]
    · show b_F_greatestId_4 F (nI (gm g 32)) (nI 32) h = _
      unfold b_F_greatestId_4
      simp (disch := omega) only [gd_T, dr_S, nm_v, cl_S, cv_S, bd_S, lk_L, lk_R, zbw_b, isK_e, isPg_3, isPg_4, isPg_6, asV_n, beq_self_eq_true, inb_N, inb_0, le_T, le_F, lt_T, lt_F, eq_F, le_0T, lt_0F, le_0F, eq_0F, nI_1, nI_add, pk_mul, nI_clamp, cl_0, if_true, if_false, of_nI, T_wI, L_wI, R_wI, N_wI, S_wI, T_wR, L_wR, I_wR, N_wR, S_wR, I_same, R_same, I_wIn, I_wIk, R_wRn, R_wRk, T_nwo, T_nwn, L_nwo, L_nwn, I_nwo, I_nwn, R_nwo, R_nwn, N_nw, S_nw, nar_1, nar_0, nar_01, b01_t0, b01_f0, b01_t1, b01_f1, ne_sn, eq_sn, sn_inj]
  unfold f_F_greatestId
  rw [bd_s (show l_F_greatestId_4 F ((0 : Int32), (0 : Int32), h) = _ from key)]

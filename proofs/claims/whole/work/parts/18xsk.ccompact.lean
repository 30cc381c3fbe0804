def cdT (pid pat : Nat → Nat) (st : Nat → Pg) (lm sid i : Nat) : Bool := decide (pid i = sid) && (rcb st lm (ky pid pat i) && !decide (kd st (ky pid pat i) = 2))
def ixT (pid pat : Nat → Nat) (st : Nat → Pg) (i : Nat) : Nat := if kd st (ky pid pat i) = 0 then 4 * pmp st (ky pid pat i) + pwh st (ky pid pat i) else 16 + pmp st (ky pid pat i)
def tU (pid pat : Nat → Nat) (st : Nat → Pg) (lm sid n k : Nat) : Bool := (List.range n).any fun i => cdT pid pat st lm sid i && decide (ixT pid pat st i = k)
theorem tU_s (pid pat : Nat → Nat) (st : Nat → Pg) (lm sid n k : Nat) : tU pid pat st lm sid (n + 1) k = (tU pid pat st lm sid n k || (cdT pid pat st lm sid n && decide (ixT pid pat st n = k))) := by
  unfold tU
  rw [List.range_succ, List.any_append, List.any_cons, List.any_nil, Bool.or_false]
/-- a page of the tree that is no meta: a root or a leaf, at its place -/
theorem tree_at {st : Nat → Pg} {fs np : Nat → Nat} {nxt lm x : Nat} (S : SW st fs np nxt) (v : vk np nxt lm) (k2 : kd st lm = 2) (hr : rcb st lm x = true) (hk : kd st x ≠ 2) : (kd st x = 1 ∧ pmp st x < 4 ∧ x = ld st lm (pmp st x) ∧ x ≠ 0) ∨ (kd st x = 0 ∧ pmp st x < 4 ∧ pwh st x < 4 ∧ x = lk2 st lm (pmp st x) (pwh st x) ∧ x ≠ 0) := by
  rcases rcb_t.mp hr with q | ⟨m, hm, h0, q⟩ | ⟨m, j, hm, hj, h0, q⟩
  · rw [q] at hk; exact absurd k2 hk
  · obtain ⟨a1, a2, a3, a4⟩ := S.root v k2 hm h0
    left
    rw [q, a4]
    exact ⟨a2, hm, rfl, h0⟩
  · obtain ⟨a1, a2, a3, a4, a5⟩ := S.lkk v k2 hm hj h0
    right
    rw [q, a4, a5]
    exact ⟨a2, hm, hj, rfl, h0⟩
theorem tU_eq {pid pat : Nat → Nat} {st : Nat → Pg} {fs np : Nat → Nat} {nxt lm sid k : Nat} (S : SW st fs np nxt) (v : vk np nxt lm) (k2 : kd st lm = 2) (s1 : 1 ≤ sid) (P2 : ∀ i, i < 160 → pat i < 32) (hin : inR pid pat st lm) (hk : k < 20) : tU pid pat st lm sid 160 k = tT st lm sid k := by
  rw [Bool.eq_iff_iff]
  unfold tU
  rw [any_t]
  constructor
  · rintro ⟨i, hi, q⟩
    unfold cdT at q
    simp only [Bool.and_eq_true, decide_eq_true_eq, Bool.not_eq_true', decide_eq_false_iff_not] at q
    obtain ⟨⟨q1, q2, q3⟩, q4⟩ := q
    have pl := P2 i hi
    have k32 : ky pid pat i / 32 = sid := by unfold ky; omega
    unfold ixT at q4
    rcases tree_at S v k2 q2 q3 with ⟨w1, w2, w3, w4⟩ | ⟨w1, w2, w3, w4, w5⟩
    · rw [if_neg (by omega)] at q4
      rw [← q4, tT_r, ← w3, dec_p w4, decide_eq_true k32]; rfl
    · rw [if_pos w1] at q4
      rw [← q4, tT_l w2 w3, ← w4, dec_p w5, decide_eq_true k32]; rfl
  · intro q
    unfold tT at q
    by_cases c : k < 16
    · rw [if_pos c] at q
      simp only [Bool.and_eq_true, decide_eq_true_eq] at q
      obtain ⟨a1, a2, a3, a4, a5⟩ := S.lkk v k2 (m := k / 4) (j := k % 4) (by omega) (by omega) q.1
      have hr : rcb st lm (lk2 st lm (k / 4) (k % 4)) = true := rcb_t.mpr (Or.inr (Or.inr ⟨k / 4, k % 4, by omega, by omega, q.1, rfl⟩))
      obtain ⟨i, w1, w2, w3⟩ := hin _ hr
      have kk : ky pid pat i = lk2 st lm (k / 4) (k % 4) := by unfold ky; omega
      refine ⟨i, w1, ?_⟩
      unfold cdT ixT
      rw [kk, hr, a2, a4, a5, if_pos rfl, decide_eq_true (show pid i = sid by omega), decide_eq_true (show 4 * (k / 4) + k % 4 = k by omega)]
      rfl
    · rw [if_neg c] at q
      simp only [Bool.and_eq_true, decide_eq_true_eq] at q
      obtain ⟨a1, a2, a3, a4⟩ := S.root v k2 (m := k - 16) (by omega) q.1
      have hr : rcb st lm (ld st lm (k - 16)) = true := rcb_t.mpr (Or.inr (Or.inl ⟨k - 16, by omega, q.1, rfl⟩))
      obtain ⟨i, w1, w2, w3⟩ := hin _ hr
      have kk : ky pid pat i = ld st lm (k - 16) := by unfold ky; omega
      refine ⟨i, w1, ?_⟩
      unfold cdT ixT
      rw [kk, hr, a2, a4, if_neg (by decide), decide_eq_true (show pid i = sid by omega), decide_eq_true (show 16 + (k - 16) = k by omega)]
      rfl
theorem cn_tT {st : Nat → Pg} {lm sid : Nat} : sm (cnN st lm sid) 4 = cn (tT st lm sid) 20 := by
  have a : cn (tT st lm sid) 20 = cn (tT st lm sid) 16 + cn (fun i => tT st lm sid (16 + i)) 4 := cn_add _ 16 4
  have b : cn (tT st lm sid) 16 = cn (tT st lm sid) 12 + cn (fun i => tT st lm sid (12 + i)) 4 := cn_add _ 12 4
  have c : cn (tT st lm sid) 12 = cn (tT st lm sid) 8 + cn (fun i => tT st lm sid (8 + i)) 4 := cn_add _ 8 4
  have d : cn (tT st lm sid) 8 = cn (tT st lm sid) 4 + cn (fun i => tT st lm sid (4 + i)) 4 := cn_add _ 4 4
  have e : cn (fun i => tT st lm sid (16 + i)) 4 = 0 + (bif tT st lm sid 16 then 1 else 0) + (bif tT st lm sid 17 then 1 else 0) + (bif tT st lm sid 18 then 1 else 0) + (bif tT st lm sid 19 then 1 else 0) := rfl
  have f : sm (cnN st lm sid) 4 = 0 + cnN st lm sid 0 + cnN st lm sid 1 + cnN st lm sid 2 + cnN st lm sid 3 := rfl
  have g0 : cnN st lm sid 0 = (bif tT st lm sid 16 then 1 else 0) + cn (tT st lm sid) 4 := by
    unfold cnN
    congr 1
  have g1 : cnN st lm sid 1 = (bif tT st lm sid 17 then 1 else 0) + cn (fun i => tT st lm sid (4 + i)) 4 := rfl
  have g2 : cnN st lm sid 2 = (bif tT st lm sid 18 then 1 else 0) + cn (fun i => tT st lm sid (8 + i)) 4 := rfl
  have g3 : cnN st lm sid 3 = (bif tT st lm sid 19 then 1 else 0) + cn (fun i => tT st lm sid (12 + i)) 4 := rfl
  omega
theorem m_touchL {h : Hp} {y c sid lm : Nat} {A pid pat : Nat → Nat} {st : Nat → Pg} {fs np : Nat → Nat} {nxt : Nat} {tl tm : Nat → Bool} (M : MOK h y A) (P : PR h A pid pat st np nxt) (S : SW st fs np nxt) (v : vk np nxt lm) (k2 : kd st lm = 2) (hin : inR pid pat st lm) (mm : MM h A (fun i => rcb st lm (ky pid pat i))) (hc : c < 32) (h20 : hpI h (A 20) c = nI sid) (s1 : 1 ≤ sid) (s2 : sid < nxt) (T : MTl h A tl) (U : MTm h A tm) :
    ∃ h', l_M_compact_146 y (nI c) ((0 : Int32), (0 : Int32), h) = some (nI (sm (cnN st lm sid) 4), h') ∧ MOK h' y A ∧ Only [A 1, A 2] h h' ∧ MTl h' A (tlN st lm sid tl 16) ∧ MTm h' A (tmN st lm sid tm 4) ∧ hpN h' = hpN h ∧ hpS h' = hpS h := by
  obtain ⟨P1, P2, P3, P4⟩ := P
  have sx := S.1
  have key : ∃ r, l_M_compact_146 y (nI c) ((0 : Int32), (0 : Int32), h) = some r ∧ (r.1 = nI (cn (cdT pid pat st lm sid) 160) ∧ MOK r.2 y A ∧ Only [A 1, A 2] h r.2 ∧ MTl r.2 A (fun k => tl k || tU pid pat st lm sid 160 k) ∧ MTm r.2 A (fun m => tm m || tU pid pat st lm sid 160 (16 + m)) ∧ hpN r.2 = hpN h ∧ hpS r.2 = hpS h) := by
    refine lp_up (b := fun z => b_M_compact_146 y (nI c) z.1 z.2.1 z.2.2) (fun i z => z.1 = nI (cn (cdT pid pat st lm sid) i) ∧ z.2.1 = nI i ∧ MOK z.2.2 y A ∧ Only [A 1, A 2] h z.2.2 ∧ MTl z.2.2 A (fun k => tl k || tU pid pat st lm sid i k) ∧ MTm z.2.2 A (fun m => tm m || tU pid pat st lm sid i (16 + m)) ∧ hpN z.2.2 = hpN h ∧ hpS z.2.2 = hpS h) _ 160 (by decide) ⟨rfl, rfl, M, Only.refl _ _, fun k hk => by show _ = b01 (tl k || false); rw [Bool.or_false]; exact T k hk, fun k hk => by show _ = b01 (tm k || false); rw [Bool.or_false]; exact U k hk, rfl, rfl⟩ (fun i z hi hz => Or.inl ?_) (fun z hz => ⟨(z.1, z.2.2), ?_, hz.1, hz.2.2⟩)
    · obtain ⟨a, b, r⟩ := z
      obtain ⟨b1, b2, b3, b4, b5, b6, b7⟩ := hz
      dsimp only at b1 b2 b3 b4 b5 b6 b7
      subst b1 b2
      have o : ∀ j, 66 ≤ mk j → j ≠ 1 → j ≠ 2 → hpI r (A j) = hpI h (A j) := fun j z1 z2 z3 => (b4.2.2.2 (A j) (M.2.2 j z1).2.2.2 (by
        simp only [List.mem_cons, List.not_mem_nil, or_false]
        rintro (w | w)
        · exact M.ne z1 (by decide) z2 w
        · exact M.ne z1 (by decide) z3 w)).1
      have a4 : hpI r (A 4) i = nI (pid i) := by rw [o 4 (by decide) (by decide) (by decide)]; exact (P1 i hi).1
      have p4 := (P1 i hi).2.2.1
      have a20 : hpI r (A 20) c = nI sid := by rw [o 20 (by decide) (by decide) (by decide)]; exact h20
      have a12 : hpI r (A 12) i = b01 (rcb st lm (ky pid pat i)) := by rw [o 12 (by decide) (by decide) (by decide)]; exact mm i hi
      have stay : cdT pid pat st lm sid i = false → b_M_compact_146 y (nI c) (nI (cn (cdT pid pat st lm sid) i)) (nI i) r = some (.inl (nI (cn (cdT pid pat st lm sid) i), nI (i + 1), r)) → ∃ z', b_M_compact_146 y (nI c) (nI (cn (cdT pid pat st lm sid) i)) (nI i) r = some (.inl z') ∧ z'.1 = nI (cn (cdT pid pat st lm sid) (i + 1)) ∧ z'.2.1 = nI (i + 1) ∧ MOK z'.2.2 y A ∧ Only [A 1, A 2] h z'.2.2 ∧ MTl z'.2.2 A (fun k => tl k || tU pid pat st lm sid (i + 1) k) ∧ MTm z'.2.2 A (fun m => tm m || tU pid pat st lm sid (i + 1) (16 + m)) ∧ hpN z'.2.2 = hpN h ∧ hpS z'.2.2 = hpS h := fun hf eb => by
        refine ⟨_, eb, by rw [cn_f hf], rfl, b3, b4, fun k hk => ?_, fun k hk => ?_, b7⟩
        · dsimp only
          rw [tU_s, hf, Bool.false_and, Bool.or_false]; exact b5 k hk
        · dsimp only
          rw [tU_s, hf, Bool.false_and, Bool.or_false]; exact b6 k hk
      by_cases c0 : pid i = sid
      · have pz : pid i ≠ 0 := by omega
        obtain ⟨vi, p6, p7, p8, -⟩ := P4 i hi pz
        have a6 : hpI r (A 6) i = nI (kd st (ky pid pat i)) := by rw [o 6 (by decide) (by decide) (by decide)]; exact p6
        have a7 : hpI r (A 7) i = nI (pmp st (ky pid pat i)) := by rw [o 7 (by decide) (by decide) (by decide)]; exact p7
        have a8 : hpI r (A 8) i = nI (pwh st (ky pid pat i)) := by rw [o 8 (by decide) (by decide) (by decide)]; exact p8
        have kl : kd st (ky pid pat i) ≤ 2 := (S.2.2 _ vi).1.1
        rw [c0] at a4
        cases hr : rcb st lm (ky pid pat i) with
        | false =>
          rw [hr] at a12
          refine stay (by unfold cdT; rw [hr]; simp) ?_
          unfold b_M_compact_146
          simp (disch := omega) only [gd_T, dr_S, nm_v, cl_S, cv_S, bd_S, lk_L, lk_R, zbw_b, isK_e, isPg_3, isPg_4, isPg_6, asV_n, beq_self_eq_true, inb_N, inb_0, le_T, le_F, lt_T, lt_F, eq_F, le_0T, lt_0F, le_0F, eq_0F, nI_1, nI_add, pk_mul, nI_clamp, cl_0, if_true, if_false, of_nI, T_wI, L_wI, R_wI, N_wI, S_wI, T_wR, L_wR, I_wR, N_wR, S_wR, I_same, R_same, I_wIn, I_wIk, R_wRn, R_wRk, T_nwo, T_nwn, L_nwo, L_nwn, I_nwo, I_nwn, R_nwo, R_nwn, N_nw, S_nw, nar_1, nar_0, nar_01, b01_t0, b01_f0, b01_t1, b01_f1, ne_sn, eq_sn, sn_inj, b3.1, b3.a4.1, b3.a4.2.1, b3.a4.2.2.1, b3.a20.1, b3.a20.2.1, b3.a20.2.2.1, b3.a12.1, b3.a12.2.1, b3.a12.2.2.1, a4, a20, a12]
        | true =>
          rw [hr] at a12
          by_cases c2 : kd st (ky pid pat i) = 2
          · rw [c2] at a6
            refine stay (by unfold cdT; rw [c2]; simp) ?_
            unfold b_M_compact_146
            simp (disch := omega) only [gd_T, dr_S, nm_v, cl_S, cv_S, bd_S, lk_L, lk_R, zbw_b, isK_e, isPg_3, isPg_4, isPg_6, asV_n, beq_self_eq_true, inb_N, inb_0, le_T, le_F, lt_T, lt_F, eq_F, le_0T, lt_0F, le_0F, eq_0F, nI_1, nI_add, pk_mul, nI_clamp, cl_0, if_true, if_false, of_nI, T_wI, L_wI, R_wI, N_wI, S_wI, T_wR, L_wR, I_wR, N_wR, S_wR, I_same, R_same, I_wIn, I_wIk, R_wRn, R_wRk, T_nwo, T_nwn, L_nwo, L_nwn, I_nwo, I_nwn, R_nwo, R_nwn, N_nw, S_nw, nar_1, nar_0, nar_01, b01_t0, b01_f0, b01_t1, b01_f1, ne_sn, eq_sn, sn_inj, b3.1, b3.a4.1, b3.a4.2.1, b3.a4.2.2.1, b3.a20.1, b3.a20.2.1, b3.a20.2.2.1, b3.a12.1, b3.a12.2.1, b3.a12.2.2.1, b3.a6.1, b3.a6.2.1, b3.a6.2.2.1, a4, a20, a12, a6]
          · have ct : cdT pid pat st lm sid i = true := by unfold cdT; rw [decide_eq_true c0, hr, decide_eq_false c2]; rfl
            rcases tree_at S v k2 hr c2 with ⟨w1, w2, w3, w4⟩ | ⟨w1, w2, w3, w4, w5⟩
            · have ix : ixT pid pat st i = 16 + pmp st (ky pid pat i) := by unfold ixT; rw [if_neg (by omega)]
              rw [w1] at a6
              refine ⟨(nI (cn (cdT pid pat st lm sid) i + 1), nI (i + 1), wI r (A 2) (pmp st (ky pid pat i)) 1), ?_, by rw [cn_t ct], rfl, b3, b4.wI (Or.inr (by simp)), fun k hk => ?_, fun k hk => ?_, b7⟩
              · show b_M_compact_146 y (nI c) (nI (cn (cdT pid pat st lm sid) i)) (nI i) r = _
                unfold b_M_compact_146
                simp (disch := omega) only [gd_T, dr_S, nm_v, cl_S, cv_S, bd_S, lk_L, lk_R, zbw_b, isK_e, isPg_3, isPg_4, isPg_6, asV_n, beq_self_eq_true, inb_N, inb_0, le_T, le_F, lt_T, lt_F, eq_F, le_0T, lt_0F, le_0F, eq_0F, nI_1, nI_add, pk_mul, nI_clamp, cl_0, if_true, if_false, of_nI, T_wI, L_wI, R_wI, N_wI, S_wI, T_wR, L_wR, I_wR, N_wR, S_wR, I_same, R_same, I_wIn, I_wIk, R_wRn, R_wRk, T_nwo, T_nwn, L_nwo, L_nwn, I_nwo, I_nwn, R_nwo, R_nwn, N_nw, S_nw, nar_1, nar_0, nar_01, b01_t0, b01_f0, b01_t1, b01_f1, ne_sn, eq_sn, sn_inj, b3.1, b3.a4.1, b3.a4.2.1, b3.a4.2.2.1, b3.a20.1, b3.a20.2.1, b3.a20.2.2.1, b3.a12.1, b3.a12.2.1, b3.a12.2.2.1, b3.a6.1, b3.a6.2.1, b3.a6.2.2.1, b3.a7.1, b3.a7.2.1, b3.a7.2.2.1, b3.a2.1, b3.a2.2.1, b3.a2.2.2.1, a4, a20, a12, a6, a7]
              · dsimp only
                rw [mo_I b3 (by decide) (by decide) (by decide), tU_s, ix, ct, decide_eq_false (by omega), Bool.and_false, Bool.or_false]
                exact b5 k hk
              · dsimp only
                rw [tU_s, ix, ct, Bool.true_and]
                by_cases e : k = pmp st (ky pid pat i)
                · rw [e, I_same, decide_eq_true rfl, Bool.or_true, Bool.or_true]; rfl
                · rw [I_wIk e, decide_eq_false (by omega), Bool.or_false]; exact b6 k hk
            · have ix : ixT pid pat st i = 4 * pmp st (ky pid pat i) + pwh st (ky pid pat i) := by unfold ixT; rw [if_pos w1]
              rw [w1] at a6
              refine ⟨(nI (cn (cdT pid pat st lm sid) i + 1), nI (i + 1), wI r (A 1) (4 * pmp st (ky pid pat i) + pwh st (ky pid pat i)) 1), ?_, by rw [cn_t ct], rfl, b3, b4.wI (Or.inr (by simp)), fun k hk => ?_, fun k hk => ?_, b7⟩
              · show b_M_compact_146 y (nI c) (nI (cn (cdT pid pat st lm sid) i)) (nI i) r = _
                unfold b_M_compact_146
                simp (disch := omega) only [gd_T, dr_S, nm_v, cl_S, cv_S, bd_S, lk_L, lk_R, zbw_b, isK_e, isPg_3, isPg_4, isPg_6, asV_n, beq_self_eq_true, inb_N, inb_0, le_T, le_F, lt_T, lt_F, eq_F, le_0T, lt_0F, le_0F, eq_0F, nI_1, nI_add, pk_mul, nI_clamp, cl_0, if_true, if_false, of_nI, T_wI, L_wI, R_wI, N_wI, S_wI, T_wR, L_wR, I_wR, N_wR, S_wR, I_same, R_same, I_wIn, I_wIk, R_wRn, R_wRk, T_nwo, T_nwn, L_nwo, L_nwn, I_nwo, I_nwn, R_nwo, R_nwn, N_nw, S_nw, nar_1, nar_0, nar_01, b01_t0, b01_f0, b01_t1, b01_f1, ne_sn, eq_sn, sn_inj, b3.1, b3.a4.1, b3.a4.2.1, b3.a4.2.2.1, b3.a20.1, b3.a20.2.1, b3.a20.2.2.1, b3.a12.1, b3.a12.2.1, b3.a12.2.2.1, b3.a6.1, b3.a6.2.1, b3.a6.2.2.1, b3.a7.1, b3.a7.2.1, b3.a7.2.2.1, b3.a8.1, b3.a8.2.1, b3.a8.2.2.1, b3.a1.1, b3.a1.2.1, b3.a1.2.2.1, a4, a20, a12, a6, a7, a8, nz0]
              · dsimp only
                rw [tU_s, ix, ct, Bool.true_and]
                by_cases e : k = 4 * pmp st (ky pid pat i) + pwh st (ky pid pat i)
                · rw [e, I_same, decide_eq_true rfl, Bool.or_true, Bool.or_true]; rfl
                · rw [I_wIk e, decide_eq_false (fun w => e w.symm), Bool.or_false]; exact b5 k hk
              · dsimp only
                rw [mo_I b3 (by decide) (by decide) (by decide), tU_s, ix, ct, decide_eq_false (by omega), Bool.and_false, Bool.or_false]
                exact b6 k hk
      · refine stay (by unfold cdT; rw [decide_eq_false c0, Bool.false_and]) ?_
        unfold b_M_compact_146
        simp (disch := omega) only [gd_T, dr_S, nm_v, cl_S, cv_S, bd_S, lk_L, lk_R, zbw_b, isK_e, isPg_3, isPg_4, isPg_6, asV_n, beq_self_eq_true, inb_N, inb_0, le_T, le_F, lt_T, lt_F, eq_F, le_0T, lt_0F, le_0F, eq_0F, nI_1, nI_add, pk_mul, nI_clamp, cl_0, if_true, if_false, of_nI, T_wI, L_wI, R_wI, N_wI, S_wI, T_wR, L_wR, I_wR, N_wR, S_wR, I_same, R_same, I_wIn, I_wIk, R_wRn, R_wRk, T_nwo, T_nwn, L_nwo, L_nwn, I_nwo, I_nwn, R_nwo, R_nwn, N_nw, S_nw, nar_1, nar_0, nar_01, b01_t0, b01_f0, b01_t1, b01_f1, ne_sn, eq_sn, sn_inj, b3.1, b3.a4.1, b3.a4.2.1, b3.a4.2.2.1, b3.a20.1, b3.a20.2.1, b3.a20.2.2.1, a4, a20]
    · obtain ⟨a, b, r⟩ := z
      obtain ⟨b1, b2, -⟩ := hz
      dsimp only at b1 b2
      subst b2
      show b_M_compact_146 y (nI c) a (nI 160) r = _
      unfold b_M_compact_146
      simp (disch := omega) only [gd_T, dr_S, nm_v, cl_S, cv_S, bd_S, lk_L, lk_R, zbw_b, isK_e, isPg_3, isPg_4, isPg_6, asV_n, beq_self_eq_true, inb_N, inb_0, le_T, le_F, lt_T, lt_F, eq_F, le_0T, lt_0F, le_0F, eq_0F, nI_1, nI_add, pk_mul, nI_clamp, cl_0, if_true, if_false, of_nI, T_wI, L_wI, R_wI, N_wI, S_wI, T_wR, L_wR, I_wR, N_wR, S_wR, I_same, R_same, I_wIn, I_wIk, R_wRn, R_wRk, T_nwo, T_nwn, L_nwo, L_nwn, I_nwo, I_nwn, R_nwo, R_nwn, N_nw, S_nw, nar_1, nar_0, nar_01, b01_t0, b01_f0, b01_t1, b01_f1, ne_sn, eq_sn, sn_inj]
  obtain ⟨r, e, q1, q2, q3, q4, q5, q6⟩ := key
  have cnt : cn (cdT pid pat st lm sid) 160 = sm (cnN st lm sid) 4 := by
    have tr : ∀ i, cdT pid pat st lm sid i = true → (kd st (ky pid pat i) = 1 ∧ pmp st (ky pid pat i) < 4 ∧ ky pid pat i = ld st lm (pmp st (ky pid pat i)) ∧ ky pid pat i ≠ 0) ∨ (kd st (ky pid pat i) = 0 ∧ pmp st (ky pid pat i) < 4 ∧ pwh st (ky pid pat i) < 4 ∧ ky pid pat i = lk2 st lm (pmp st (ky pid pat i)) (pwh st (ky pid pat i)) ∧ ky pid pat i ≠ 0) := fun i hi => by
      unfold cdT at hi
      simp only [Bool.and_eq_true, Bool.not_eq_true', decide_eq_false_iff_not] at hi
      exact tree_at S v k2 hi.2.1 hi.2.2
    have e := cn_inj (g := cdT pid pat st lm sid) (P := fun _ => true) (f := ixT pid pat st) (n := 160) (K := 20) (fun i hi hg => by
      unfold ixT
      rcases tr i hg with w | w
      · rw [if_neg (by omega)]; omega
      · rw [if_pos w.1]; omega) (fun i j hi hj gi gj ee => by
      have pi : pid i = sid := by unfold cdT at gi; simp only [Bool.and_eq_true, decide_eq_true_eq] at gi; exact gi.1
      have pj : pid j = sid := by unfold cdT at gj; simp only [Bool.and_eq_true, decide_eq_true_eq] at gj; exact gj.1
      have kk : ky pid pat i = ky pid pat j := by
        unfold ixT at ee
        rcases tr i gi with w | w
        · rcases tr j gj with u | u
          · rw [if_neg (by omega), if_neg (by omega)] at ee
            rw [w.2.2.1, u.2.2.1, show pmp st (ky pid pat i) = pmp st (ky pid pat j) by omega]
          · rw [if_neg (by omega), if_pos u.1] at ee
            omega
        · rcases tr j gj with u | u
          · rw [if_pos w.1, if_neg (by omega)] at ee
            omega
          · rw [if_pos w.1, if_pos u.1] at ee
            rw [w.2.2.2.1, u.2.2.2.1, show pmp st (ky pid pat i) = pmp st (ky pid pat j) by omega, show pwh st (ky pid pat i) = pwh st (ky pid pat j) by omega]
      have a := P2 i hi
      have b := P2 j hj
      unfold ky at kk
      exact P3 i j hi hj (by omega) (by omega) (by omega))
    rw [cn_tT, cn_ext (g := fun i => cdT pid pat st lm sid i && true) (fun i _ => (Bool.and_true _).symm), e]
    exact cn_ext fun k hk => by
      rw [Bool.true_and]
      exact tU_eq S v k2 s1 P2 hin hk
  refine ⟨r.2, ?_, q2, q3, fun k hk => ?_, fun k hk => ?_, q6⟩
  · rw [e, ← cnt, ← q1]
  · rw [q4 k hk]
    unfold tlN
    dsimp only
    rw [tU_eq S v k2 s1 P2 hin (by omega), decide_eq_true hk, Bool.true_and]
  · rw [q5 k hk]
    unfold tmN
    dsimp only
    rw [tU_eq S v k2 s1 P2 hin (by omega), decide_eq_true hk, Bool.true_and]
theorem sub1_lo {p : Int32} (h : p < 0) : p - 1 < 0 ∨ nI 64 ≤ p - 1 := by
  rw [Int32.lt_iff_toInt_lt] at h
  rw [Int32.lt_iff_toInt_lt, Int32.le_iff_toInt_le, Int32.toInt_sub, show (nI 64).toInt = 64 from by decide, show (0 : Int32).toInt = 0 from by decide, show (1 : Int32).toInt = 1 from by decide]
  rw [show (0 : Int32).toInt = 0 from by decide] at h
  have a := Int32.le_toInt p
  rw [Int.bmod_def]
  omega
theorem sub1_hi {p : Int32} (h : nI 65 ≤ p) : nI 64 ≤ p - 1 := by
  rw [Int32.le_iff_toInt_le, show (nI 65).toInt = 65 from by decide] at h
  rw [Int32.le_iff_toInt_le, Int32.toInt_sub, show (nI 64).toInt = 64 from by decide, show (1 : Int32).toInt = 1 from by decide]
  have a := Int32.toInt_lt p
  rw [Int.bmod_def]
  omega
theorem sub1_s {d : Nat} (h : 1 ≤ d) : nI d - 1 = nI (d - 1) := by
  obtain ⟨e, rfl⟩ : ∃ e, d = e + 1 := ⟨d - 1, by omega⟩
  rw [← nI_s, Nat.add_sub_cancel]
  exact Int32.add_sub_cancel _ _
/-- a live page: the last version has a meta -/
theorem lmk_lv {s : Ab} {base gen k : Nat} (I : Ivt s base gen) (h : lvb s.st s.vers k = true) : lmk s.vers ≠ 0 := by
  obtain ⟨t, t1, t2, -⟩ := lvb_t.mp h
  have i5 := I.2.2.2.2.2.1
  obtain ⟨u, hu, -⟩ := i5.2.2.1
  have lm : u.2.2 = lmk s.vers := by unfold lmk; rw [hu]; rfl
  rw [List.getLast?_eq_getElem?] at hu
  obtain ⟨i, hi⟩ := List.mem_iff_getElem?.mp t1
  have il : i < s.vers.length := (List.getElem?_eq_some_iff.mp hi).1
  by_cases c : i = s.vers.length - 1
  · rw [c, hu] at hi
    rw [← lm, Option.some.inj hi]; exact t2
  · have := i5.2.1 i _ t u hi hu (by omega)
    omega
theorem m_compactK {h : Hp} {y : Nat} {A pid pat : Nat → Nat} {s : Ab} {base gen d : Nat} (Q : RM h y A pid pat s) (I : Ivt s base gen) (d1 : 1 ≤ d) (d2 : d ≤ 64) :
    ∃ g i t, f_M_markKept y h = some g ∧ RM g y A pid pat s ∧ hpN g = hpN h ∧ hpS g = hpS h ∧ s.vers[i]? = some t ∧ t.2.2 = lmk s.vers ∧ i < 48 ∧ f_M_find y (nI s.lat) g = some (nI i, g) ∧ hpI g (A 29) i = nI (lmk s.vers) ∧ l_M_compact_42 y (nI (lmk s.vers) / nI 32) ((-1 : Int32), nI d, (0 : Int32), g) = some (fi (spz s.st s.np s.vers s.chs (lmk s.vers / 32) d s.chs.length).1, g) := by
  have hv := I.inV Q
  have S := I.1
  obtain ⟨g, e, K, mm, n, sz⟩ := m_markKept Q.1 Q.2.2.2.2.2.1 S Q.2.2.2.2.1.1 hv
  have Qg := Q.mark K (by decide) (by decide)
  obtain ⟨i, t, t1, t2, t3, t4, ef⟩ := m_last Qg I.2.2.2.2.2.1
  have sp := m_sparse Qg I d2 mm
  have lmb : lmk s.vers < 2 ^ 25 := by
    by_cases c : lmk s.vers = 0
    · rw [c]; decide
    · have := S.lt (I.bm c).1
      have := S.1
      omega
  have V := Qg.2.2.2.2.1.1
  have vl := V.2.1
  refine ⟨g, i, t, e, Qg, n, sz, t1, t3, by omega, ef, by rw [(V.2.2 i t t1).2.2, t3], ?_⟩
  rw [pk_div (by omega) (by omega) (by omega)]
  exact sp
theorem m_compactN {h : Hp} {y : Nat} {A pid pat : Nat → Nat} {s : Ab} {base gen d : Nat} (Q : RM h y A pid pat s) (I : Ivt s base gen) (d1 : 1 ≤ d) (d2 : d ≤ 64) (hz : (spz s.st s.np s.vers s.chs (lmk s.vers / 32) d s.chs.length).1 = none) :
    ∃ h', f_M_compact y (nI d) h = some (-3, h') ∧ RM h' y A pid pat s ∧ hpN h' = hpN h ∧ hpS h' = hpS h := by
  obtain ⟨g, i, t, e, Qg, n, sz, t1, t3, il, ef, e29, sp⟩ := m_compactK Q I d1 d2
  have M := Q.1
  have Mg := Qg.1
  have v1 := Qg.2.2.2.2.1.2.1
  rw [hz] at sp
  refine ⟨g, ?_, Qg, n, sz⟩
  unfold f_M_compact
  rw [sub1_s d1, cl_s (in_ok (by omega) (by omega) h), if_neg (by decide), gd_t (isK_of M.1), cv_s e, gd_t (isK_of Mg.1), v1, cl_s ef, dr_s Mg.a29.1, gd_t (isK_of Mg.a29.2.1), gd_t (inb_n (by rw [Mg.a29.2.2.1]; omega) (by rw [Mg.a29.2.2.1]; decide)), nI_clamp (by omega), e29, bd_s sp]
  exact if_neg (by decide : ¬ (0 : Int32) ≤ -1)
theorem m_compactT {h : Hp} {y : Nat} {A pid pat : Nat → Nat} {s : Ab} {base gen d c sid : Nat} (Q : RM h y A pid pat s) (I : Ivt s base gen) (d1 : 1 ≤ d) (d2 : d ≤ 64) (hz : (spz s.st s.np s.vers s.chs (lmk s.vers / 32) d s.chs.length).1 = some c) (hc : s.chs[c]? = some sid) (l0 : lmk s.vers ≠ 0) :
    ∃ h', f_M_compact y (nI d) h = some (nI (sm (cnN s.st (lmk s.vers) sid) 4), h') ∧ RM h' y A pid pat (s.now, tlN s.st (lmk s.vers) sid s.tl 16, tmN s.st (lmk s.vers) sid s.tm 4, s.2.2.2) ∧ hpN h' = hpN h ∧ hpS h' = hpS h := by
  obtain ⟨g, i, t, e, Qg, n, sz, t1, t3, il, ef, e29, sp⟩ := m_compactK Q I d1 d2
  have S := I.1
  have M := Q.1
  have Mg := Qg.1
  have v1 := Qg.2.2.2.2.1.2.1
  rw [hz] at sp
  have cl48 : c < 32 := by
    have a := (List.getElem?_eq_some_iff.mp hc).1
    have b := Qg.2.2.2.1.2.1
    omega
  obtain ⟨i1, i2⟩ := I.2.2.2.1.1 sid (List.mem_of_getElem? hc)
  obtain ⟨g2, e2, mm2, n2, z2⟩ := m_markNone Mg
  have K2 := fr_M_markNone (C := cT) (mi := 0) e2
  have Q2 := Qg.mark K2 (by decide) (by decide)
  obtain ⟨i', t', u1, u2, u3, u4, ef2⟩ := m_last Q2 I.2.2.2.2.2.1
  have V2 := Q2.2.2.2.2.1.1
  have vl := V2.2.1
  have e29' : hpI g2 (A 29) i' = nI (lmk s.vers) := by rw [(V2.2.2 i' t' u1).2.2, u3]
  have v2 := Q2.2.2.2.2.1.2.1
  have M2 := Q2.1
  obtain ⟨w1, w2, w3⟩ := I.bm l0
  have hin : inR pid pat s.st (lmk s.vers) := fun k hk => by
    have lv := w3 k hk
    exact Q2.2.2.2.2.2.2 k (S.rc w1 w2 hk).1 (Or.inl (I.2.2.2.2.2.2.1.1 k lv).2)
  obtain ⟨g3, e3, mm3, n3, z3⟩ := m_mark M2 Q2.2.2.2.2.2.1 S (k := lmk s.vers) (fun _ => ⟨w1, w2, hin⟩) mm2
  have K3 := fr_M_mark (C := cT) (mi := 0) e3
  have Q3 := Q2.mark K3 (by decide) (by decide)
  have h20 := (Q3.2.2.2.1.2.2 c sid hc).1
  obtain ⟨h', e4, M4, O4, T4, U4, n4, z4⟩ := m_touchL Q3.1 Q3.2.2.2.2.2.1 S w1 w2 hin (fun j hj => by rw [mm3 j hj, dec_p l0]; rfl) cl48 h20 i1 i2 Q3.2.1.2.1 Q3.2.1.2.2
  have ee : f_M_compact y (nI d) h = some (nI (sm (cnN s.st (lmk s.vers) sid) 4), h') := by
    unfold f_M_compact
    rw [sub1_s d1, cl_s (in_ok (by omega) (by omega) h), if_neg (by decide), gd_t (isK_of M.1), cv_s e, gd_t (isK_of Mg.1), v1, cl_s ef, dr_s Mg.a29.1, gd_t (isK_of Mg.a29.2.1), gd_t (inb_n (by rw [Mg.a29.2.2.1]; omega) (by rw [Mg.a29.2.2.1]; decide)), nI_clamp (by omega), e29, bd_s sp]
    show (if 0 ≤ nI c then _ else _) = _
    rw [if_pos (nI_pos' (by omega)), gd_t (isK_of Mg.1), cv_s e2, gd_t (isK_of M2.1), v2, cl_s ef2, dr_s M2.a29.1, gd_t (isK_of M2.a29.2.1), gd_t (inb_n (by rw [M2.a29.2.2.1]; omega) (by rw [M2.a29.2.2.1]; decide)), nI_clamp (by omega), e29', gd_t (isK_of M2.1), cv_s e3]
    show bd (l_M_compact_146 y (nI c) ((0 : Int32), (0 : Int32), g3)) _ = _
    rw [bd_s e4]
  have K := fr_M_compact (C := cT) (mi := 0) ee
  exact ⟨h', ee, Q.nowU K (by decide) M4 (Q.2.1.1.exS (y := y) (Sm.k Q.1 K (by decide) (by decide))) T4 U4, by omega, by omega⟩
theorem c_compact {E : Nat × Nat} {h : Hp} {x y : Nat} {A : Nat → Nat} {j : Nat} (K : Ok E h x y A j) (p : Int32) : ∃ r h1 h2, f_X_compact x p h = some (r, h1) ∧ f_M_compact y p h1 = some (r, h2) ∧ Ok E h2 x y A (j + 1) ∧ Rm h h2 := by
  have out : p < 0 ∨ nI 65 ≤ p ∨ p = 0 → ∃ r h1 h2, f_X_compact x p h = some (r, h1) ∧ f_M_compact y p h1 = some (r, h2) ∧ Ok E h2 x y A (j + 1) ∧ Rm h h2 := fun q => by
    refine ⟨-1, h, h, ?_, ?_, K.mono, Rm.refl h⟩
    · unfold f_X_compact
      rcases q with q | q | q
      · rw [if_pos (Int32.lt_of_lt_of_le q (by decide))]
      · rw [if_neg (fun w => absurd (Int32.lt_of_le_of_lt q w) (by decide)), if_neg (fun w => absurd (Int32.le_trans q w) (by decide))]
      · rw [q, if_pos (by decide)]
    · unfold f_M_compact
      rw [cl_s (in_out (n := 64) (by
        rcases q with q | q | q
        · exact sub1_lo q
        · exact Or.inr (sub1_hi q)
        · rw [q]; exact Or.inl (by decide)) h), if_pos rfl]
  rcases pk_ix p (n := 65) (by omega) with q | q | ⟨d, hd, rfl⟩
  · exact out (Or.inl q)
  · exact out (Or.inr (Or.inl q))
  by_cases d0 : d = 0
  · exact out (Or.inr (Or.inr (by rw [d0]; rfl)))
  clear out
  obtain ⟨B, va, ca, ka, pa, rd, pid, pat, s, base, gen, R, Q, I, i1, i2, i3⟩ := K
  have X := R.2.1
  have sp := x_sparse R I (p := d) (by omega)
  have l1 : ¬ nI d < (1 : Int32) := fun w => nI_nlt (a := d) (b := 1) (by omega) (by omega) w
  have l2 : nI d ≤ nI 64 := nI_le (by omega) (by omega)
  cases hz : (spz s.st s.np s.vers s.chs (lmk s.vers / 32) d s.chs.length).1 with
  | none =>
    rw [hz] at sp
    obtain ⟨h2, e2, Q2, n2, s2⟩ := m_compactN Q I (by omega) (by omega) hz
    have K2 := fr_M_compact (C := cT) (mi := 0) e2
    refine ⟨-3, h, h2, ?_, e2, ⟨B, va, ca, ka, pa, rd, pid, pat, s, base, gen, R.k K2 (by decide), Q2, I, by omega, by omega, i3.up⟩, ?_, ?_, ?_⟩
    · unfold f_X_compact
      rw [if_neg l1, if_pos l2, gd_t (isK_of X.1), cl_s sp]
      exact if_pos rfl
    all_goals omega
  | some c =>
    obtain ⟨cl', cz⟩ := (spz_b (st := s.st) (np := s.np) (vers := s.vers) (chs := s.chs) (lid := lmk s.vers / 32) (p := d) (by omega) s.chs.length).2 c hz
    obtain ⟨sid, hid⟩ : ∃ sid, s.chs[c]? = some sid := ⟨_, List.getElem?_eq_getElem cl'⟩
    rw [hid] at cz
    obtain ⟨k, -, hk⟩ := cn_ex cz
    have l0 := lmk_lv I hk
    rw [hz] at sp
    have hca : (s.chs.map ca)[c]? = some (ca sid) := by rw [List.getElem?_map, hid]; rfl
    have sp' : f_X_findSparsest x (nI d) h = some (some (ca sid), h) := by rw [sp, ← hca]; rfl
    obtain ⟨g1, g2⟩ := I.2.2.2.1.1 sid (List.mem_of_getElem? hid)
    obtain ⟨il, al, tt, ha, htt, te, x4, ile, hlast⟩ := R.lat I.2.2.2.2.2.1
    obtain ⟨o1, o2, o3, o4, o5⟩ := R.2.2.2.2.2.1.1.2.2 il al tt ha htt
    have lm : tt.2.2 = lmk s.vers := by unfold lmk; rw [hlast]; rfl
    rw [lm, ck_s l0] at o4
    obtain ⟨w1, w2, w3⟩ := I.bm l0
    have PT0 := R.keepPT
    obtain ⟨h1, e1, T1, n1, s1⟩ := p_touchIn PT0.1 PT0.2 R.2.2.1.2 R.2.2.2.2.2.2.2.1 I.1 w1 w2 g1 g2
    have ex : f_X_compact x (nI d) h = some (nI (sm (cnN s.st (lmk s.vers) sid) 4), h1) := by
      unfold f_X_compact
      rw [if_neg l1, if_pos l2, gd_t (isK_of X.1), cl_s sp', if_neg (by intro w; cases w), gd_t (isK_of X.1), dr_s x4, gd_t (isK_of o1), o4, if_neg (by intro w; cases w), dr_s X.2.2.1, gd_t (isK_of PT0.1), cl_s e1]
    have K1 := fr_X_compact (C := cT) (mi := 0) ex
    have Q1 := Q.k K1 (by decide)
    have R1 := R.nowU K1 (by decide) (R.2.2.1.1.k K1 (by decide)) T1
    obtain ⟨h2, e2, Q2, n2, s2⟩ := m_compactT Q1 I (by omega) (by omega) hz hid l0
    have K2 := fr_M_compact (C := cT) (mi := 0) e2
    refine ⟨_, h1, h2, ex, e2, ⟨B, va, ca, ka, pa, rd, pid, pat, _, base, gen, R1.k K2 (by decide), Q2, I, by omega, by show s.nxt ≤ _; omega, i3.up⟩, ?_, ?_, ?_⟩
    all_goals omega

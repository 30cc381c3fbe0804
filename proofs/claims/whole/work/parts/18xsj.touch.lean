/-! compact: what is touched -/
def tT (st : Nat → Pg) (lm sid k : Nat) : Bool := if k < 16 then decide (lk2 st lm (k / 4) (k % 4) ≠ 0) && decide (lk2 st lm (k / 4) (k % 4) / 32 = sid) else decide (ld st lm (k - 16) ≠ 0) && decide (ld st lm (k - 16) / 32 = sid)
theorem tT_l {st : Nat → Pg} {lm sid m j : Nat} (hm : m < 4) (hj : j < 4) : tT st lm sid (4 * m + j) = (decide (lk2 st lm m j ≠ 0) && decide (lk2 st lm m j / 32 = sid)) := by
  unfold tT
  rw [if_pos (by omega), show (4 * m + j) / 4 = m by omega, show (4 * m + j) % 4 = j by omega]
theorem tT_r {st : Nat → Pg} {lm sid m : Nat} : tT st lm sid (16 + m) = (decide (ld st lm m ≠ 0) && decide (ld st lm m / 32 = sid)) := by
  unfold tT
  rw [if_neg (by omega), Nat.add_sub_cancel_left]
theorem PT.cg {h : Hp} {p : Nat} {tl tm tl' tm' : Nat → Bool} (T : PT h p tl tm) (e1 : ∀ i, i < 16 → tl i = tl' i) (e2 : ∀ i, i < 4 → tm i = tm' i) : PT h p tl' tm' := fun i hi => by
  obtain ⟨a, b⟩ := T i hi
  refine ⟨?_, ?_⟩
  · rw [a]
    by_cases c : i < 16
    · rw [e1 i c]
    · rw [decide_eq_false c, Bool.false_and, Bool.false_and]
  · rw [b]
    by_cases c : i < 4
    · rw [e2 i c]
    · rw [decide_eq_false c, Bool.false_and, Bool.false_and]
def tlN (st : Nat → Pg) (lm sid : Nat) (tl : Nat → Bool) (n i : Nat) : Bool := tl i || (decide (i < n) && tT st lm sid i)
def tmN (st : Nat → Pg) (lm sid : Nat) (tm : Nat → Bool) (n i : Nat) : Bool := tm i || (decide (i < n) && tT st lm sid (16 + i))
def cnN (st : Nat → Pg) (lm sid m : Nat) : Nat := (bif tT st lm sid (16 + m) then 1 else 0) + cn (fun j => tT st lm sid (4 * m + j)) 4
theorem tlN_s {st : Nat → Pg} {lm sid : Nat} {tl : Nat → Bool} {n : Nat} : ∀ i, va_up (tlN st lm sid tl n) n (tlN st lm sid tl n n || tT st lm sid n) i = tlN st lm sid tl (n + 1) i := fun i => by
  unfold va_up
  by_cases c : i = n
  · rw [if_pos c, c]
    unfold tlN
    rw [decide_eq_false (Nat.lt_irrefl n), decide_eq_true (Nat.lt_succ_self n), Bool.false_and, Bool.or_false, Bool.true_and]
  · rw [if_neg c]
    unfold tlN
    congr 2
    exact decide_eq_decide.mpr (by omega)
theorem p_touchIn {h : Hp} {p lm sid : Nat} {tl tm : Nat → Bool} {ca ka pa : Nat → Nat} {st : Nat → Pg} {fs np : Nat → Nat} {nxt : Nat} (hp : hpT h p = 5) (hpn : p < hpN h) (T : PT h p tl tm) (G : XG h ca ka pa st fs np nxt) (S : SW st fs np nxt) (v : vk np nxt lm) (k2 : kd st lm = 2) (s1 : 1 ≤ sid) (s2 : sid < nxt) :
    ∃ h', f_P_touchPagesIn p (some (ca sid)) (some (pa lm)) h = some (nI (sm (cnN st lm sid) 4), h') ∧ PT h' p (tlN st lm sid tl 16) (tmN st lm sid tm 4) ∧ hpN h' = hpN h ∧ hpS h' = hpS h := by
  have hca : ∀ k, vk np nxt k → ∀ r, XG r ca ka pa st fs np nxt → (hpR r (pa k) 0 = some (ca sid) ↔ k / 32 = sid) := fun k vk' r Gr => by
    rw [(Gr.po vk').2.1]
    exact ⟨fun z => Gr.ca S vk'.1 vk'.2.1 s1 s2 (Option.some.inj z), fun z => by rw [z]⟩
  have inner : ∀ (m c : Nat) (tmx : Nat → Bool) (q : Hp), m < 4 → Keep W_P_touchPagesIn h q → PT q p (tlN st lm sid tl (4 * m)) tmx → ∃ r, l_P_touchPagesIn_54 p (some (ca sid)) (some (pa lm)) (nI m) (nI c, (0 : Int32), q) = some r ∧ (r.1 = nI (c + cn (fun j => tT st lm sid (4 * m + j)) 4) ∧ Keep W_P_touchPagesIn h r.2 ∧ PT r.2 p (tlN st lm sid tl (4 * m + 4)) tmx ∧ hpN r.2 = hpN q ∧ hpS r.2 = hpS q) := by
    intro m c tmx q hm Kq Tq
    refine lp_up (b := fun z => b_P_touchPagesIn_54 p (some (ca sid)) (some (pa lm)) z.1 (nI m) z.2.1 z.2.2) (fun j z => z.1 = nI (c + cn (fun j => tT st lm sid (4 * m + j)) j) ∧ z.2.1 = nI j ∧ Keep W_P_touchPagesIn h z.2.2 ∧ PT z.2.2 p (tlN st lm sid tl (4 * m + j)) tmx ∧ hpN z.2.2 = hpN q ∧ hpS z.2.2 = hpS q) _ 4 (by decide) ⟨rfl, rfl, Kq, Tq, rfl, rfl⟩ (fun j z hj hz => Or.inl ?_) (fun z hz => ⟨(z.1, z.2.2), ?_, hz.1, hz.2.2⟩)
    · obtain ⟨a, b, r⟩ := z
      obtain ⟨b1, b2, b3, b4, b5⟩ := hz
      dsimp only at b1 b2 b3 b4 b5
      subst b1 b2
      have Gr := G.ext (Sx.k b3 (by decide))
      have lo2 := e_leafOf Gr S v k2 hm hj
      have mt := ((Gr.po v).meta k2).1
      have pr : hpT r p = 5 := (b3.2.2.1 p hpn).1.trans hp
      have tl' := tT_l (st := st) (lm := lm) (sid := sid) hm hj
      have stay : tT st lm sid (4 * m + j) = false → b_P_touchPagesIn_54 p (some (ca sid)) (some (pa lm)) (nI (c + cn (fun j => tT st lm sid (4 * m + j)) j)) (nI m) (nI j) r = some (.inl (nI (c + cn (fun j => tT st lm sid (4 * m + j)) j), nI (j + 1), r)) → ∃ z', b_P_touchPagesIn_54 p (some (ca sid)) (some (pa lm)) (nI (c + cn (fun j => tT st lm sid (4 * m + j)) j)) (nI m) (nI j) r = some (.inl z') ∧ z'.1 = nI (c + cn (fun j => tT st lm sid (4 * m + j)) (j + 1)) ∧ z'.2.1 = nI (j + 1) ∧ Keep W_P_touchPagesIn h z'.2.2 ∧ PT z'.2.2 p (tlN st lm sid tl (4 * m + (j + 1))) tmx ∧ hpN z'.2.2 = hpN q ∧ hpS z'.2.2 = hpS q := fun hf eb => by
        refine ⟨_, eb, by rw [cn_f (f := fun j => tT st lm sid (4 * m + j)) hf], rfl, b3, b4.cg (fun i _ => ?_) (fun _ _ => rfl), b5⟩
        rw [show 4 * m + (j + 1) = 4 * m + j + 1 by omega, ← tlN_s, hf, Bool.or_false]
        unfold va_up
        by_cases w : i = 4 * m + j
        · rw [if_pos w, w]
        · rw [if_neg w]
      by_cases c0 : lk2 st lm m j = 0
      · rw [c0, ck_0] at lo2
        refine stay (by rw [tl', dec_n c0]; rfl) ?_
        unfold b_P_touchPagesIn_54
        simp (disch := omega) only [gd_T, dr_S, nm_v, cl_S, cv_S, bd_S, lk_L, lk_R, zbw_b, isK_e, isPg_3, isPg_4, isPg_6, asV_n, beq_self_eq_true, inb_N, inb_0, le_T, le_F, lt_T, lt_F, eq_F, le_0T, lt_0F, le_0F, eq_0F, nI_1, nI_add, pk_mul, nI_clamp, cl_0, if_true, if_false, of_nI, T_wI, L_wI, R_wI, N_wI, S_wI, T_wR, L_wR, I_wR, N_wR, S_wR, I_same, R_same, I_wIn, I_wIk, R_wRn, R_wRk, T_nwo, T_nwn, L_nwo, L_nwn, I_nwo, I_nwn, R_nwo, R_nwn, N_nw, S_nw, nar_1, nar_0, nar_01, b01_t0, b01_f0, b01_t1, b01_f1, ne_sn, eq_sn, sn_inj, mt, lo2]
      · rw [ck_s c0] at lo2
        obtain ⟨l1, l2, -⟩ := S.lkk v k2 hm hj c0
        have lT := ((Gr.po l1).leaf l2).1
        have hi := hca _ l1 r Gr
        by_cases c1 : lk2 st lm m j / 32 = sid
        · have tt : tT st lm sid (4 * m + j) = true := by rw [tl', dec_p c0, decide_eq_true c1]; rfl
          obtain ⟨r', e', hr', T'⟩ := p_touch pr b4 hm hj
          have eb : b_P_touchPagesIn_54 p (some (ca sid)) (some (pa lm)) (nI (c + cn (fun j => tT st lm sid (4 * m + j)) j)) (nI m) (nI j) r = some (.inl (nI (c + cn (fun j => tT st lm sid (4 * m + j)) j + 1), nI (j + 1), r')) := by
            unfold b_P_touchPagesIn_54
            rw [if_neg (nI_ge hj (by decide)), dr_s rfl, gd_t (isK_of mt), cl_s lo2, if_neg (by intro w; cases w), dr_s rfl, gd_t (isK_of lT), if_pos (hi.mpr c1), gd_t (isK_of pr), cv_s e', nI_s, nI_s]
          refine ⟨_, eb, by rw [cn_t (f := fun j => tT st lm sid (4 * m + j)) tt, Nat.add_assoc], rfl, b3.trans (kb_P_touchPagesIn_54 (C := cT) (mi := 0) eb), T'.cg (fun i _ => ?_) (fun _ _ => rfl), by dsimp only; rw [hr']; exact b5.1, by dsimp only; rw [hr']; exact b5.2⟩
          rw [show 4 * m + (j + 1) = 4 * m + j + 1 by omega, ← tlN_s, tt, Bool.or_true]
        · refine stay (by rw [tl', decide_eq_false c1, Bool.and_false]) ?_
          unfold b_P_touchPagesIn_54
          rw [if_neg (nI_ge hj (by decide)), dr_s rfl, gd_t (isK_of mt), cl_s lo2, if_neg (by intro w; cases w), dr_s rfl, gd_t (isK_of lT), if_neg (fun w => c1 (hi.mp w)), nI_s]
    · obtain ⟨a, b, r⟩ := z
      obtain ⟨b1, b2, -⟩ := hz
      dsimp only at b1 b2
      subst b2
      show b_P_touchPagesIn_54 p (some (ca sid)) (some (pa lm)) a (nI m) (nI 4) r = _
      unfold b_P_touchPagesIn_54
      rw [if_pos (nI_le (Nat.le_refl _) (by decide))]
  have key : ∃ r, l_P_touchPagesIn_5 p (some (ca sid)) (some (pa lm)) ((0 : Int32), (0 : Int32), h) = some r ∧ (r.1 = nI (sm (cnN st lm sid) 4) ∧ PT r.2 p (tlN st lm sid tl (4 * 4)) (tmN st lm sid tm 4) ∧ hpN r.2 = hpN h ∧ hpS r.2 = hpS h) := by
    refine lp_up (b := fun z => b_P_touchPagesIn_5 p (some (ca sid)) (some (pa lm)) z.1 z.2.1 z.2.2) (fun m z => z.1 = nI (sm (cnN st lm sid) m) ∧ z.2.1 = nI m ∧ Keep W_P_touchPagesIn h z.2.2 ∧ PT z.2.2 p (tlN st lm sid tl (4 * m)) (tmN st lm sid tm m) ∧ hpN z.2.2 = hpN h ∧ hpS z.2.2 = hpS h) _ 4 (by decide) ⟨rfl, rfl, Keep.refl _ _, T.cg (fun i _ => by unfold tlN; rw [decide_eq_false (by omega), Bool.false_and, Bool.or_false]) (fun i _ => by unfold tmN; rw [decide_eq_false (by omega), Bool.false_and, Bool.or_false]), rfl, rfl⟩ (fun m z hm hz => Or.inl ?_) (fun z hz => ⟨(z.1, z.2.2), ?_, hz.1, hz.2.2.2⟩)
    · obtain ⟨a, b, r⟩ := z
      obtain ⟨b1, b2, b3, b4, b5⟩ := hz
      dsimp only at b1 b2 b3 b4 b5
      subst b1 b2
      have Gr := G.ext (Sx.k b3 (by decide))
      obtain ⟨d1, -, d3, d4, d5, d6, d7⟩ := (Gr.po v).meta k2
      have d8 := d7 m hm
      have pr : hpT r p = 5 := (b3.2.2.1 p hpn).1.trans hp
      have tr := tT_r (st := st) (lm := lm) (sid := sid) (m := m)
      have go : ∀ (c : Nat) (q : Hp), Keep W_P_touchPagesIn h q → PT q p (tlN st lm sid tl (4 * m)) (tmN st lm sid tm (m + 1)) → hpN q = hpN h → hpS q = hpS h → c + cn (fun j => tT st lm sid (4 * m + j)) 4 = sm (cnN st lm sid) (m + 1) → b_P_touchPagesIn_5 p (some (ca sid)) (some (pa lm)) (nI (sm (cnN st lm sid) m)) (nI m) r = j_P_touchPagesIn_51_L5 p (some (ca sid)) (some (pa lm)) (nI c) (nI m) q → ∃ z', b_P_touchPagesIn_5 p (some (ca sid)) (some (pa lm)) (nI (sm (cnN st lm sid) m)) (nI m) r = some (.inl z') ∧ z'.1 = nI (sm (cnN st lm sid) (m + 1)) ∧ z'.2.1 = nI (m + 1) ∧ Keep W_P_touchPagesIn h z'.2.2 ∧ PT z'.2.2 p (tlN st lm sid tl (4 * (m + 1))) (tmN st lm sid tm (m + 1)) ∧ hpN z'.2.2 = hpN h ∧ hpS z'.2.2 = hpS h := fun c q Kq Tq nq sq ec eb => by
        obtain ⟨w, e, f1, f2, f3, f4, f5⟩ := inner m c _ q hm Kq Tq
        rw [eb]
        unfold j_P_touchPagesIn_51_L5
        rw [bd_s e, nI_s, f1, ec]
        exact ⟨_, rfl, rfl, rfl, f2, f3, f4.trans nq, f5.trans sq⟩
      have tmS : ∀ q, PT q p (tlN st lm sid tl (4 * m)) (tmN st lm sid tm m) → tT st lm sid (16 + m) = false → PT q p (tlN st lm sid tl (4 * m)) (tmN st lm sid tm (m + 1)) := fun q Tq hf => Tq.cg (fun _ _ => rfl) (fun i _ => by
        unfold tmN
        by_cases w : i = m
        · rw [w, hf]; simp
        · congr 2
          exact decide_eq_decide.mpr (by omega))
      have cS : tT st lm sid (16 + m) = false → sm (cnN st lm sid) m + cn (fun j => tT st lm sid (4 * m + j)) 4 = sm (cnN st lm sid) (m + 1) := fun hf => by
        show _ = sm (cnN st lm sid) m + cnN st lm sid m
        unfold cnN
        rw [hf]
        show _ = _ + (0 + _)
        omega
      by_cases c0 : ld st lm m = 0
      · rw [c0, ck_0] at d8
        have hf : tT st lm sid (16 + m) = false := by rw [tr, dec_n c0]; rfl
        refine go _ r b3 (tmS r b4 hf) b5.1 b5.2 (cS hf) ?_
        unfold b_P_touchPagesIn_5
        rw [if_neg (nI_ge hm (by decide)), dr_s rfl, gd_t (isK_of d1), dr_s d3, gd_t (isK_of d4), gd_t (inb_n (by rw [d5]; exact hm) (by rw [d5]; decide)), nI_clamp (by omega), if_pos d8]
      · rw [ck_s c0] at d8
        obtain ⟨l1, l2, -⟩ := S.root v k2 hm c0
        have lT := ((Gr.po l1).root l2).1
        have hi := hca _ l1 r Gr
        by_cases c1 : ld st lm m / 32 = sid
        · have tt : tT st lm sid (16 + m) = true := by rw [tr, dec_p c0, decide_eq_true c1]; rfl
          have Kw : Keep W_P_touchPagesIn h (wI r p 3 (hpI r p 3 ||| ((1 : Int32) <<< (nI m &&& 31)))) := b3.trans (kw_I rfl pr (Or.inl (by decide)))
          refine go (sm (cnN st lm sid) m + 1) (wI r p 3 (hpI r p 3 ||| ((1 : Int32) <<< (nI m &&& 31)))) Kw (fun i hi' => ?_) b5.1 b5.2 ?_ ?_
          · obtain ⟨u1, u2⟩ := b4 i hi'
            refine ⟨by rw [I_wIk (by decide)]; exact u1, ?_⟩
            rw [I_same, bt_set _ (by omega) hi', u2]
            unfold tmN
            by_cases w : i = m
            · rw [w, tt, decide_eq_true hm, decide_eq_true (Nat.lt_succ_self m), decide_eq_true rfl]; simp
            · rw [decide_eq_false w, Bool.or_false]
              congr 2
              congr 1
              exact decide_eq_decide.mpr (by omega)
          · show _ = sm (cnN st lm sid) m + cnN st lm sid m
            unfold cnN
            rw [tt]
            show _ = _ + (1 + _)
            omega
          · unfold b_P_touchPagesIn_5
            rw [if_neg (nI_ge hm (by decide)), dr_s rfl, gd_t (isK_of d1), dr_s d3, gd_t (isK_of d4), gd_t (inb_n (by rw [d5]; exact hm) (by rw [d5]; decide)), nI_clamp (by omega), d8, if_neg (by intro w; cases w), dr_s rfl, gd_t (isK_of lT), if_pos (hi.mpr c1), gd_t (isK_of pr), nm_v, nI_s]
        · have hf : tT st lm sid (16 + m) = false := by rw [tr, decide_eq_false c1, Bool.and_false]
          refine go _ r b3 (tmS r b4 hf) b5.1 b5.2 (cS hf) ?_
          unfold b_P_touchPagesIn_5
          rw [if_neg (nI_ge hm (by decide)), dr_s rfl, gd_t (isK_of d1), dr_s d3, gd_t (isK_of d4), gd_t (inb_n (by rw [d5]; exact hm) (by rw [d5]; decide)), nI_clamp (by omega), d8, if_neg (by intro w; cases w), dr_s rfl, gd_t (isK_of lT), if_neg (fun w => c1 (hi.mp w))]
    · obtain ⟨a, b, r⟩ := z
      obtain ⟨b1, b2, -⟩ := hz
      dsimp only at b1 b2
      subst b2
      show b_P_touchPagesIn_5 p (some (ca sid)) (some (pa lm)) a (nI 4) r = _
      unfold b_P_touchPagesIn_5
      rw [if_pos (nI_le (Nat.le_refl _) (by decide))]
  obtain ⟨r, e, q1, q2, q3, q4⟩ := key
  refine ⟨r.2, ?_, q2, q3, q4⟩
  unfold f_P_touchPagesIn
  rw [bd_s e, q1]

theorem SW.res {st : Nat → Pg} {fs np : Nat → Nat} {nxt nxt' : Nat} (S : SW st fs np nxt) (h : nxt' ≤ nxt) : SW st fs np nxt' := by
  refine ⟨by have := S.1; omega, fun id h1 h2 => S.2.1 id h1 (by omega), fun k v => ?_⟩
  obtain ⟨w1, w2, w3, w4⟩ := S.2.2 k ⟨v.1, by have := v.2.1; omega, v.2.2⟩
  refine ⟨w1, w2, fun c m hm => ?_, fun c j hj => ?_⟩
  · rcases w3 c m hm with q | ⟨q1, q2, q3, q4⟩
    · exact Or.inl q
    · exact Or.inr ⟨⟨q1.1, by have := v.2.1; omega, q1.2.2⟩, q2, q3, q4⟩
  · rcases w4 c j hj with q | ⟨q1, q2, q3⟩
    · exact Or.inl q
    · exact Or.inr ⟨⟨q1.1, by have := v.2.1; omega, q1.2.2⟩, q2, q3⟩
theorem x_crashS {E : Nat × Nat} {h : Hp} {x d : Nat} {B : Nat → Nat} {va : List Nat} {ca ka pa : Nat → Nat} {rd base gen : Nat} {s : Ab} {mask : Int32} (R : RX E.1 h x B va ca ka pa rd s) (I : Ivt s base gen) (hd : d ≤ s.pend.length) (hm : ¬ mask < 0) (hm2 : mask ≤ nI 65535) (hr : rd + 1 < 2 ^ 20) :
    ∃ h' B' va' n, NWd s.st (mixB s d mask) s.fs s.np s.nxt n ∧ f_X_crash E x (nI d) mask h = some (nI (nNum s.st s.np n), h') ∧ RX E.1 h' x B' va' ca ka pa (rd + 1) (sCrash s (mixB s d mask) n) ∧ hpN h ≤ hpN h' ∧ hpN h' ≤ hpN h + 60 ∧ hpS h' ≤ hpS h + 600 := by
  obtain ⟨r1, X, ⟨N, T⟩, F, Lc, ⟨V, la⟩, ⟨h5, h6⟩, G, ⟨l1, l2, mr, l3, l4⟩, n1, n2⟩ := R
  have S := I.1
  have gok := mix_ok (d := d) (mask := mask) I
  obtain ⟨g, hgd⟩ : ∃ g, g = mixB s d mask := ⟨_, rfl⟩
  have I4 := I.2.2.2.2.1
  have l32 := F.2.2.2.2.2.2.1
  -- what is lost
  have F1 : FR h (B 1) (B 8) (B 9) (B 10) (B 11) (B 12) (ccf ca s.cont) (ccf ca s.sett) s.free (fun b => decide (b ∈ s.pend)) s.pend := F.cg (fun b hb => by unfold ccf; rw [if_pos hb]) (fun b hb => by unfold ccf; rw [if_pos hb])
  have tc := ccf_T G (fun b hb => (I.2.2.1 b hb).1)
  have ts := ccf_T G (fun b hb => (I.2.2.1 b hb).2)
  obtain ⟨h1, e1, F2, K1, m1, s1⟩ := x_loseL (mask := mask) F1 ts hd
  have G1 := G.ext (Sx.k K1 (by decide))
  have tT : ∀ k, k < hpN h → hpT h k = 2 → hpT h1 k = 2 := fun k z1 z2 => (K1.2.2.1 k z1).1.trans z2
  have tc1 := ccf_T G1 (fun b hb => (I.2.2.1 b hb).1)
  have ts1 := ccf_T G1 (fun b hb => (I.2.2.1 b hb).2)
  obtain ⟨h2, e2, F3, m2, s2⟩ := x_settle F2 (fun b k hk => by
    cases c : lsb s.pend d mask s.pend.length b with
    | true => rw [c] at hk; exact ts1 b k hk
    | false => rw [c] at hk; exact tc1 b k hk)
  have el : f_F_losePending (B 1) (nI d) mask h = some h2 := by
    unfold f_F_losePending
    rw [bd_s e1, gd_t (isK_of F2.1.1), cv_s e2]
  have K2 := fr_F_losePending (C := cT) (mi := 0) el
  rw [← hgd] at gok ⊢
  have gb : ∀ b, g b = bif lsb s.pend d mask s.pend.length b then s.sett b else s.cont b := fun b => by rw [hgd]; rfl
  have F4 : FR h2 (B 1) (B 8) (B 9) (B 10) (B 11) (B 12) (fun b => ck ca (g b).1) (fun b => ck ca (g b).1) s.free (fun b => decide (b ∈ ([] : List Nat))) [] := F3.cg (fun b hb => by
    rw [gb b]
    unfold ccf
    cases lsb s.pend d mask s.pend.length b
    · exact if_pos hb
    · exact if_pos hb) (fun b hb => by
    rw [gb b]
    by_cases c : b ∈ s.pend
    · rw [if_pos c]
      unfold ccf
      cases lsb s.pend d mask s.pend.length b
      · exact if_pos hb
      · exact if_pos hb
    · rw [if_neg c]
      have : lsb s.pend d mask s.pend.length b = false := by
        cases z : lsb s.pend d mask s.pend.length b with
        | false => rfl
        | true => exact absurd (lsb_mem z) c
      rw [this]
      show ccf ca s.sett b = ck ca (s.cont b).1
      rw [I4.2.2 b hb c]
      unfold ccf
      exact if_pos hb)
  have X2 := X.k K2 (by decide)
  have G2 := G.ext (Sx.k K2 (by decide))
  obtain ⟨n, Nw, en⟩ := x_newest F4.1 F4.2.1 G2 S gok
  obtain ⟨num, hnum⟩ : ∃ num, num = nNum s.st s.np n := ⟨_, rfl⟩
  obtain ⟨me, hme⟩ : ∃ me, me = nMeta s.np n := ⟨_, rfl⟩
  have mv : me ≠ 0 → vk s.np s.nxt me ∧ kd s.st me = 2 ∧ n ≠ 0 ∧ me = mkk s.np n ∧ Rd s.st g s.fs s.np n := fun z => by
    rw [hme] at z ⊢; exact nMeta_v S Nw z
  -- the version
  obtain ⟨vn, hvn⟩ : ∃ vn, vn = hpN h2 := ⟨_, rfl⟩
  obtain ⟨h4, e4, o24, m4, s4, v1, v2, v3, v4⟩ := v_init h2 num (ck pa me)
  rw [← hvn] at e4 m4 v1 v2 v3 v4
  have X4 := X2.k (w := ([], [])) o24.kp (by decide)
  obtain ⟨h5', hh5⟩ : ∃ h5', h5' = wR h4 x 4 (some vn) := ⟨_, rfl⟩
  have K45 : Keep ([(0, 4)], []) h4 h5' := kw_R hh5 X4.1 (Or.inl (by decide))
  have X5 := X4.k K45 (by decide)
  have m5 : hpN h5' = hpN h4 ∧ hpS h5' = hpS h4 := by rw [hh5]; exact ⟨rfl, rfl⟩
  have sv5 : Sv h h5' := ((Sv.k K2 (by decide)).trans o24.sv).trans (Sv.k K45 (by decide))
  have r15 : E.1 < hpN h5' := Nat.lt_of_lt_of_le r1 sv5.1
  have V5 := V.1.ext r1 sv5
  obtain ⟨h6', e6, A6, O6, m6, s6⟩ := al_clear V5
  have K6 := fr_A_clear (C := cT) (mi := 0) e6
  have X6 := X5.k K6 (by decide)
  have vn5 : vn < hpN h5' := by rw [m5.1, m4, hvn]; omega
  have v15 : hpT h5' vn = 7 := by rw [hh5]; exact v1
  have b3 := V.1.2.1
  have B5 : B 5 < hpN h := by
    rcases V.1.2.2.2.2.2.2 with q | q
    · rw [q.1]; exact r1
    · exact q.2.1
  have B4 : B 4 < hpN h := by
    rcases Lc.2.2.2.2.2.2 with q | q
    · rw [q.1]; exact r1
    · exact q.2.1
  have hh2 : hpN h ≤ hpN h2 := K2.1
  have nl : vn ∉ [B 3, B 5] := by
    simp only [List.mem_cons, List.not_mem_nil, or_false]
    omega
  obtain ⟨a1, a2, a3, a4⟩ := O6.at vn5 nl
  have vn6 : vn < hpN h6' := by rw [m6]; exact vn5
  have x46 : hpR h6' x 4 = some vn := by rw [(K6.I X5.2.1 X5.1 (by decide)).2, hh5, R_same]
  obtain ⟨h7, ev', e7, A7, O7, ee, m7, s7⟩ := al_add (a := vn) A6 (by decide) ⟨by rw [a1, v15]; decide, vn6⟩
  have K7 := fr_A_add1 (C := cTe E.1) (mi := E.2) e7
  have X7 := X6.k K7 (by decide)
  obtain ⟨c1, c2, c3, c4⟩ := O7.at vn6 nl
  have bk9 : hpT h5' (B 3) = 9 := V5.1
  have bk5 := V5.ek
  have r16 : E.1 < hpN h6' := by rw [m6]; exact r15
  have r17 : E.1 < hpN h7 := Nat.lt_of_lt_of_le r16 O7.1
  have ovL : Ov [B 3, B 5] h5' h7 := (Ov.o O6).trans (Ov.o O7)
  have L5 := Lc.ext r1 sv5
  have L7 := L5.exO r15 ovL (by
    simp only [List.mem_cons, List.not_mem_nil, or_false]
    rintro (z | z)
    · exact n1 z
    · have a := L5.1
      rw [z] at a; omega) (by
    simp only [List.mem_cons, List.not_mem_nil, or_false]
    rintro (z | z)
    · have a := L5.ek
      rw [z] at a; omega
    · exact n2 z)
  have K57 : Keep ([(9, 0), (9, 1), (9, 2)], [73, 74]) h5' h7 := (K6.mono (by decide) (by decide)).trans (K7.mono (by decide) (by decide))
  have K27 : Keep ([(0, 4), (9, 0), (9, 1), (9, 2)], [73, 74]) h2 h7 := (o24.kp.trans (K45.mono (by decide) (by decide))).trans (K57.mono (by decide) (by decide))
  have K07 : Keep ([(0, 4), (1, 5), (9, 0), (9, 1), (9, 2)], [68, 69, 71, 73, 74]) h h7 := (K2.mono (by decide) (by decide)).trans (K27.mono (by decide) (by decide))
  have x47 : hpR h7 x 4 = some vn := by rw [(K7.I X6.2.1 X6.1 (by decide)).2]; exact x46
  have V7 : XV E.1 h7 (B 3) ev' [vn] (cVers s n) (ck pa) := by
    refine ⟨A7, rfl, fun i a t hi ht => ?_⟩
    have : i = 0 ∧ a = vn ∧ t = (num, 0, me) := by
      unfold cVers at ht
      rw [← hnum, ← hme] at ht
      cases i with
      | zero => cases hi; cases ht; exact ⟨rfl, rfl, rfl⟩
      | succ i => cases hi
    obtain ⟨rfl, rfl, rfl⟩ := this
    refine ⟨by rw [c1, a1]; exact v15, Nat.lt_of_lt_of_le vn6 O7.1, ?_, ?_, ?_⟩
    · rw [c3, a3, hh5]; exact v2
    · rw [c4, a4, hh5, R_wRk (by decide)]; exact v3
    · rw [c3, a3, hh5]; exact v4
  -- present, marks, dead chunks
  have N7 := N.k K07 (by decide)
  have G7 := G.ext (Sx.k K07 (by decide))
  obtain ⟨h8, e8, N8, T8, m8, s8⟩ := p_load (k := me) N7 G7 S (fun z => ⟨(mv z).1, (mv z).2.1⟩)
  have K8 := fr_P_load (C := cT) (mi := 0) e8
  have X8 := X7.k K8 (by decide)
  have G8 := G7.ext (Sx.k K8 (by decide))
  have r18 : E.1 < hpN h8 := by rw [m8]; exact r17
  have V8 := V7.ext r17 (Sv.k K8 (by decide))
  have L8 := L7.ext r17 (Sv.k K8 (by decide))
  have K08 : Keep ([(0, 4), (1, 5), (5, 2), (5, 3), (9, 0), (9, 1), (9, 2)], [66, 67, 68, 69, 71, 73, 74]) h h8 := (K07.mono (by decide) (by decide)).trans (K8.mono (by decide) (by decide))
  have Q8 := l3.k G K08 (by decide)
  have x78 : hpI h8 x 7 = nI rd := by rw [(K08.I X.2.1 X.1 (by decide)).1]; exact l2
  have vkc : VK s.st s.np s.nxt (cVers s n) := fun t ht h0 => by
    unfold cVers at ht
    rw [List.mem_singleton] at ht
    subst ht
    dsimp only at h0 ⊢
    rw [← hme] at h0 ⊢
    exact ⟨(mv h0).1, (mv h0).2.1⟩
  obtain ⟨h9, e9, S9, Sv9, Q9, x79, m9, s9⟩ := x_markLive X8 V8 r18 G8 S vkc Q8 x78
  have K9 := fr_X_markLivePages (C := cT) (mi := 0) e9
  have X9 := X8.k K9 (by decide)
  have G9 := G8.ext S9
  have r19 : E.1 < hpN h9 := by rw [m9]; exact r18
  have L9 := L8.ext r18 Sv9
  have V9 := V8.ext r18 Sv9
  have XL9 : XL h9 x pa s.np s.nxt s.st (cVers s n) (rd + 1) := ⟨hr, x79, _, Q9, fun k hk => by
    have := l4 k hk
    cases lvb s.st (cVers s n) k with
    | true => exact ⟨Nat.le_refl _, ⟨fun _ => rfl, fun _ => rfl⟩⟩
    | false => exact ⟨by show mr k ≤ _; omega, ⟨fun z => by have : mr k = rd + 1 := z; omega, fun z => by cases z⟩⟩⟩
  have F9 := ((F4.k K27 (by decide)).k K8 (by decide)).k K9 (by decide)
  obtain ⟨h10, e10, L10, F10, ov10, m10, s10⟩ := x_free X9 L9 r19 F9 G9 S XL9 I.2.2.2.1.1
  have K10 := fr_X_freeDeadChunks (C := cT) (mi := 0) e10
  have X10 := X9.k K10 (by decide)
  have G10 := G9.ext (Sx.k K10 (by decide))
  obtain ⟨gg, hgg⟩ : ∃ gg, gg = gm (fun b => (g b).1) 32 := ⟨_, rfl⟩
  have eg := x_greatest (g := fun b => (g b).1) F10.1 (fun b hb => by
    have c := F10.2.1 b hb
    dsimp only at c ⊢
    rcases gok b hb with w | w
    · left
      refine ⟨?_, w.1⟩
      rw [c, w.1, ck_0]
    · right
      refine ⟨ca (g b).1, ?_, (G10 _ w.1 w.2.1).1.1, (G10 _ w.1 w.2.1).1.2.2.1⟩
      rw [c, ck_s (by omega)]) (fun b hb => by
    have := S.1
    rcases gok b hb with w | w
    · show (g b).1 < _
      omega
    · show (g b).1 < _
      omega)
  rw [← hgg] at eg
  obtain ⟨h11, hh11⟩ : ∃ h11, h11 = wI h10 x 6 (nI (gg + 1)) := ⟨_, rfl⟩
  have K11 : Keep ([(0, 6)], []) h10 h11 := kw_I hh11 X10.1 (Or.inl (by decide))
  have gle : gg + 1 ≤ s.nxt := by
    have : gg < s.nxt := by
      rw [hgg]
      exact gm_lt I.2.1 (fun b hb => by
        rcases gok b hb with w | w
        · have := I.2.1
          omega
        · exact w.2.1)
    omega
  have evL : B 4 ≠ ev' := by
    rcases ee with z | ⟨z, -⟩
    · rw [z]; exact n2
    · have := sv5.1
      omega
  obtain ⟨B', hB'⟩ : ∃ B', B' = va_up B 5 ev' := ⟨_, rfl⟩
  have bo : ∀ i, i ≠ 5 → B' i = B i := fun i z => by rw [hB', up_o z]
  have b5 : B' 5 = ev' := by rw [hB', up_n]
  have KT : Keep ([(0, 4), (0, 6), (0, 7), (1, 5), (3, 2), (4, 2), (5, 2), (5, 3), (6, 2), (9, 0), (9, 1), (9, 2)], [66, 67, 68, 69, 70, 71, 73, 74]) h h11 := (((K08.mono (by decide) (by decide)).trans (K9.mono (by decide) (by decide))).trans (K10.mono (by decide) (by decide))).trans (K11.mono (by decide) (by decide))
  have K8T : Keep ([(0, 6), (0, 7), (3, 2), (4, 2), (6, 2), (9, 1), (9, 2)], [70, 73, 74]) h8 h11 := ((K9.mono (by decide) (by decide)).trans (K10.mono (by decide) (by decide))).trans (K11.mono (by decide) (by decide))
  have r110 : E.1 < hpN h10 := by rw [m10]; exact r19
  have x411 : hpR h11 x 4 = some vn := by rw [(K8T.I X8.2.1 X8.1 (by decide)).2, (K8.I X7.2.1 X7.1 (by decide)).2]; exact x47
  have bk := L9.ek
  have bk2 := L9.1
  have bv3 := V9.1.1
  have bv5 := V9.1.ek
  have XLT := (XL9.k X9 G9 K10 (by decide)).k X10 G10 K11 (by decide)
  refine ⟨h11, B', [vn], n, Nw, ?_, ⟨?_, ?_, ⟨?_, ?_⟩, ?_, ?_, ⟨?_, ?_⟩, ⟨?_, ?_⟩, ?_, ?_, ?_, ?_⟩, KT.1, ?_, ?_⟩
  · rw [← hnum]
    have d0 : ¬ nI d < 0 := nI_pos (by omega)
    have dl : ¬ nI s.pend.length < nI d := nI_nlt hd (by omega)
    have vI11 : hpI h11 vn 0 = nI num := by
      have z7 := (V7.2.2 0 vn (num, 0, me) rfl (by unfold cVers; rw [← hnum, ← hme]; rfl))
      have t8 : hpT h8 vn = 7 := (K8.2.2.1 vn z7.2.1).1.trans z7.1
      have n8 : vn < hpN h8 := by rw [m8]; exact z7.2.1
      rw [(K8T.J n8 t8 (by decide) 0).1, (K8.J z7.2.1 z7.1 (by decide) 0).1]
      exact z7.2.2.1
    have vT11 : hpT h11 vn = 7 := by
      have z7 := (V7.2.2 0 vn (num, 0, me) rfl (by unfold cVers; rw [← hnum, ← hme]; rfl))
      have t8 : hpT h8 vn = 7 := (K8.2.2.1 vn z7.2.1).1.trans z7.1
      have n8 : vn < hpN h8 := by rw [m8]; exact z7.2.1
      exact (K8T.2.2.1 vn n8).1.trans t8
    have p7 : hpT h7 (B 0) = 5 := N7.1.1
    have x37 : hpR h7 x 0 = some (B 0) := X7.2.2.1
    have X11 := X.k KT (by decide)
    have j38 : j_X_reopen_38_M E x (ck pa me) (nI num) vn vn x (nw h2 7 0 3) = some h11 := by
      unfold j_X_reopen_38_M
      rw [cv_s e4, gd_t (isK_of X4.1), nm_v, ← hh5, gd_t (isK_of X5.1), dr_s X5.2.2.2.2.2, gd_t (isK_of bk9), cv_s e6, gd_t (isK_of X6.1), dr_s X6.2.2.2.2.2, gd_t (isK_of A6.1), x46, cl_s e7, gd_t (isK_of X7.1), dr_s x37, gd_t (isK_of p7), cv_s e8, gd_t (isK_of X8.1), cv_s e9, gd_t (isK_of X9.1), cv_s e10, gd_t (isK_of X10.1), dr_s X10.2.2.2.1, gd_t (isK_of F10.1.1), cl_s eg, gd_t (isK_of X10.1), nI_s, nm_v, hh11]
    have j20 : j_X_reopen_20_M E x (ck pa me) h2 = some h11 := by
      unfold j_X_reopen_20_M
      rw [nm_v, ← hvn]
      by_cases c : me = 0
      · have n0 : num = 0 := by
          rw [hnum]
          unfold nNum
          by_cases z : n = 0
          · rw [if_pos z]
          · exfalso
            rw [hme] at c
            unfold nMeta at c
            rw [if_neg z] at c
            obtain ⟨q1, q2, q3⟩ := Nw.1.resolve_left z
            have := (mkk_vk S q1 q2).1.pos
            omega
        have j := j38
        rw [c, ck_0, n0] at j
        rw [c, ck_0, if_pos rfl]
        exact j
      · obtain ⟨w1, w2, w3, w4, w5⟩ := mv c
        obtain ⟨p1, p2, -⟩ := (G2.po w1).meta w2
        have pb := (G2.po w1).1
        have ne : pwh s.st me = num := by rw [hnum, w4]; unfold nNum; rw [if_neg w3]
        have j := j38
        rw [ck_s c] at j ⊢
        rw [if_neg (by intro z; cases z), dr_s rfl, gd_t (isK_of (show hpT (nw h2 7 0 3) (pa me) = 4 by rw [T_nwo pb]; exact p1)), I_nwo pb, p2, ne]
        exact j
    have er : f_X_reopen E x h2 = some h11 := by
      unfold f_X_reopen
      rw [gd_t (isK_of X2.1), dr_s X2.2.2.2.1, gd_t (isK_of F4.1.1), cl_s en]
      by_cases c : n = 0
      · have m0 : me = 0 := by rw [hme]; unfold nMeta; rw [if_pos c]
        have j := j20
        rw [m0, ck_0] at j
        rw [c, ck_0, if_pos rfl]
        exact j
      · obtain ⟨q1, q2, q3⟩ := Nw.1.resolve_left c
        have mm : me = mkk s.np n := by rw [hme]; unfold nMeta; rw [if_neg c]
        have m0 : me ≠ 0 := by rw [mm]; have := (mkk_vk S q1 q2).1.pos; omega
        obtain ⟨Kc, g4, -⟩ := G2 n q1 q2
        have g4' : hpR h2 (ca n) 4 = some (pa me) := by rw [mm]; exact g4
        have j := j20
        rw [ck_s m0] at j
        rw [ck_s c, if_neg (by intro z; cases z), dr_s rfl, gd_t (isK_of Kc.1), g4']
        exact j
    unfold f_X_crash
    rw [if_neg d0, gd_t (isK_of X.1), dr_s X.2.2.2.1, gd_t (isK_of F.1.1), F.2.2.2.2.2.1, if_neg dl, if_neg hm, if_pos hm2, cv_s el, gd_t (isK_of X2.1), cv_s er, gd_t (isK_of X11.1), dr_s x411, gd_t (isK_of vT11), vI11]
  · exact Nat.lt_of_lt_of_le r1 KT.1
  · rw [bo 0 (by decide), bo 1 (by decide), bo 2 (by decide), bo 3 (by decide)]
    exact X.k KT (by decide)
  · rw [bo 0 (by decide), bo 6 (by decide), bo 7 (by decide)]
    show PN h11 (B 0) (B 6) (B 7) (nNow s.st (nMeta s.np n))
    rw [← hme]
    exact N8.k K8T (by decide)
  · rw [bo 0 (by decide)]
    exact T8.k K8T N8.1.2.1 N8.1.1 (by decide)
  · rw [bo 1 (by decide), bo 8 (by decide), bo 9 (by decide), bo 10 (by decide), bo 11 (by decide), bo 12 (by decide)]
    exact F10.k K11 (by decide)
  · rw [bo 2 (by decide), bo 4 (by decide)]
    exact L10.ext r110 (Sv.k K11 (by decide))
  · rw [bo 3 (by decide), b5]
    refine (V9.exO r19 ov10 ?_ ?_ (fun a ha => ?_)).ext r110 (Sv.k K11 (by decide))
    · simp only [List.mem_cons, List.not_mem_nil, or_false]
      rintro (z | z)
      · exact n1 z.symm
      · rw [z] at bv3; omega
    · simp only [List.mem_cons, List.not_mem_nil, or_false]
      rintro (z | z)
      · rw [z] at bv5; omega
      · exact evL z.symm
    · simp only [List.mem_cons, List.not_mem_nil, or_false] at ha
      rcases ha with z | z <;> rw [z] <;> omega
  · intro i a t hi ht
    have : i = 0 ∧ a = vn ∧ t = (num, 0, me) := by
      have ht' : (cVers s n)[i]? = some t := ht
      unfold cVers at ht'
      rw [← hnum, ← hme] at ht'
      cases i with
      | zero => cases hi; cases ht'; exact ⟨rfl, rfl, rfl⟩
      | succ i => cases hi
    obtain ⟨rfl, rfl, rfl⟩ := this
    rw [x411]
    exact ⟨fun _ => hnum, fun _ => rfl⟩
  · rw [(KT.I X.2.1 X.1 (by decide)).1]; exact h5
  · show hpI h11 x 6 = nI (gm (fun b => (g b).1) 32 + 1)
    rw [← hgg, hh11]; exact I_same
  · show XG h11 ca ka pa s.st s.fs s.np (gm (fun b => (g b).1) 32 + 1)
    rw [← hgg]
    exact fun id z1 z2 => (G10.ext (Sx.k K11 (by decide))) id z1 (by omega)
  · show XL h11 x pa s.np (gm (fun b => (g b).1) 32 + 1) s.st (cVers s n) (rd + 1)
    rw [← hgg]
    obtain ⟨w1, w2, mr', w3, w4⟩ := XLT
    exact ⟨w1, w2, mr', fun k hk => w3 k ⟨hk.1, by have := hk.2.1; omega, hk.2.2⟩, fun k hk => w4 k ⟨hk.1, by have := hk.2.1; omega, hk.2.2⟩⟩
  · rw [bo 2 (by decide), bo 3 (by decide)]; exact n1
  · rw [bo 4 (by decide), b5]; exact evL
  · have : hpN h11 = hpN h10 := by rw [hh11]; rfl
    omega
  · have : hpS h11 = hpS h10 := by rw [hh11]; rfl
    omega

/-! crash -/
def mixB (s : Ab) (d : Nat) (mask : Int32) (b : Nat) : Nat × Nat := bif lsb s.pend d mask s.pend.length b then s.sett b else s.cont b
theorem mix_or (s : Ab) (d : Nat) (mask : Int32) (b : Nat) : mixB s d mask b = s.cont b ∨ mixB s d mask b = s.sett b := by
  unfold mixB
  cases lsb s.pend d mask s.pend.length b
  · exact Or.inl rfl
  · exact Or.inr rfl
theorem mix_ok {s : Ab} {base gen d : Nat} {mask : Int32} (I : Ivt s base gen) : ∀ b, b < 32 → bOK (mixB s d mask) s.fs s.np s.nxt b := fun b hb => by
  unfold bOK
  rcases mix_or s d mask b with q | q
  · rw [q]; exact (I.2.2.1 b hb).1
  · rw [q]; exact (I.2.2.1 b hb).2
theorem nMeta_v {st : Nat → Pg} {g : Nat → Nat × Nat} {fs np : Nat → Nat} {nxt n : Nat} (S : SW st fs np nxt) (N : NWd st g fs np nxt n) (h : nMeta np n ≠ 0) : vk np nxt (nMeta np n) ∧ kd st (nMeta np n) = 2 ∧ n ≠ 0 ∧ nMeta np n = mkk np n ∧ Rd st g fs np n := by
  unfold nMeta at h ⊢
  by_cases c : n = 0
  · rw [if_pos c] at h; exact absurd rfl h
  · rw [if_neg c]
    obtain ⟨q1, q2, q3⟩ := N.1.resolve_left c
    obtain ⟨v, k2, -⟩ := mkk_vk S q1 q2
    exact ⟨v, k2, c, rfl, q3⟩
theorem m_greatL {h : Hp} {y : Nat} {A : Nat → Nat} {g : Nat → Nat × Nat} {sg : Nat → Nat × Nat} (M : MOK h y A) (C : Bp h (A 13) (A 14) g) (h26 : hpI h y 26 = nI 1) : l_M_crash_273 y ((0 : Int32), h) = some (wI h y 26 (nI (gm (fun b => (g b).1) 32 + 1))) := by
  have key : ∃ r, l_M_crash_273 y ((0 : Int32), h) = some r ∧ r = wI h y 26 (nI (gm (fun b => (g b).1) 32 + 1)) := by
    refine lp_up (b := fun s => b_M_crash_273 y s.1 s.2) (fun j s => s = (nI j, wI h y 26 (nI (gm (fun b => (g b).1) j + 1)))) _ 32 (by decide) ?_ (fun j s hj hs => Or.inl ?_) (fun s hs => ?_)
    · refine Prod.ext rfl ?_
      show h = wI h y 26 (nI (0 + 1))
      rw [← h26]
      unfold wI
      refine Prod.ext rfl (Prod.ext rfl (Prod.ext rfl (Prod.ext rfl (Prod.ext ?_ rfl))))
      funext b k
      show hpI h b k = if b = y ∧ k = 26 then hpI h y 26 else hpI h b k
      by_cases c : b = y ∧ k = 26
      · rw [if_pos c, c.1, c.2]
      · rw [if_neg c]
    · subst hs
      have cj := (C j hj)
      have gl : gm (fun b => (g b).1) j < 2 ^ 20 := gm_lt (by decide) (fun i hi => (C i (by omega)).2.2.1)
      have e13 : hpI (wI h y 26 (nI (gm (fun b => (g b).1) j + 1))) (A 13) j = nI (g j).1 := by rw [ym_I M (by decide)]; exact cj.1
      have l1 := cj.2.2.1
      show ∃ s', b_M_crash_273 y (nI j) (wI h y 26 (nI (gm (fun b => (g b).1) j + 1))) = some (.inl s') ∧ s' = (nI (j + 1), wI h y 26 (nI ((if gm (fun b => (g b).1) j < (g j).1 then (g j).1 else gm (fun b => (g b).1) j) + 1)))
      unfold b_M_crash_273
      by_cases c : gm (fun b => (g b).1) j < (g j).1
      · refine ⟨_, ?_, rfl⟩
        rw [if_pos c]
        simp (disch := omega) only [gd_T, dr_S, nm_v, cl_S, cv_S, bd_S, lk_L, lk_R, zbw_b, isK_e, isPg_3, isPg_4, isPg_6, asV_n, beq_self_eq_true, inb_N, inb_0, le_T, le_F, lt_T, lt_F, eq_F, le_0T, lt_0F, le_0F, eq_0F, nI_1, nI_add, pk_mul, nI_clamp, cl_0, if_true, if_false, of_nI, T_wI, L_wI, R_wI, N_wI, S_wI, T_wR, L_wR, I_wR, N_wR, S_wR, I_same, R_same, I_wIn, I_wIk, R_wRn, R_wRk, T_nwo, T_nwn, L_nwo, L_nwn, I_nwo, I_nwn, R_nwo, R_nwn, N_nw, S_nw, nar_1, nar_0, nar_01, b01_t0, b01_f0, b01_t1, b01_f1, ne_sn, eq_sn, sn_inj, M.1, M.a13.1, M.a13.2.1, M.a13.2.2.1, e13]
        congr 3
        unfold wI
        refine Prod.ext rfl (Prod.ext rfl (Prod.ext rfl (Prod.ext rfl (Prod.ext ?_ rfl))))
        funext b k
        show (if b = y ∧ k = 26 then _ else (if b = y ∧ k = 26 then _ else hpI h b k)) = if b = y ∧ k = 26 then _ else hpI h b k
        by_cases d : b = y ∧ k = 26
        · rw [if_pos d, if_pos d]
        · rw [if_neg d, if_neg d, if_neg d]
      · refine ⟨_, ?_, rfl⟩
        rw [if_neg c]
        simp (disch := omega) only [gd_T, dr_S, nm_v, cl_S, cv_S, bd_S, lk_L, lk_R, zbw_b, isK_e, isPg_3, isPg_4, isPg_6, asV_n, beq_self_eq_true, inb_N, inb_0, le_T, le_F, lt_T, lt_F, eq_F, le_0T, lt_0F, le_0F, eq_0F, nI_1, nI_add, pk_mul, nI_clamp, cl_0, if_true, if_false, of_nI, T_wI, L_wI, R_wI, N_wI, S_wI, T_wR, L_wR, I_wR, N_wR, S_wR, I_same, R_same, I_wIn, I_wIk, R_wRn, R_wRk, T_nwo, T_nwn, L_nwo, L_nwn, I_nwo, I_nwn, R_nwo, R_nwn, N_nw, S_nw, nar_1, nar_0, nar_01, b01_t0, b01_f0, b01_t1, b01_f1, ne_sn, eq_sn, sn_inj, M.1, M.a13.1, M.a13.2.1, M.a13.2.2.1, e13]
    · subst hs
      refine ⟨_, ?_, rfl⟩
      show b_M_crash_273 y (nI 32) _ = _
      unfold b_M_crash_273
      simp (disch := omega) only [gd_T, dr_S, nm_v, cl_S, cv_S, bd_S, lk_L, lk_R, zbw_b, isK_e, isPg_3, isPg_4, isPg_6, asV_n, beq_self_eq_true, inb_N, inb_0, le_T, le_F, lt_T, lt_F, eq_F, le_0T, lt_0F, le_0F, eq_0F, nI_1, nI_add, pk_mul, nI_clamp, cl_0, if_true, if_false, of_nI, T_wI, L_wI, R_wI, N_wI, S_wI, T_wR, L_wR, I_wR, N_wR, S_wR, I_same, R_same, I_wIn, I_wIk, R_wRn, R_wRk, T_nwo, T_nwn, L_nwo, L_nwn, I_nwo, I_nwn, R_nwo, R_nwn, N_nw, S_nw, nar_1, nar_0, nar_01, b01_t0, b01_f0, b01_t1, b01_f1, ne_sn, eq_sn, sn_inj]
  obtain ⟨r, e, rfl⟩ := key
  exact e
theorem m_crashS {h : Hp} {y d : Nat} {A pid pat : Nat → Nat} {s : Ab} {base gen : Nat} {mask : Int32} (Q : RM h y A pid pat s) (I : Ivt s base gen) (hd : d ≤ s.pend.length) (hm : ¬ (mask < 0 ∨ nI 65536 ≤ mask)) :
    ∃ h' pid' n, NWd s.st (mixB s d mask) s.fs s.np s.nxt n ∧ f_M_crash y (nI d) mask h = some (nI (nNum s.st s.np n), h') ∧ RM h' y A pid' pat (sCrash s (mixB s d mask) n) ∧ hpN h' = hpN h ∧ hpS h' = hpS h := by
  have S := I.1
  have M := Q.1
  obtain ⟨n1, n2, n3⟩ := Q.2.1
  obtain ⟨V, v1, v2, v3⟩ := Q.2.2.2.2.1
  have P := Q.2.2.2.2.2.1
  have gok := mix_ok (d := d) (mask := mask) I
  obtain ⟨g, hgd⟩ : ∃ g, g = mixB s d mask := ⟨_, rfl⟩
  have l32 := Q.2.2.1.2.2.2.2.1
  obtain ⟨h1, e1, M1, F1', O1, m1, s1⟩ := m_loseL (mask := mask) M Q.2.2.1 hd
  have F1 : MF h1 y A g s.sett s.free s.pend := by rw [hgd]; exact F1'
  rw [← hgd] at gok ⊢
  obtain ⟨h2, e2, M2, F2, m2, s2⟩ := m_keepAll M1 F1
  have K2 := fr_M_keepAll (C := cT) (mi := 0) e2
  have s02 : Sm h h2 y A [4, 5, 6, 7, 8, 9, 10, 11, 20, 21, 22, 23, 24] [25, 32] := (Sm.o M O1 (fun j hj => by
    have ok : ∀ j ∈ ([4, 5, 6, 7, 8, 9, 10, 11, 20, 21, 22, 23, 24] : List Nat), 66 ≤ mk j ∧ j ≠ 13 ∧ j ≠ 14 := by decide
    obtain ⟨k1, k2, k3⟩ := ok j hj
    refine ⟨k1, ?_⟩
    simp only [List.mem_cons, List.not_mem_nil, or_false]
    rintro (z | z)
    · exact M.ne k1 (by decide) k2 z
    · exact M.ne k1 (by decide) k3 z) (by
    simp only [List.mem_cons, List.not_mem_nil, or_false]
    rintro (z | z) <;> exact M.ny (by decide) z.symm)).trans (Sm.k M1 K2 (by decide) (by decide))
  have P2 := P.ext (y := y) ⟨fun j hj => s02.1 j (by simp only [List.mem_cons, List.not_mem_nil, or_false] at hj ⊢; omega), fun _ ht => by cases ht⟩
  have C2 := Q.2.2.2.1.ext (h' := h2) ⟨fun j hj => s02.1 j (by simp only [List.mem_cons, List.not_mem_nil, or_false] at hj ⊢; omega), fun t ht => s02.2 t (by simp only [List.mem_cons, List.not_mem_nil, or_false] at ht ⊢; omega)⟩
  -- purge
  obtain ⟨h3, e3, M3, G3, O3, m3, s3⟩ := m_purge M2 P2.1 F2.1 F2.2.1
  have K3 := fr_M_purge (C := cT) (mi := 0) e3
  have P3 := P2.purge M2 G3 O3
  obtain ⟨pid3, hp3⟩ : ∃ pid3, pid3 = pgd g g pid pat := ⟨_, rfl⟩
  rw [← hp3] at P3
  have F3 := F2.ext (Sm.k M2 K3 (by decide) (by decide))
  have C3 := C2.ext (Sm.k M2 K3 (by decide) (by decide))
  have hbp : ∀ i, pid3 i ≠ 0 → pid3 i = pid i ∧ hb g (pid i) (pat i / 2) = true := fun i hi => by
    rw [hp3] at hi ⊢
    unfold pgd at hi ⊢
    cases c : (decide (0 < pid i) && (hb g (pid i) (pat i / 2) || hb g (pid i) (pat i / 2))) with
    | false => rw [c] at hi; exact absurd rfl hi
    | true =>
      rw [Bool.and_eq_true, Bool.or_self] at c
      exact ⟨rfl, c.2⟩
  have X3 : Ex pid3 pat g s.fs s.np s.nxt := fun k v => by
    constructor
    · rintro ⟨i, w1, w2, w3⟩
      obtain ⟨q1, q2⟩ := hbp i (by rw [w2]; have := v.1; omega)
      rw [← q1, w2, w3] at q2
      exact (hb_iff S gok v.1 v.2.1 (by unfold nbk; have := v.2.2; omega)).mp q2
    · intro z
      rw [hp3]
      refine pgd_in S v (Q.2.2.2.2.2.2 k v ?_) (Or.inl z)
      unfold hdk at z ⊢
      rcases mix_or s d mask (s.fs (k / 32) + k % 32 / 2) with q | q
      · rw [← q, ← hgd]; exact Or.inl z
      · rw [← q, ← hgd]; exact Or.inr z
  obtain ⟨n, q, N, e4, hq⟩ := m_newest M3 P3 S gok F3.1 F3.2.1 X3
  obtain ⟨num, hnum⟩ : ∃ num, num = nNum s.st s.np n := ⟨_, rfl⟩
  obtain ⟨me, hme⟩ : ∃ me, me = nMeta s.np n := ⟨_, rfl⟩
  -- the version
  obtain ⟨h4, hh4⟩ : ∃ h4, h4 = wI (wI (wI (wI (wI h3 y 30 (nI 1)) (A 28) 0 0) y 31 (nI num)) (A 27) 0 (nI num)) (A 29) 0 (nI me) := ⟨_, rfl⟩
  have M4 : MOK h4 y A := by rw [hh4]; exact M3
  have s34 : ∀ (J T : List Nat), (∀ j ∈ J, 66 ≤ mk j ∧ j ≠ 27 ∧ j ≠ 28 ∧ j ≠ 29) → (∀ t ∈ T, t ≠ 30 ∧ t ≠ 31) → Sm h3 h4 y A J T := fun J T hJ hT => by
    rw [hh4]
    exact ((((Sm.wy M3 (fun t ht => (hT t ht).1) (fun j hj => (hJ j hj).1) _ _).trans (Sm.w M3 (by decide) (fun j hj => ⟨(hJ j hj).1, (hJ j hj).2.2.1⟩) _ _ _)).trans (Sm.wy M3 (fun t ht => (hT t ht).2) (fun j hj => (hJ j hj).1) _ _)).trans (Sm.w M3 (by decide) (fun j hj => ⟨(hJ j hj).1, (hJ j hj).2.1⟩) _ _ _)).trans (Sm.w M3 (by decide) (fun j hj => ⟨(hJ j hj).1, (hJ j hj).2.2.2⟩) _ _ _)
  have V4 : MV h4 y A (cVers s n) := by
    rw [hh4]
    refine ⟨?_, by show 1 ≤ 48; omega, fun j u hu => ?_⟩
    · simp (disch := omega) only [gd_T, dr_S, nm_v, cl_S, cv_S, bd_S, lk_L, lk_R, zbw_b, isK_e, isPg_3, isPg_4, isPg_6, asV_n, beq_self_eq_true, inb_N, inb_0, le_T, le_F, lt_T, lt_F, eq_F, le_0T, lt_0F, le_0F, eq_0F, nI_1, nI_add, pk_mul, nI_clamp, cl_0, if_true, if_false, of_nI, T_wI, L_wI, R_wI, N_wI, S_wI, T_wR, L_wR, I_wR, N_wR, S_wR, I_same, R_same, I_wIn, I_wIk, R_wRn, R_wRk, T_nwo, T_nwn, L_nwo, L_nwn, I_nwo, I_nwn, R_nwo, R_nwn, N_nw, S_nw, nar_1, nar_0, nar_01, b01_t0, b01_f0, b01_t1, b01_f1, ne_sn, eq_sn, sn_inj, my_I M3 (i := 27) (by decide), my_I M3 (i := 28) (by decide), my_I M3 (i := 29) (by decide)]
      rfl
    · have : j = 0 ∧ u = (num, 0, me) := by
        unfold cVers at hu
        rw [← hnum, ← hme] at hu
        cases j with
        | zero => cases hu; exact ⟨rfl, rfl⟩
        | succ j => cases hu
      obtain ⟨rfl, rfl⟩ := this
      simp (disch := omega) only [gd_T, dr_S, nm_v, cl_S, cv_S, bd_S, lk_L, lk_R, zbw_b, isK_e, isPg_3, isPg_4, isPg_6, asV_n, beq_self_eq_true, inb_N, inb_0, le_T, le_F, lt_T, lt_F, eq_F, le_0T, lt_0F, le_0F, eq_0F, nI_1, nI_add, pk_mul, nI_clamp, cl_0, if_true, if_false, of_nI, T_wI, L_wI, R_wI, N_wI, S_wI, T_wR, L_wR, I_wR, N_wR, S_wR, I_same, R_same, I_wIn, I_wIk, R_wRn, R_wRk, T_nwo, T_nwn, L_nwo, L_nwn, I_nwo, I_nwn, R_nwo, R_nwn, N_nw, S_nw, nar_1, nar_0, nar_01, b01_t0, b01_f0, b01_t1, b01_f1, ne_sn, eq_sn, sn_inj, mo_I M3 (i := 27) (j := 28) (by decide) (by decide) (by decide), mo_I M3 (i := 27) (j := 29) (by decide) (by decide) (by decide), mo_I M3 (i := 28) (j := 27) (by decide) (by decide) (by decide), mo_I M3 (i := 28) (j := 29) (by decide) (by decide) (by decide), mo_I M3 (i := 29) (j := 27) (by decide) (by decide) (by decide), mo_I M3 (i := 29) (j := 28) (by decide) (by decide) (by decide), ym_I M3 (j := 27) (by decide), ym_I M3 (j := 28) (by decide), ym_I M3 (j := 29) (by decide)]
      exact ⟨trivial, rfl, trivial⟩
  have P4 := P3.ext (y := y) (s34 _ _ (by decide) (by decide))
  have C4 := C3.ext (s34 _ _ (by decide) (by decide))
  have F4 := F3.ext (s34 _ _ (by decide) (by decide))
  have hvm : me ≠ 0 → vk s.np s.nxt me ∧ kd s.st me = 2 ∧ inR pid3 pat s.st me := fun z => by
    rw [hme] at z ⊢
    obtain ⟨w1, w2, w3, w4, w5⟩ := nMeta_v S N z
    exact ⟨w1, w2, fun k hk => (X3 k (S.rc w1 w2 hk).1).mpr (w5.2 k (by rw [← w4]; exact hk))⟩
  obtain ⟨h5, e5, M5, N5, T5, U5, m5, s5⟩ := m_load (k := me) M4 P4 S hvm
  have K5 := fr_M_load (C := cT) (mi := 0) e5
  have P5 := P4.ext (y := y) (Sm.k M4 K5 (by decide) (by decide))
  have V5 := V4.exS (Sm.k M4 K5 (by decide) (by decide))
  have C5 := C4.ext (Sm.k M4 K5 (by decide) (by decide))
  have F5 := F4.ext (Sm.k M4 K5 (by decide) (by decide))
  have hvc : inV pid3 pat s.st s.np s.nxt (cVers s n) := fun t ht h0 => by
    unfold cVers at ht
    rw [List.mem_singleton] at ht
    subst ht
    dsimp only at h0 ⊢
    rw [← hme] at h0 ⊢
    exact hvm h0
  obtain ⟨h6, e6, C6, F6, m6, s6⟩ := m_clean M5 P5 S V5 hvc C5 F5 I.2.2.2.1.1
  have K6 := fr_M_clean (C := cT) (mi := 0) e6
  have M6 := M5.kw K6 (by decide)
  obtain ⟨h7, hh7⟩ : ∃ h7, h7 = wI h6 y 26 (nI 1) := ⟨_, rfl⟩
  have M7 : MOK h7 y A := by rw [hh7]; exact M6
  have F7 := F6.ext (h' := h7) (by rw [hh7]; exact Sm.wy M6 (by decide) (by decide) _ _)
  have e8 := m_greatL (sg := g) M7 F7.1 (by rw [hh7]; exact I_same)
  obtain ⟨h8, hh8⟩ : ∃ h8, h8 = wI h7 y 26 (nI (gm (fun b => (g b).1) 32 + 1)) := ⟨_, rfl⟩
  rw [← hh8] at e8
  have M8 : MOK h8 y A := by rw [hh8]; exact M7
  have s68 : ∀ (J T : List Nat), (∀ j ∈ J, 66 ≤ mk j) → (∀ t ∈ T, t ≠ 26) → Sm h6 h8 y A J T := fun J T hJ hT => by
    rw [hh8, hh7]; exact (Sm.wy M6 hT hJ _ _).trans (Sm.wy M6 hT hJ _ _)
  have gge : ∀ b, b < 32 → (g b).1 ≤ gm (fun b => (g b).1) 32 := fun b hb => gm_ge (f := fun b => (g b).1) hb
  have y31 : hpI h8 y 31 = nI num := by
    rw [(s68 [] [31] (by decide) (by decide)).2 31 (by decide), (Sm.k (J := []) (T := [31]) M5 K6 (by decide) (by decide)).2 31 (by decide), (Sm.k (J := []) (T := [31]) M4 K5 (by decide) (by decide)).2 31 (by decide), hh4]
    simp (disch := omega) only [gd_T, dr_S, nm_v, cl_S, cv_S, bd_S, lk_L, lk_R, zbw_b, isK_e, isPg_3, isPg_4, isPg_6, asV_n, beq_self_eq_true, inb_N, inb_0, le_T, le_F, lt_T, lt_F, eq_F, le_0T, lt_0F, le_0F, eq_0F, nI_1, nI_add, pk_mul, nI_clamp, cl_0, if_true, if_false, of_nI, T_wI, L_wI, R_wI, N_wI, S_wI, T_wR, L_wR, I_wR, N_wR, S_wR, I_same, R_same, I_wIn, I_wIk, R_wRn, R_wRk, T_nwo, T_nwn, L_nwo, L_nwn, I_nwo, I_nwn, R_nwo, R_nwn, N_nw, S_nw, nar_1, nar_0, nar_01, b01_t0, b01_f0, b01_t1, b01_f1, ne_sn, eq_sn, sn_inj, my_I M3 (i := 27) (by decide), my_I M3 (i := 29) (by decide)]
  refine ⟨h8, pid3, n, N, ?_, ⟨M8, ⟨?_, ?_, ?_⟩, F6.ext (s68 _ _ (by decide) (by decide)), C6.ext (s68 _ _ (by decide) (by decide)), ⟨?_, ?_, ?_, ?_⟩, ?_, fun k hk hd => ?_⟩, ?_, ?_⟩
  · rw [← hnum]
    obtain ⟨m, hm1, hm2⟩ : ∃ m, m < 65536 ∧ mask = nI m := by
      rcases pk_ix mask (n := 65536) (by omega) with w | w | ⟨m, w1, w2⟩
      · exact absurd (Or.inl w) hm
      · exact absurd (Or.inr w) hm
      · exact ⟨m, w1, w2⟩
    have e7 : f_M_clean y h5 = some h6 := e6
    have ib : ∀ n, 0 < n → n < 2 ^ 31 → inb (0 : Int32) n = true := fun n z1 z2 => inb_n (k := 0) z1 z2
    have i0 : ∀ i, i < 160 → (0 : Int32) ≤ nI i := fun i hi => nI_le (a := 0) (Nat.zero_le _) (by omega)
    obtain ⟨H2, hH2⟩ : ∃ H2, H2 = wI (wI h3 y 30 (nI 1)) (A 28) 0 0 := ⟨_, rfl⟩
    have N2 : MOK H2 y A := by rw [hH2]; exact M3
    obtain ⟨H3, hH3⟩ : ∃ H3, H3 = wI H2 y 31 (nI num) := ⟨_, rfl⟩
    have N3 : MOK H3 y A := by rw [hH3]; exact N2
    obtain ⟨H, hH⟩ : ∃ H, H = wI H3 (A 27) 0 (nI num) := ⟨_, rfl⟩
    have NH : MOK H y A := by rw [hH]; exact N3
    have h4H : h4 = wI H (A 29) 0 (nI me) := by rw [hh4, hH, hH3, hH2]
    have h429 : hpI h4 (A 29) 0 = nI me := by rw [h4H]; exact I_same
    have fin : j_M_crash_250_M y (nI me) (0 : Int32) (hpR H y 29) H = some (nI num, h8) := by
      unfold j_M_crash_250_M
      rw [dr_s NH.a29.1, gd_t (isK_of NH.a29.2.1), gd_t (ib _ (by rw [NH.a29.2.2.1]; decide) (by rw [NH.a29.2.2.1]; decide)), nm_v, cl_0, ← h4H, gd_t (isK_of M4.1), dr_s M4.a29.1, gd_t (isK_of M4.a29.2.1), gd_t (ib _ (by rw [M4.a29.2.2.1]; decide) (by rw [M4.a29.2.2.1]; decide)), h429, cv_s e5, gd_t (isK_of M5.1), cv_s e7, gd_t (isK_of M6.1), nm_v, show wI h6 y 26 (1 : Int32) = h7 from hh7.symm, bd_s e8, gd_t (isK_of M8.1), y31]
    have h331 : hpI H3 y 31 = nI num := by rw [hH3]; exact I_same
    have j208 : j_M_crash_208_M y q (nI num) y H2 = some (nI num, h8) := by
      unfold j_M_crash_208_M
      rw [gd_t (isK_of N2.1), nm_v, ← hH3, gd_t (isK_of N3.1), dr_s N3.a27.1, gd_t (isK_of N3.a27.2.1), gd_t (ib _ (by rw [N3.a27.2.2.1]; decide) (by rw [N3.a27.2.2.1]; decide)), h331, cl_0, nm_v, ← hH]
      rcases hq with ⟨z1, z2⟩ | ⟨i, i1, i2, i3, i4, i5⟩
      · have me0 : me = 0 := by rw [hme, z1]; rfl
        rw [z2, if_neg (by decide)]
        rw [me0] at fin
        exact fin
      · have sH : ∀ j, 66 ≤ mk j → j ≠ 27 → j ≠ 28 → hpI H (A j) = hpI h3 (A j) := fun j z1 z2 z3 => by
          funext z
          rw [hH, mo_I M3 (by decide) z1 z2, hH3, ym_I M3 z1, hH2, mo_I M3 (by decide) z1 z3, ym_I M3 z1]
        have a4 : hpI H (A 4) i = nI (pid3 i) := by rw [sH 4 (by decide) (by decide) (by decide)]; exact (P3.1 i i1).1
        have a5 : hpI H (A 5) i = nI (pat i) := by rw [sH 5 (by decide) (by decide) (by decide)]; exact (P3.1 i i1).2.1
        have mk' : 32 * pid3 i + pat i = me := by
          have : ky pid3 pat i = me := by rw [i5, hme]; unfold nMeta; rw [if_neg i4]
          exact this
        rw [i2, if_pos (i0 i i1), dr_s NH.a4.1, gd_t (isK_of NH.a4.2.1), gd_t (inb_n (by rw [NH.a4.2.2.1]; exact i1) (by rw [NH.a4.2.2.1]; decide)), dr_s NH.a5.1, gd_t (isK_of NH.a5.2.1), gd_t (inb_n (by rw [NH.a5.2.2.1]; exact i1) (by rw [NH.a5.2.2.1]; decide)), nI_clamp (by omega), a4, a5, ix_32, mk']
        exact fin
    rw [hm2] at e1
    unfold f_M_crash
    rw [gd_t (isK_of M.1), Q.2.2.1.2.2.2.1, nI_s, cl_s (in_ok (by omega) (by omega) h), if_neg (by decide), hm2, cl_s (in_ok hm1 (by decide) h), if_neg (by decide), bd_s e1, gd_t (isK_of M1.1), cv_s e2, gd_t (isK_of M2.1), cv_s e3, bd_s e4, gd_t (isK_of M3.1), nm_v]
    rw [dr_s (show hpR (wI h3 y 30 (1 : Int32)) y 28 = some (A 28) from M3.a28.1), gd_t (isK_of (show hpT (wI h3 y 30 (1 : Int32)) (A 28) = 100 from M3.a28.2.1)), gd_t (ib _ (by show 0 < hpL h3 (A 28); rw [M3.a28.2.2.1]; decide) (by show hpL h3 (A 28) < _; rw [M3.a28.2.2.1]; decide)), cl_0, nm_v, show wI (wI h3 y 30 (1 : Int32)) (A 28) 0 0 = H2 from hH2.symm]
    dsimp only
    rcases hq with ⟨z1, z2⟩ | ⟨i, i1, i2, i3, i4, i5⟩
    · have n0 : num = 0 := by rw [hnum, z1]; rfl
      have j := j208
      rw [z2, n0] at j
      rw [z2, if_neg (by decide), n0]
      exact j
    · have p8 := (P3.2.2.2 i i1 (by rw [i3]; exact i4)).2.2.2.1
      have ne : pwh s.st (ky pid3 pat i) = num := by rw [i5, hnum]; unfold nNum; rw [if_neg i4]
      rw [ne] at p8
      have p8' : hpI H2 (A 8) i = nI num := by rw [hH2, mo_I M3 (by decide) (by decide) (by decide), ym_I M3 (by decide)]; exact p8
      have j := j208
      rw [i2] at j
      rw [i2, if_pos (i0 i i1), dr_s N2.a8.1, gd_t (isK_of N2.a8.2.1), gd_t (inb_n (by rw [N2.a8.2.2.1]; exact i1) (by rw [N2.a8.2.2.1]; decide)), nI_clamp (by omega), p8']
      exact j
  · show MNow h8 A (nNow s.st (nMeta s.np n))
    rw [← hme]
    exact (N5.exS (y := y) (Sm.k M5 K6 (by decide) (by decide))).exS (y := y) (s68 _ _ (by decide) (by decide))
  · exact (T5.exS (y := y) (Sm.k M5 K6 (by decide) (by decide))).exS (y := y) (s68 _ _ (by decide) (by decide))
  · exact (U5.exS (y := y) (Sm.k M5 K6 (by decide) (by decide))).exS (y := y) (s68 _ _ (by decide) (by decide))
  · exact (V5.exS (Sm.k M5 K6 (by decide) (by decide))).exS (s68 _ _ (by decide) (by decide))
  · show hpI h8 y 31 = nI (nNum s.st s.np n)
    rw [← hnum]; exact y31
  · rw [(s68 [] [32] (by decide) (by decide)).2 32 (by decide), (Sm.k (J := []) (T := [32]) M5 K6 (by decide) (by decide)).2 32 (by decide), (Sm.k (J := []) (T := [32]) M4 K5 (by decide) (by decide)).2 32 (by decide), (s34 [] [32] (by decide) (by decide)).2 32 (by decide), (Sm.k (J := []) (T := [32]) M2 K3 (by decide) (by decide)).2 32 (by decide), s02.2 32 (by decide)]
    exact v2
  · rw [hh8]; exact I_same
  · obtain ⟨z1, z2, z3, z4⟩ := (P5.ext (y := y) (Sm.k M5 K6 (by decide) (by decide))).ext (y := y) (s68 _ _ (by decide) (by decide))
    refine ⟨z1, z2, z3, fun i hi h0 => ⟨?_, (z4 i hi h0).2⟩⟩
    obtain ⟨w1, w2, w3⟩ := (z4 i hi h0).1
    refine ⟨w1, ?_, w3⟩
    obtain ⟨q1, q2⟩ := hbp i h0
    obtain ⟨b, b1, b2⟩ := hb_t.mp q2
    have := gge b b1
    rw [b2] at this
    dsimp only at this
    have pl := z2 i hi
    show ky pid3 pat i / 32 < gm (fun b => (g b).1) 32 + 1
    unfold ky
    rw [q1]
    omega
  · have hk' : vk s.np (gm (fun b => (g b).1) 32 + 1) k := hk
    have hd' : hdk g s.fs k := hd.elim id id
    have gl : gm (fun b => (g b).1) 32 < s.nxt := gm_lt I.2.1 (fun b hb => by
      rcases gok b hb with w | w
      · have := I.2.1
        omega
      · exact w.2.1)
    exact (X3 k ⟨hk'.1, by have := hk'.2.1; omega, hk'.2.2⟩).mpr hd'
  · have z8 : hpN h8 = hpN h6 := by rw [hh8, hh7]; rfl
    have z4 : hpN h4 = hpN h3 := by rw [hh4]; rfl
    omega
  · have z8 : hpS h8 = hpS h6 := by rw [hh8, hh7]; rfl
    have z4 : hpS h4 = hpS h3 := by rw [hh4]; rfl
    omega

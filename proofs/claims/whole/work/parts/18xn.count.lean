/-! chunk and count -/
def chA (s : Ab) (id : Nat) (w : Int32) : Int32 := if w = (0 : Int32) then nI id else if w = (1 : Int32) then nI (s.fs id) else if w = nI 2 then nI ((s.np id + 1) / 2) else if w = nI 3 then nI (s.np id) else if w = nI 4 then nI (lo s.st s.np s.vers id) else if w = nI 5 then nI (pwh s.st (mkk s.np id)) else -1
theorem RM.mark {h h' : Hp} {y : Nat} {A pid pat : Nat → Nat} {s : Ab} {w : Wl} (R : RM h y A pid pat s) (K : Keep w h h') (q : okU w) (q2 : (∀ j ∈ ([27, 28, 29] : List Nat), 66 ≤ mk j ∧ nW w (mk j) = true) ∧ ∀ t ∈ ([30, 31, 32] : List Nat), nF w 8 t = true) : RM h' y A pid pat s := by
  obtain ⟨V, v1, v2, v3⟩ := R.2.2.2.2.1
  have sm : Sm h h' y A [27, 28, 29] [30, 31, 32] := Sm.k R.1 K q2.1 q2.2
  exact R.versU K q (V.exS ⟨sm.1, fun t ht => sm.2 t (by simp only [List.mem_cons, List.not_mem_nil, or_false] at ht ⊢; exact Or.inl ht)⟩) (by rw [sm.2 31 (by decide)]; exact v1) (by rw [sm.2 32 (by decide)]; exact v2)
theorem x_chunk {e0 : Nat} {h : Hp} {x : Nat} {B : Nat → Nat} {va : List Nat} {ca ka pa : Nat → Nat} {rd i id : Nat} {s : Ab} {w : Int32} (R : RX e0 h x B va ca ka pa rd s) (S : SW s.st s.fs s.np s.nxt) (hc : s.chs[i]? = some id) (h1 : 1 ≤ id) (h2 : id < s.nxt) : f_X_chunk x (nI i) w h = some (chA s id w, h) := by
  obtain ⟨r1, ⟨x1, x2, x3, x4, x5, x6⟩, NT, F, L, V, h56, G, L8, n12⟩ := R
  have h60 := L.2.2.2.2.2.1
  have lm : (s.chs.map ca).length = s.chs.length := List.length_map _
  have il : i < s.chs.length := (List.getElem?_eq_some_iff.mp hc).1
  have sz := al_size L
  have gt := al_get L (i := i) (by omega)
  rw [show (s.chs.map ca)[i]? = some (ca id) by rw [List.getElem?_map, hc]; rfl] at gt
  obtain ⟨K, g1, g2⟩ := G id h1 h2
  obtain ⟨n1, n2, n3⟩ := S.2.1 id h1 h2
  have kb := k_blocks K (by omega)
  have lv := x_live G S L8 h1 h2
  obtain ⟨m1, m2, m3⟩ := mkk_vk S h1 h2
  obtain ⟨p1, p2, -⟩ := (G.po m1).meta m2
  have g1' : hpR h (ca id) 4 = some (pa (mkk s.np id)) := g1
  obtain ⟨k1, k2, k3, k4, k5, k6, k7, k8⟩ := K
  unfold f_X_chunk chA
  rw [if_neg (nI_pos (by omega)), gd_t (isK_of x1), dr_s x5, gd_t (isK_of L.1), cl_s sz, if_pos (nI_lt (by omega) (by omega)), gd_t (isK_of x1), dr_s x5, gd_t (isK_of L.1), cl_s gt, gd_t (caB_s k1)]
  by_cases c0 : w = 0
  · rw [if_pos c0, if_pos c0]
    simp (disch := omega) only [gd_T, dr_S, nm_v, cl_S, cv_S, bd_S, lk_L, lk_R, zbw_b, isK_e, isPg_3, isPg_4, isPg_6, asV_n, beq_self_eq_true, inb_N, inb_0, le_T, le_F, lt_T, lt_F, eq_F, le_0T, lt_0F, le_0F, eq_0F, nI_1, nI_add, pk_mul, nI_clamp, cl_0, if_true, if_false, of_nI, T_wI, L_wI, R_wI, N_wI, S_wI, T_wR, L_wR, I_wR, N_wR, S_wR, I_same, R_same, I_wIn, I_wIk, R_wRn, R_wRk, T_nwo, T_nwn, L_nwo, L_nwn, I_nwo, I_nwn, R_nwo, R_nwn, N_nw, S_nw, nar_1, nar_0, nar_01, b01_t0, b01_f0, b01_t1, b01_f1, ne_sn, eq_sn, sn_inj, k1, k3]
  rw [if_neg c0, if_neg c0]
  by_cases c1 : w = 1
  · rw [if_pos c1, if_pos c1]
    simp (disch := omega) only [gd_T, dr_S, nm_v, cl_S, cv_S, bd_S, lk_L, lk_R, zbw_b, isK_e, isPg_3, isPg_4, isPg_6, asV_n, beq_self_eq_true, inb_N, inb_0, le_T, le_F, lt_T, lt_F, eq_F, le_0T, lt_0F, le_0F, eq_0F, nI_1, nI_add, pk_mul, nI_clamp, cl_0, if_true, if_false, of_nI, T_wI, L_wI, R_wI, N_wI, S_wI, T_wR, L_wR, I_wR, N_wR, S_wR, I_same, R_same, I_wIn, I_wIk, R_wRn, R_wRk, T_nwo, T_nwn, L_nwo, L_nwn, I_nwo, I_nwn, R_nwo, R_nwn, N_nw, S_nw, nar_1, nar_0, nar_01, b01_t0, b01_f0, b01_t1, b01_f1, ne_sn, eq_sn, sn_inj, k1, k4]
  rw [if_neg c1, if_neg c1]
  by_cases c2 : w = nI 2
  · rw [if_pos c2, if_pos c2]
    simp (disch := omega) only [gd_T, dr_S, nm_v, cl_S, cv_S, bd_S, lk_L, lk_R, zbw_b, isK_e, isPg_3, isPg_4, isPg_6, asV_n, beq_self_eq_true, inb_N, inb_0, le_T, le_F, lt_T, lt_F, eq_F, le_0T, lt_0F, le_0F, eq_0F, nI_1, nI_add, pk_mul, nI_clamp, cl_0, if_true, if_false, of_nI, T_wI, L_wI, R_wI, N_wI, S_wI, T_wR, L_wR, I_wR, N_wR, S_wR, I_same, R_same, I_wIn, I_wIk, R_wRn, R_wRk, T_nwo, T_nwn, L_nwo, L_nwn, I_nwo, I_nwn, R_nwo, R_nwn, N_nw, S_nw, nar_1, nar_0, nar_01, b01_t0, b01_f0, b01_t1, b01_f1, ne_sn, eq_sn, sn_inj, k1, kb]
  rw [if_neg c2, if_neg c2]
  by_cases c3 : w = nI 3
  · rw [if_pos c3, if_pos c3]
    simp (disch := omega) only [gd_T, dr_S, nm_v, cl_S, cv_S, bd_S, lk_L, lk_R, zbw_b, isK_e, isPg_3, isPg_4, isPg_6, asV_n, beq_self_eq_true, inb_N, inb_0, le_T, le_F, lt_T, lt_F, eq_F, le_0T, lt_0F, le_0F, eq_0F, nI_1, nI_add, pk_mul, nI_clamp, cl_0, if_true, if_false, of_nI, T_wI, L_wI, R_wI, N_wI, S_wI, T_wR, L_wR, I_wR, N_wR, S_wR, I_same, R_same, I_wIn, I_wIk, R_wRn, R_wRk, T_nwo, T_nwn, L_nwo, L_nwn, I_nwo, I_nwn, R_nwo, R_nwn, N_nw, S_nw, nar_1, nar_0, nar_01, b01_t0, b01_f0, b01_t1, b01_f1, ne_sn, eq_sn, sn_inj, k1, k5, k6, k7]
  rw [if_neg c3, if_neg c3]
  by_cases c4 : w = nI 4
  · rw [if_pos c4, if_pos c4]
    simp (disch := omega) only [gd_T, dr_S, nm_v, cl_S, cv_S, bd_S, lk_L, lk_R, zbw_b, isK_e, isPg_3, isPg_4, isPg_6, asV_n, beq_self_eq_true, inb_N, inb_0, le_T, le_F, lt_T, lt_F, eq_F, le_0T, lt_0F, le_0F, eq_0F, nI_1, nI_add, pk_mul, nI_clamp, cl_0, if_true, if_false, of_nI, T_wI, L_wI, R_wI, N_wI, S_wI, T_wR, L_wR, I_wR, N_wR, S_wR, I_same, R_same, I_wIn, I_wIk, R_wRn, R_wRk, T_nwo, T_nwn, L_nwo, L_nwn, I_nwo, I_nwn, R_nwo, R_nwn, N_nw, S_nw, nar_1, nar_0, nar_01, b01_t0, b01_f0, b01_t1, b01_f1, ne_sn, eq_sn, sn_inj, x1, k1, lv]
  rw [if_neg c4, if_neg c4]
  by_cases c5 : w = nI 5
  · rw [if_pos c5, if_pos c5]
    simp (disch := omega) only [gd_T, dr_S, nm_v, cl_S, cv_S, bd_S, lk_L, lk_R, zbw_b, isK_e, isPg_3, isPg_4, isPg_6, asV_n, beq_self_eq_true, inb_N, inb_0, le_T, le_F, lt_T, lt_F, eq_F, le_0T, lt_0F, le_0F, eq_0F, nI_1, nI_add, pk_mul, nI_clamp, cl_0, if_true, if_false, of_nI, T_wI, L_wI, R_wI, N_wI, S_wI, T_wR, L_wR, I_wR, N_wR, S_wR, I_same, R_same, I_wIn, I_wIk, R_wRn, R_wRk, T_nwo, T_nwn, L_nwo, L_nwn, I_nwo, I_nwn, R_nwo, R_nwn, N_nw, S_nw, nar_1, nar_0, nar_01, b01_t0, b01_f0, b01_t1, b01_f1, ne_sn, eq_sn, sn_inj, k1, g1', p1, p2]
  rw [if_neg c5, if_neg c5]
theorem m_chunk {h : Hp} {y : Nat} {A pid pat : Nat → Nat} {i id : Nat} {s : Ab} {w : Int32} (Q : RM h y A pid pat s) (S : SW s.st s.fs s.np s.nxt) (hv : inV pid pat s.st s.np s.nxt s.vers) (hc : s.chs[i]? = some id) (h1 : 1 ≤ id) (h2 : id < s.nxt) : ∃ h', f_M_chunk y (nI i) w h = some (chA s id w, h') ∧ RM h' y A pid pat s ∧ hpN h' = hpN h ∧ hpS h' = hpS h := by
  have M := Q.1
  obtain ⟨c1, c2, c3⟩ := Q.2.2.2.1
  obtain ⟨e20, e21, e22, e23, e24⟩ := c3 i id hc
  have il : i < s.chs.length := (List.getElem?_eq_some_iff.mp hc).1
  unfold f_M_chunk chA
  rw [gd_t (isK_of M.1), c1, cl_s (in_ok il (by omega) h), if_neg (by decide)]
  by_cases c0 : w = 0
  · rw [if_pos c0, if_pos c0]
    exact ⟨h, by simp (disch := omega) only [gd_T, dr_S, nm_v, cl_S, cv_S, bd_S, lk_L, lk_R, zbw_b, isK_e, isPg_3, isPg_4, isPg_6, asV_n, beq_self_eq_true, inb_N, inb_0, le_T, le_F, lt_T, lt_F, eq_F, le_0T, lt_0F, le_0F, eq_0F, nI_1, nI_add, pk_mul, nI_clamp, cl_0, if_true, if_false, of_nI, T_wI, L_wI, R_wI, N_wI, S_wI, T_wR, L_wR, I_wR, N_wR, S_wR, I_same, R_same, I_wIn, I_wIk, R_wRn, R_wRk, T_nwo, T_nwn, L_nwo, L_nwn, I_nwo, I_nwn, R_nwo, R_nwn, N_nw, S_nw, nar_1, nar_0, nar_01, b01_t0, b01_f0, b01_t1, b01_f1, ne_sn, eq_sn, sn_inj, M.1, M.a20.1, M.a20.2.1, M.a20.2.2.1, e20], Q, rfl, rfl⟩
  rw [if_neg c0, if_neg c0]
  by_cases c1 : w = 1
  · rw [if_pos c1, if_pos c1]
    exact ⟨h, by simp (disch := omega) only [gd_T, dr_S, nm_v, cl_S, cv_S, bd_S, lk_L, lk_R, zbw_b, isK_e, isPg_3, isPg_4, isPg_6, asV_n, beq_self_eq_true, inb_N, inb_0, le_T, le_F, lt_T, lt_F, eq_F, le_0T, lt_0F, le_0F, eq_0F, nI_1, nI_add, pk_mul, nI_clamp, cl_0, if_true, if_false, of_nI, T_wI, L_wI, R_wI, N_wI, S_wI, T_wR, L_wR, I_wR, N_wR, S_wR, I_same, R_same, I_wIn, I_wIk, R_wRn, R_wRk, T_nwo, T_nwn, L_nwo, L_nwn, I_nwo, I_nwn, R_nwo, R_nwn, N_nw, S_nw, nar_1, nar_0, nar_01, b01_t0, b01_f0, b01_t1, b01_f1, ne_sn, eq_sn, sn_inj, M.1, M.a21.1, M.a21.2.1, M.a21.2.2.1, e21], Q, rfl, rfl⟩
  rw [if_neg c1, if_neg c1]
  by_cases c2 : w = nI 2
  · rw [if_pos c2, if_pos c2]
    exact ⟨h, by simp (disch := omega) only [gd_T, dr_S, nm_v, cl_S, cv_S, bd_S, lk_L, lk_R, zbw_b, isK_e, isPg_3, isPg_4, isPg_6, asV_n, beq_self_eq_true, inb_N, inb_0, le_T, le_F, lt_T, lt_F, eq_F, le_0T, lt_0F, le_0F, eq_0F, nI_1, nI_add, pk_mul, nI_clamp, cl_0, if_true, if_false, of_nI, T_wI, L_wI, R_wI, N_wI, S_wI, T_wR, L_wR, I_wR, N_wR, S_wR, I_same, R_same, I_wIn, I_wIk, R_wRn, R_wRk, T_nwo, T_nwn, L_nwo, L_nwn, I_nwo, I_nwn, R_nwo, R_nwn, N_nw, S_nw, nar_1, nar_0, nar_01, b01_t0, b01_f0, b01_t1, b01_f1, ne_sn, eq_sn, sn_inj, M.1, M.a22.1, M.a22.2.1, M.a22.2.2.1, e22], Q, rfl, rfl⟩
  rw [if_neg c2, if_neg c2]
  by_cases c3 : w = nI 3
  · rw [if_pos c3, if_pos c3]
    exact ⟨h, by simp (disch := omega) only [gd_T, dr_S, nm_v, cl_S, cv_S, bd_S, lk_L, lk_R, zbw_b, isK_e, isPg_3, isPg_4, isPg_6, asV_n, beq_self_eq_true, inb_N, inb_0, le_T, le_F, lt_T, lt_F, eq_F, le_0T, lt_0F, le_0F, eq_0F, nI_1, nI_add, pk_mul, nI_clamp, cl_0, if_true, if_false, of_nI, T_wI, L_wI, R_wI, N_wI, S_wI, T_wR, L_wR, I_wR, N_wR, S_wR, I_same, R_same, I_wIn, I_wIk, R_wRn, R_wRk, T_nwo, T_nwn, L_nwo, L_nwn, I_nwo, I_nwn, R_nwo, R_nwn, N_nw, S_nw, nar_1, nar_0, nar_01, b01_t0, b01_f0, b01_t1, b01_f1, ne_sn, eq_sn, sn_inj, M.1, M.a23.1, M.a23.2.1, M.a23.2.2.1, e23], Q, rfl, rfl⟩
  rw [if_neg c3, if_neg c3]
  by_cases c4 : w = nI 4
  · rw [if_pos c4, if_pos c4]
    obtain ⟨g, e, K, mm, n, sz⟩ := m_markKept M Q.2.2.2.2.2.1 S Q.2.2.2.2.1.1 hv
    have Qg := Q.mark K (by decide) (by decide)
    have e20g := (Qg.2.2.2.1.2.2 i id hc).1
    have lv := m_liveOf (vr := fun _ => 0) (chs := s.chs) Qg.1 Qg.2.2.2.2.2.1 S (LvP.of S hv) e20g (by omega) h1 h2 mm
    exact ⟨g, by simp (disch := omega) only [gd_T, dr_S, nm_v, cl_S, cv_S, bd_S, lk_L, lk_R, zbw_b, isK_e, isPg_3, isPg_4, isPg_6, asV_n, beq_self_eq_true, inb_N, inb_0, le_T, le_F, lt_T, lt_F, eq_F, le_0T, lt_0F, le_0F, eq_0F, nI_1, nI_add, pk_mul, nI_clamp, cl_0, if_true, if_false, of_nI, T_wI, L_wI, R_wI, N_wI, S_wI, T_wR, L_wR, I_wR, N_wR, S_wR, I_same, R_same, I_wIn, I_wIk, R_wRn, R_wRk, T_nwo, T_nwn, L_nwo, L_nwn, I_nwo, I_nwn, R_nwo, R_nwn, N_nw, S_nw, nar_1, nar_0, nar_01, b01_t0, b01_f0, b01_t1, b01_f1, ne_sn, eq_sn, sn_inj, M.1, e, Qg.1.1, lv], Qg, n, sz⟩
  rw [if_neg c4, if_neg c4]
  by_cases c5 : w = nI 5
  · rw [if_pos c5, if_pos c5]
    exact ⟨h, by simp (disch := omega) only [gd_T, dr_S, nm_v, cl_S, cv_S, bd_S, lk_L, lk_R, zbw_b, isK_e, isPg_3, isPg_4, isPg_6, asV_n, beq_self_eq_true, inb_N, inb_0, le_T, le_F, lt_T, lt_F, eq_F, le_0T, lt_0F, le_0F, eq_0F, nI_1, nI_add, pk_mul, nI_clamp, cl_0, if_true, if_false, of_nI, T_wI, L_wI, R_wI, N_wI, S_wI, T_wR, L_wR, I_wR, N_wR, S_wR, I_same, R_same, I_wIn, I_wIk, R_wRn, R_wRk, T_nwo, T_nwn, L_nwo, L_nwn, I_nwo, I_nwn, R_nwo, R_nwn, N_nw, S_nw, nar_1, nar_0, nar_01, b01_t0, b01_f0, b01_t1, b01_f1, ne_sn, eq_sn, sn_inj, M.1, M.a24.1, M.a24.2.1, M.a24.2.2.1, e24], Q, rfl, rfl⟩
  rw [if_neg c5, if_neg c5]
  exact ⟨h, rfl, Q, rfl, rfl⟩
theorem c_chunk {E : Nat × Nat} {h : Hp} {x y : Nat} {A : Nat → Nat} {j : Nat} (K : Ok E h x y A j) (k w : Int32) : ∃ r h2, f_X_chunk x k w h = some (r, h) ∧ f_M_chunk y k w h = some (r, h2) ∧ Ok E h2 x y A (j + 1) ∧ Rm h h2 := by
  have K0 := K
  obtain ⟨B, va, ca, ka, pa, rd, pid, pat, s, base, gen, R, Q, I, i1, i2, i3⟩ := K
  have c32 := Q.2.2.2.1.2.1
  have x0 := R.2.1
  have L := R.2.2.2.2.1
  have sz := al_size L
  have lm : (s.chs.map ca).length = s.chs.length := List.length_map _
  rw [lm] at sz
  rcases pk_ix k (n := s.chs.length) (by omega) with q | q | ⟨n, hn, rfl⟩
  · refine ⟨-1, h, ?_, ?_, K0.mono, Rm.refl h⟩
    · unfold f_X_chunk
      rw [if_pos q]
    · unfold f_M_chunk
      rw [gd_t (isK_of Q.1.1), Q.2.2.2.1.1, cl_s (in_out (Or.inl q) h), if_pos rfl]
  · refine ⟨-1, h, ?_, ?_, K0.mono, Rm.refl h⟩
    · unfold f_X_chunk
      have hn : ¬ k < 0 := fun z => absurd (Int32.lt_of_le_of_lt q z) (nI_pos (by omega))
      rw [if_neg hn, gd_t (isK_of x0.1), dr_s x0.2.2.2.2.1, gd_t (isK_of L.1), cl_s sz, if_neg (Int32.not_lt.mpr q)]
    · unfold f_M_chunk
      rw [gd_t (isK_of Q.1.1), Q.2.2.2.1.1, cl_s (in_out (Or.inr q) h), if_pos rfl]
  · obtain ⟨id, hid⟩ : ∃ id, s.chs[n]? = some id := ⟨_, List.getElem?_eq_getElem hn⟩
    obtain ⟨d1, d2⟩ := I.2.2.2.1.1 id (List.mem_of_getElem? hid)
    obtain ⟨h', e, Q', n1, s1⟩ := m_chunk (w := w) Q I.1 (I.inV Q) hid d1 d2
    have K2 := fr_M_chunk (C := cT) (mi := 0) e
    refine ⟨_, h', x_chunk R I.1 hid d1 d2, e, ⟨B, va, ca, ka, pa, rd, pid, pat, s, base, gen, R.k K2 (by decide), Q', I, by omega, by omega, i3.up⟩, ?_, ?_, ?_⟩ <;> omega
def cnA (s : Ab) (w : Int32) : Int32 := if w = (0 : Int32) then nI s.lat else if w = (1 : Int32) then nI s.vers.length else if w = nI 2 then nI s.nxt else if w = nI 3 then nI s.chs.length else if w = nI 4 then nI (cn s.free 32) else if w = nI 5 then nI s.pend.length else if w = nI 6 then nI (cn s.tl 16) else if w = nI 7 then nI (cn s.tm 4) else if w = nI 8 then nI (cn (lvb s.st s.vers) (32 * s.nxt)) else if w = nI 9 then nI (cn (fun i => (s.now i).isSome) 128) else -1
theorem m_count {h : Hp} {y : Nat} {A pid pat : Nat → Nat} {s : Ab} {base gen : Nat} {w : Int32} (Q : RM h y A pid pat s) (I : Ivt s base gen) : ∃ h', f_M_count y w h = some (cnA s w, h') ∧ RM h' y A pid pat s ∧ hpN h' = hpN h ∧ hpS h' = hpS h := by
  have hv := I.inV Q
  have M := Q.1
  obtain ⟨n1, n2, n3⟩ := Q.2.1
  have hf := Q.2.2.1.2.2.1
  obtain ⟨g, e, K, mm, n, sz⟩ := m_markKept M Q.2.2.2.2.2.1 I.1 Q.2.2.2.2.1.1 hv
  have Qg := Q.mark K (by decide) (by decide)
  have Mg := Qg.1
  have k1 : ∀ a1 a2 a3 a4 a5, l_M_count_16 y a1 a2 a3 a4 a5 (nI 0, (0 : Int32), h) = some (nI (0 + cn s.free 32), h) := fun a1 a2 a3 a4 a5 => by
    refine lp_cn (b := fun z => b_M_count_16 y a1 z.1 a2 a3 a4 a5 z.2.1 z.2.2) h s.free 0 32 (by decide) (fun n j hj hf' => ?_) (fun n j hj hf' => ?_) (fun n => ?_)
    · have q := hf j hj
      rw [hf'] at q
      show b_M_count_16 y a1 (nI n) a2 a3 a4 a5 (nI j) h = _
      unfold b_M_count_16
      simp (disch := omega) only [gd_T, dr_S, nm_v, cl_S, cv_S, bd_S, lk_L, lk_R, zbw_b, isK_e, isPg_3, isPg_4, isPg_6, asV_n, beq_self_eq_true, inb_N, inb_0, le_T, le_F, lt_T, lt_F, eq_F, le_0T, lt_0F, le_0F, eq_0F, nI_1, nI_add, pk_mul, nI_clamp, cl_0, if_true, if_false, of_nI, T_wI, L_wI, R_wI, N_wI, S_wI, T_wR, L_wR, I_wR, N_wR, S_wR, I_same, R_same, I_wIn, I_wIk, R_wRn, R_wRk, T_nwo, T_nwn, L_nwo, L_nwn, I_nwo, I_nwn, R_nwo, R_nwn, N_nw, S_nw, nar_1, nar_0, nar_01, b01_t0, b01_f0, b01_t1, b01_f1, ne_sn, eq_sn, sn_inj, M.1, M.a18.1, M.a18.2.1, M.a18.2.2.1, q]
    · have q := hf j hj
      rw [hf'] at q
      show b_M_count_16 y a1 (nI n) a2 a3 a4 a5 (nI j) h = _
      unfold b_M_count_16
      simp (disch := omega) only [gd_T, dr_S, nm_v, cl_S, cv_S, bd_S, lk_L, lk_R, zbw_b, isK_e, isPg_3, isPg_4, isPg_6, asV_n, beq_self_eq_true, inb_N, inb_0, le_T, le_F, lt_T, lt_F, eq_F, le_0T, lt_0F, le_0F, eq_0F, nI_1, nI_add, pk_mul, nI_clamp, cl_0, if_true, if_false, of_nI, T_wI, L_wI, R_wI, N_wI, S_wI, T_wR, L_wR, I_wR, N_wR, S_wR, I_same, R_same, I_wIn, I_wIk, R_wRn, R_wRk, T_nwo, T_nwn, L_nwo, L_nwn, I_nwo, I_nwn, R_nwo, R_nwn, N_nw, S_nw, nar_1, nar_0, nar_01, b01_t0, b01_f0, b01_t1, b01_f1, ne_sn, eq_sn, sn_inj, M.1, M.a18.1, M.a18.2.1, M.a18.2.2.1, q]
    · show b_M_count_16 y a1 (nI n) a2 a3 a4 a5 (nI 32) h = _
      unfold b_M_count_16
      simp (disch := omega) only [gd_T, dr_S, nm_v, cl_S, cv_S, bd_S, lk_L, lk_R, zbw_b, isK_e, isPg_3, isPg_4, isPg_6, asV_n, beq_self_eq_true, inb_N, inb_0, le_T, le_F, lt_T, lt_F, eq_F, le_0T, lt_0F, le_0F, eq_0F, nI_1, nI_add, pk_mul, nI_clamp, cl_0, if_true, if_false, of_nI, T_wI, L_wI, R_wI, N_wI, S_wI, T_wR, L_wR, I_wR, N_wR, S_wR, I_same, R_same, I_wIn, I_wIk, R_wRn, R_wRk, T_nwo, T_nwn, L_nwo, L_nwn, I_nwo, I_nwn, R_nwo, R_nwn, N_nw, S_nw, nar_1, nar_0, nar_01, b01_t0, b01_f0, b01_t1, b01_f1, ne_sn, eq_sn, sn_inj]
  have k2 : ∀ a1 a2 a3 a4 a5, l_M_count_45 y a1 a2 a3 a4 a5 (nI 0, (0 : Int32), h) = some (nI (0 + cn s.tl 16), h) := fun a1 a2 a3 a4 a5 => by
    refine lp_cn (b := fun z => b_M_count_45 y a1 a2 z.1 a3 a4 a5 z.2.1 z.2.2) h s.tl 0 16 (by decide) (fun n j hj hf' => ?_) (fun n j hj hf' => ?_) (fun n => ?_)
    · have q := n2 j hj
      rw [hf'] at q
      show b_M_count_45 y a1 a2 (nI n) a3 a4 a5 (nI j) h = _
      unfold b_M_count_45
      simp (disch := omega) only [gd_T, dr_S, nm_v, cl_S, cv_S, bd_S, lk_L, lk_R, zbw_b, isK_e, isPg_3, isPg_4, isPg_6, asV_n, beq_self_eq_true, inb_N, inb_0, le_T, le_F, lt_T, lt_F, eq_F, le_0T, lt_0F, le_0F, eq_0F, nI_1, nI_add, pk_mul, nI_clamp, cl_0, if_true, if_false, of_nI, T_wI, L_wI, R_wI, N_wI, S_wI, T_wR, L_wR, I_wR, N_wR, S_wR, I_same, R_same, I_wIn, I_wIk, R_wRn, R_wRk, T_nwo, T_nwn, L_nwo, L_nwn, I_nwo, I_nwn, R_nwo, R_nwn, N_nw, S_nw, nar_1, nar_0, nar_01, b01_t0, b01_f0, b01_t1, b01_f1, ne_sn, eq_sn, sn_inj, M.1, M.a1.1, M.a1.2.1, M.a1.2.2.1, q]
    · have q := n2 j hj
      rw [hf'] at q
      show b_M_count_45 y a1 a2 (nI n) a3 a4 a5 (nI j) h = _
      unfold b_M_count_45
      simp (disch := omega) only [gd_T, dr_S, nm_v, cl_S, cv_S, bd_S, lk_L, lk_R, zbw_b, isK_e, isPg_3, isPg_4, isPg_6, asV_n, beq_self_eq_true, inb_N, inb_0, le_T, le_F, lt_T, lt_F, eq_F, le_0T, lt_0F, le_0F, eq_0F, nI_1, nI_add, pk_mul, nI_clamp, cl_0, if_true, if_false, of_nI, T_wI, L_wI, R_wI, N_wI, S_wI, T_wR, L_wR, I_wR, N_wR, S_wR, I_same, R_same, I_wIn, I_wIk, R_wRn, R_wRk, T_nwo, T_nwn, L_nwo, L_nwn, I_nwo, I_nwn, R_nwo, R_nwn, N_nw, S_nw, nar_1, nar_0, nar_01, b01_t0, b01_f0, b01_t1, b01_f1, ne_sn, eq_sn, sn_inj, M.1, M.a1.1, M.a1.2.1, M.a1.2.2.1, q]
    · show b_M_count_45 y a1 a2 (nI n) a3 a4 a5 (nI 16) h = _
      unfold b_M_count_45
      simp (disch := omega) only [gd_T, dr_S, nm_v, cl_S, cv_S, bd_S, lk_L, lk_R, zbw_b, isK_e, isPg_3, isPg_4, isPg_6, asV_n, beq_self_eq_true, inb_N, inb_0, le_T, le_F, lt_T, lt_F, eq_F, le_0T, lt_0F, le_0F, eq_0F, nI_1, nI_add, pk_mul, nI_clamp, cl_0, if_true, if_false, of_nI, T_wI, L_wI, R_wI, N_wI, S_wI, T_wR, L_wR, I_wR, N_wR, S_wR, I_same, R_same, I_wIn, I_wIk, R_wRn, R_wRk, T_nwo, T_nwn, L_nwo, L_nwn, I_nwo, I_nwn, R_nwo, R_nwn, N_nw, S_nw, nar_1, nar_0, nar_01, b01_t0, b01_f0, b01_t1, b01_f1, ne_sn, eq_sn, sn_inj]
  have k3 : ∀ a1 a2 a3 a4 a5, l_M_count_74 y a1 a2 a3 a4 a5 (nI 0, (0 : Int32), h) = some (nI (0 + cn s.tm 4), h) := fun a1 a2 a3 a4 a5 => by
    refine lp_cn (b := fun z => b_M_count_74 y a1 a2 a3 z.1 a4 a5 z.2.1 z.2.2) h s.tm 0 4 (by decide) (fun n j hj hf' => ?_) (fun n j hj hf' => ?_) (fun n => ?_)
    · have q := n3 j hj
      rw [hf'] at q
      show b_M_count_74 y a1 a2 a3 (nI n) a4 a5 (nI j) h = _
      unfold b_M_count_74
      simp (disch := omega) only [gd_T, dr_S, nm_v, cl_S, cv_S, bd_S, lk_L, lk_R, zbw_b, isK_e, isPg_3, isPg_4, isPg_6, asV_n, beq_self_eq_true, inb_N, inb_0, le_T, le_F, lt_T, lt_F, eq_F, le_0T, lt_0F, le_0F, eq_0F, nI_1, nI_add, pk_mul, nI_clamp, cl_0, if_true, if_false, of_nI, T_wI, L_wI, R_wI, N_wI, S_wI, T_wR, L_wR, I_wR, N_wR, S_wR, I_same, R_same, I_wIn, I_wIk, R_wRn, R_wRk, T_nwo, T_nwn, L_nwo, L_nwn, I_nwo, I_nwn, R_nwo, R_nwn, N_nw, S_nw, nar_1, nar_0, nar_01, b01_t0, b01_f0, b01_t1, b01_f1, ne_sn, eq_sn, sn_inj, M.1, M.a2.1, M.a2.2.1, M.a2.2.2.1, q]
    · have q := n3 j hj
      rw [hf'] at q
      show b_M_count_74 y a1 a2 a3 (nI n) a4 a5 (nI j) h = _
      unfold b_M_count_74
      simp (disch := omega) only [gd_T, dr_S, nm_v, cl_S, cv_S, bd_S, lk_L, lk_R, zbw_b, isK_e, isPg_3, isPg_4, isPg_6, asV_n, beq_self_eq_true, inb_N, inb_0, le_T, le_F, lt_T, lt_F, eq_F, le_0T, lt_0F, le_0F, eq_0F, nI_1, nI_add, pk_mul, nI_clamp, cl_0, if_true, if_false, of_nI, T_wI, L_wI, R_wI, N_wI, S_wI, T_wR, L_wR, I_wR, N_wR, S_wR, I_same, R_same, I_wIn, I_wIk, R_wRn, R_wRk, T_nwo, T_nwn, L_nwo, L_nwn, I_nwo, I_nwn, R_nwo, R_nwn, N_nw, S_nw, nar_1, nar_0, nar_01, b01_t0, b01_f0, b01_t1, b01_f1, ne_sn, eq_sn, sn_inj, M.1, M.a2.1, M.a2.2.1, M.a2.2.2.1, q]
    · show b_M_count_74 y a1 a2 a3 (nI n) a4 a5 (nI 4) h = _
      unfold b_M_count_74
      simp (disch := omega) only [gd_T, dr_S, nm_v, cl_S, cv_S, bd_S, lk_L, lk_R, zbw_b, isK_e, isPg_3, isPg_4, isPg_6, asV_n, beq_self_eq_true, inb_N, inb_0, le_T, le_F, lt_T, lt_F, eq_F, le_0T, lt_0F, le_0F, eq_0F, nI_1, nI_add, pk_mul, nI_clamp, cl_0, if_true, if_false, of_nI, T_wI, L_wI, R_wI, N_wI, S_wI, T_wR, L_wR, I_wR, N_wR, S_wR, I_same, R_same, I_wIn, I_wIk, R_wRn, R_wRk, T_nwo, T_nwn, L_nwo, L_nwn, I_nwo, I_nwn, R_nwo, R_nwn, N_nw, S_nw, nar_1, nar_0, nar_01, b01_t0, b01_f0, b01_t1, b01_f1, ne_sn, eq_sn, sn_inj]
  have k4 : ∀ a1 a2 a3 a4 a5, l_M_count_102 y a1 a2 a3 a4 a5 (nI 0, (0 : Int32), h) = some (nI (0 + cn (fun i => (s.now i).isSome) 128), h) := fun a1 a2 a3 a4 a5 => by
    refine lp_cn (b := fun z => b_M_count_102 y a1 a2 a3 a4 a5 z.1 z.2.1 z.2.2) h (fun i => (s.now i).isSome) 0 128 (by decide) (fun n j hj hf' => ?_) (fun n j hj hf' => ?_) (fun n => ?_)
    · have q := (n1 j hj).1
      rw [hf'] at q
      show b_M_count_102 y a1 a2 a3 a4 a5 (nI n) (nI j) h = _
      unfold b_M_count_102
      simp (disch := omega) only [gd_T, dr_S, nm_v, cl_S, cv_S, bd_S, lk_L, lk_R, zbw_b, isK_e, isPg_3, isPg_4, isPg_6, asV_n, beq_self_eq_true, inb_N, inb_0, le_T, le_F, lt_T, lt_F, eq_F, le_0T, lt_0F, le_0F, eq_0F, nI_1, nI_add, pk_mul, nI_clamp, cl_0, if_true, if_false, of_nI, T_wI, L_wI, R_wI, N_wI, S_wI, T_wR, L_wR, I_wR, N_wR, S_wR, I_same, R_same, I_wIn, I_wIk, R_wRn, R_wRk, T_nwo, T_nwn, L_nwo, L_nwn, I_nwo, I_nwn, R_nwo, R_nwn, N_nw, S_nw, nar_1, nar_0, nar_01, b01_t0, b01_f0, b01_t1, b01_f1, ne_sn, eq_sn, sn_inj, M.1, M.a0.1, M.a0.2.1, M.a0.2.2.1, q]
    · have q := (n1 j hj).1
      rw [hf'] at q
      show b_M_count_102 y a1 a2 a3 a4 a5 (nI n) (nI j) h = _
      unfold b_M_count_102
      simp (disch := omega) only [gd_T, dr_S, nm_v, cl_S, cv_S, bd_S, lk_L, lk_R, zbw_b, isK_e, isPg_3, isPg_4, isPg_6, asV_n, beq_self_eq_true, inb_N, inb_0, le_T, le_F, lt_T, lt_F, eq_F, le_0T, lt_0F, le_0F, eq_0F, nI_1, nI_add, pk_mul, nI_clamp, cl_0, if_true, if_false, of_nI, T_wI, L_wI, R_wI, N_wI, S_wI, T_wR, L_wR, I_wR, N_wR, S_wR, I_same, R_same, I_wIn, I_wIk, R_wRn, R_wRk, T_nwo, T_nwn, L_nwo, L_nwn, I_nwo, I_nwn, R_nwo, R_nwn, N_nw, S_nw, nar_1, nar_0, nar_01, b01_t0, b01_f0, b01_t1, b01_f1, ne_sn, eq_sn, sn_inj, M.1, M.a0.1, M.a0.2.1, M.a0.2.2.1, q]
    · show b_M_count_102 y a1 a2 a3 a4 a5 (nI n) (nI 128) h = _
      unfold b_M_count_102
      simp (disch := omega) only [gd_T, dr_S, nm_v, cl_S, cv_S, bd_S, lk_L, lk_R, zbw_b, isK_e, isPg_3, isPg_4, isPg_6, asV_n, beq_self_eq_true, inb_N, inb_0, le_T, le_F, lt_T, lt_F, eq_F, le_0T, lt_0F, le_0F, eq_0F, nI_1, nI_add, pk_mul, nI_clamp, cl_0, if_true, if_false, of_nI, T_wI, L_wI, R_wI, N_wI, S_wI, T_wR, L_wR, I_wR, N_wR, S_wR, I_same, R_same, I_wIn, I_wIk, R_wRn, R_wRk, T_nwo, T_nwn, L_nwo, L_nwn, I_nwo, I_nwn, R_nwo, R_nwn, N_nw, S_nw, nar_1, nar_0, nar_01, b01_t0, b01_f0, b01_t1, b01_f1, ne_sn, eq_sn, sn_inj]
  have k5 : ∀ a1 a2 a3 a4 a5, l_M_count_136 y a1 a2 a3 a4 a5 (nI 0, (0 : Int32), g) = some (nI (0 + cn (fun i => lvb s.st s.vers (ky pid pat i)) 160), g) := fun a1 a2 a3 a4 a5 => by
    refine lp_cn (b := fun z => b_M_count_136 y a1 a2 a3 a4 z.1 a5 z.2.1 z.2.2) g _ 0 160 (by decide) (fun n j hj hf' => ?_) (fun n j hj hf' => ?_) (fun n => ?_)
    · have q := mm j hj
      dsimp only at q hf'
      rw [hf'] at q
      show b_M_count_136 y a1 a2 a3 a4 (nI n) a5 (nI j) g = _
      unfold b_M_count_136
      simp (disch := omega) only [gd_T, dr_S, nm_v, cl_S, cv_S, bd_S, lk_L, lk_R, zbw_b, isK_e, isPg_3, isPg_4, isPg_6, asV_n, beq_self_eq_true, inb_N, inb_0, le_T, le_F, lt_T, lt_F, eq_F, le_0T, lt_0F, le_0F, eq_0F, nI_1, nI_add, pk_mul, nI_clamp, cl_0, if_true, if_false, of_nI, T_wI, L_wI, R_wI, N_wI, S_wI, T_wR, L_wR, I_wR, N_wR, S_wR, I_same, R_same, I_wIn, I_wIk, R_wRn, R_wRk, T_nwo, T_nwn, L_nwo, L_nwn, I_nwo, I_nwn, R_nwo, R_nwn, N_nw, S_nw, nar_1, nar_0, nar_01, b01_t0, b01_f0, b01_t1, b01_f1, ne_sn, eq_sn, sn_inj, Mg.1, Mg.a12.1, Mg.a12.2.1, Mg.a12.2.2.1, q]
    · have q := mm j hj
      dsimp only at q hf'
      rw [hf'] at q
      show b_M_count_136 y a1 a2 a3 a4 (nI n) a5 (nI j) g = _
      unfold b_M_count_136
      simp (disch := omega) only [gd_T, dr_S, nm_v, cl_S, cv_S, bd_S, lk_L, lk_R, zbw_b, isK_e, isPg_3, isPg_4, isPg_6, asV_n, beq_self_eq_true, inb_N, inb_0, le_T, le_F, lt_T, lt_F, eq_F, le_0T, lt_0F, le_0F, eq_0F, nI_1, nI_add, pk_mul, nI_clamp, cl_0, if_true, if_false, of_nI, T_wI, L_wI, R_wI, N_wI, S_wI, T_wR, L_wR, I_wR, N_wR, S_wR, I_same, R_same, I_wIn, I_wIk, R_wRn, R_wRk, T_nwo, T_nwn, L_nwo, L_nwn, I_nwo, I_nwn, R_nwo, R_nwn, N_nw, S_nw, nar_1, nar_0, nar_01, b01_t0, b01_f0, b01_t1, b01_f1, ne_sn, eq_sn, sn_inj, Mg.1, Mg.a12.1, Mg.a12.2.1, Mg.a12.2.2.1, q]
    · show b_M_count_136 y a1 a2 a3 a4 (nI n) a5 (nI 160) g = _
      unfold b_M_count_136
      simp (disch := omega) only [gd_T, dr_S, nm_v, cl_S, cv_S, bd_S, lk_L, lk_R, zbw_b, isK_e, isPg_3, isPg_4, isPg_6, asV_n, beq_self_eq_true, inb_N, inb_0, le_T, le_F, lt_T, lt_F, eq_F, le_0T, lt_0F, le_0F, eq_0F, nI_1, nI_add, pk_mul, nI_clamp, cl_0, if_true, if_false, of_nI, T_wI, L_wI, R_wI, N_wI, S_wI, T_wR, L_wR, I_wR, N_wR, S_wR, I_same, R_same, I_wIn, I_wIk, R_wRn, R_wRk, T_nwo, T_nwn, L_nwo, L_nwn, I_nwo, I_nwn, R_nwo, R_nwn, N_nw, S_nw, nar_1, nar_0, nar_01, b01_t0, b01_f0, b01_t1, b01_f1, ne_sn, eq_sn, sn_inj]
  have P := Q.2.2.2.2.2.1
  have lp8 : cn (fun i => lvb s.st s.vers (ky pid pat i)) 160 = cn (lvb s.st s.vers) (32 * s.nxt) := I.pool P.2.1 P.2.2.1 (fun k hk => (LvP.of I.1 hv k hk).2)
  refine ⟨g, ?_, Qg, n, sz⟩
  unfold f_M_count
  rw [bd_s (show l_M_count_16 y w _ _ _ _ ((0 : Int32), (0 : Int32), h) = _ from k1 _ _ _ _ _)]
  dsimp only
  rw [bd_s (show l_M_count_45 y w _ _ _ _ ((0 : Int32), (0 : Int32), h) = _ from k2 _ _ _ _ _)]
  dsimp only
  rw [bd_s (show l_M_count_74 y w _ _ _ _ ((0 : Int32), (0 : Int32), h) = _ from k3 _ _ _ _ _)]
  dsimp only
  rw [bd_s (show l_M_count_102 y w _ _ _ _ ((0 : Int32), (0 : Int32), h) = _ from k4 _ _ _ _ _)]
  dsimp only
  rw [gd_t (isK_of M.1), cv_s e]
  rw [bd_s (show l_M_count_136 y w _ _ _ _ ((0 : Int32), (0 : Int32), g) = _ from k5 _ _ _ _ _)]
  dsimp only
  rw [lp8]
  simp only [Nat.zero_add, gd_t (isK_of Mg.1), Qg.2.2.2.2.1.2.1, Qg.2.2.2.2.1.1.1, Qg.2.2.2.2.1.2.2.2, Qg.2.2.2.1.1, Qg.2.2.1.2.2.2.1]
  unfold cnA
  by_cases c0 : w = 0
  · rw [if_pos c0, if_pos c0]
  rw [if_neg c0, if_neg c0]
  by_cases c1 : w = 1
  · rw [if_pos c1, if_pos c1]
  rw [if_neg c1, if_neg c1]
  by_cases c2 : w = nI 2
  · rw [if_pos c2, if_pos c2]
  rw [if_neg c2, if_neg c2]
  by_cases c3 : w = nI 3
  · rw [if_pos c3, if_pos c3]
  rw [if_neg c3, if_neg c3]
  by_cases c4 : w = nI 4
  · rw [if_pos c4, if_pos c4]
  rw [if_neg c4, if_neg c4]
  by_cases c5 : w = nI 5
  · rw [if_pos c5, if_pos c5]
  rw [if_neg c5, if_neg c5]
  by_cases c6 : w = nI 6
  · rw [if_pos c6, if_pos c6]
  rw [if_neg c6, if_neg c6]
  by_cases c7 : w = nI 7
  · rw [if_pos c7, if_pos c7]
  rw [if_neg c7, if_neg c7]
  by_cases c8 : w = nI 8
  · rw [if_pos c8, if_pos c8]
  rw [if_neg c8, if_neg c8]
  by_cases c9 : w = nI 9
  · rw [if_pos c9, if_pos c9]
  rw [if_neg c9, if_neg c9]
theorem RX.lat {e0 : Nat} {h : Hp} {x : Nat} {B : Nat → Nat} {va : List Nat} {ca ka pa : Nat → Nat} {rd : Nat} {s : Ab} (R : RX e0 h x B va ca ka pa rd s) (i5 : I5 s) : ∃ (i a : Nat) (t : Vt), va[i]? = some a ∧ s.vers[i]? = some t ∧ t.1 = s.lat ∧ hpR h x 4 = some a ∧ i + 1 = s.vers.length ∧ s.vers.getLast? = some t := by
  obtain ⟨t, ht, te⟩ := i5.2.2.1
  obtain ⟨V, la⟩ := R.2.2.2.2.2.1
  rw [List.getLast?_eq_getElem?] at ht
  have il : s.vers.length - 1 < s.vers.length := (List.getElem?_eq_some_iff.mp ht).1
  obtain ⟨a, ha⟩ : ∃ a, va[s.vers.length - 1]? = some a := ⟨_, List.getElem?_eq_getElem (by rw [V.2.1]; exact il)⟩
  exact ⟨s.vers.length - 1, a, t, ha, ht, te, ((la _ a t ha ht).mpr te).symm, by omega, by rw [List.getLast?_eq_getElem?]; exact ht⟩
theorem p_size {h : Hp} {p a0 a1 : Nat} {now : Nat → Option Int32} (N : PN h p a0 a1 now) : f_P_size p h = some (nI (cn (fun i => (now i).isSome) 128), h) := by
  obtain ⟨⟨n1, n2, n3, n4, n5, n6, n7, n8, n9, n10⟩, n11⟩ := N
  have key : l_P_size_4 p ((0 : Int32), (0 : Int32), h) = some (nI (sm (fun m => cn (fun i => (now (32 * m + i)).isSome) 32) 4), h) := by
    refine lp_tr (b := fun s => b_P_size_4 p s.1 s.2.1 s.2.2) (fun j => (nI (sm (fun m => cn (fun i => (now (32 * m + i)).isSome) 32) j), nI j, h)) 4 _ (by decide) (fun j hj => ?_) ?_
    · have bc := bitCount_eq (hpI h a1 j) h
      rw [cn_ext (g := fun i => (now (32 * j + i)).isSome) (fun i hi => (n11 j i hj hi).1)] at bc
      show b_P_size_4 p (nI (sm (fun m => cn (fun i => (now (32 * m + i)).isSome) 32) j)) (nI j) h = some (.inl (nI (sm (fun m => cn (fun i => (now (32 * m + i)).isSome) 32) (j + 1)), nI (j + 1), h))
      unfold b_P_size_4
      simp (disch := omega) only [gd_T, dr_S, nm_v, cl_S, cv_S, bd_S, lk_L, lk_R, zbw_b, isK_e, isPg_3, isPg_4, isPg_6, asV_n, beq_self_eq_true, inb_N, inb_0, le_T, le_F, lt_T, lt_F, eq_F, le_0T, lt_0F, le_0F, eq_0F, nI_1, nI_add, pk_mul, nI_clamp, cl_0, if_true, if_false, of_nI, T_wI, L_wI, R_wI, N_wI, S_wI, T_wR, L_wR, I_wR, N_wR, S_wR, I_same, R_same, I_wIn, I_wIk, R_wRn, R_wRk, T_nwo, T_nwn, L_nwo, L_nwn, I_nwo, I_nwn, R_nwo, R_nwn, N_nw, S_nw, nar_1, nar_0, nar_01, b01_t0, b01_f0, b01_t1, b01_f1, ne_sn, eq_sn, sn_inj, n1, n7, n8, n9, bc]
      rfl
    · show b_P_size_4 p _ (nI 4) h = _
      unfold b_P_size_4
      simp (disch := omega) only [gd_T, dr_S, nm_v, cl_S, cv_S, bd_S, lk_L, lk_R, zbw_b, isK_e, isPg_3, isPg_4, isPg_6, asV_n, beq_self_eq_true, inb_N, inb_0, le_T, le_F, lt_T, lt_F, eq_F, le_0T, lt_0F, le_0F, eq_0F, nI_1, nI_add, pk_mul, nI_clamp, cl_0, if_true, if_false, of_nI, T_wI, L_wI, R_wI, N_wI, S_wI, T_wR, L_wR, I_wR, N_wR, S_wR, I_same, R_same, I_wIn, I_wIk, R_wRn, R_wRk, T_nwo, T_nwn, L_nwo, L_nwn, I_nwo, I_nwn, R_nwo, R_nwn, N_nw, S_nw, nar_1, nar_0, nar_01, b01_t0, b01_f0, b01_t1, b01_f1, ne_sn, eq_sn, sn_inj]
  unfold f_P_size
  rw [bd_s key, show (128 : Nat) = 32 * 4 from rfl, cn_blk]
theorem x_count {e0 : Nat} {h : Hp} {x : Nat} {B : Nat → Nat} {va : List Nat} {ca ka pa : Nat → Nat} {rd base gen : Nat} {s : Ab} {w : Int32} (R : RX e0 h x B va ca ka pa rd s) (I : Ivt s base gen) : f_X_count x w h = some (cnA s w, h) := by
  obtain ⟨i, a, t, ha, ht, te, x4', il, -⟩ := R.lat I.2.2.2.2.2.1
  have V := R.2.2.2.2.2.1.1
  obtain ⟨o1, o2, o3, o4, o5⟩ := V.2.2 i a t ha ht
  have szv := al_size V.1
  rw [V.2.1] at szv
  have L := R.2.2.2.2.1
  have szc := al_size L
  rw [show (s.chs.map ca).length = s.chs.length from List.length_map _] at szc
  have F := R.2.2.2.1
  have fc := x_freeCount F.1 F.2.2.2.1
  have NT := R.2.2.1
  have h56 := R.2.2.2.2.2.2.1
  have al := x_allLive R.2.1 L R.2.2.2.2.2.2.2.1 I.1 R.2.2.2.2.2.2.2.2.1 I.2.2.2.1.1
  rw [I.tot] at al
  have ps := p_size NT.1
  obtain ⟨x1, x2, x3, x4, x5, x6⟩ := R.2.1
  have b6 := bitCount_eq (hpI h (B 0) 2) h
  rw [cn_cut (n := 16) (K := 32) (by omega) (fun i h1 h2 => by rw [(NT.2 i h2).1, decide_eq_false (by omega), Bool.false_and]), cn_ext (g := s.tl) (fun i hi => by rw [(NT.2 i (by omega)).1, decide_eq_true hi, Bool.true_and])] at b6
  have b7 := bitCount_eq (hpI h (B 0) 3) h
  rw [cn_cut (n := 4) (K := 32) (by omega) (fun i h1 h2 => by rw [(NT.2 i h2).2, decide_eq_false (by omega), Bool.false_and]), cn_ext (g := s.tm) (fun i hi => by rw [(NT.2 i (by omega)).2, decide_eq_true hi, Bool.true_and])] at b7
  have p5 := NT.1.1.1
  unfold f_X_count cnA
  by_cases c0 : w = 0
  · rw [if_pos c0, if_pos c0]
    simp (disch := omega) only [gd_T, dr_S, nm_v, cl_S, cv_S, bd_S, lk_L, lk_R, zbw_b, isK_e, isPg_3, isPg_4, isPg_6, asV_n, beq_self_eq_true, inb_N, inb_0, le_T, le_F, lt_T, lt_F, eq_F, le_0T, lt_0F, le_0F, eq_0F, nI_1, nI_add, pk_mul, nI_clamp, cl_0, if_true, if_false, of_nI, T_wI, L_wI, R_wI, N_wI, S_wI, T_wR, L_wR, I_wR, N_wR, S_wR, I_same, R_same, I_wIn, I_wIk, R_wRn, R_wRk, T_nwo, T_nwn, L_nwo, L_nwn, I_nwo, I_nwn, R_nwo, R_nwn, N_nw, S_nw, nar_1, nar_0, nar_01, b01_t0, b01_f0, b01_t1, b01_f1, ne_sn, eq_sn, sn_inj, x1, x4', o1, o3, te]
  rw [if_neg c0, if_neg c0]
  by_cases c1 : w = 1
  · rw [if_pos c1, if_pos c1]
    simp (disch := omega) only [gd_T, dr_S, nm_v, cl_S, cv_S, bd_S, lk_L, lk_R, zbw_b, isK_e, isPg_3, isPg_4, isPg_6, asV_n, beq_self_eq_true, inb_N, inb_0, le_T, le_F, lt_T, lt_F, eq_F, le_0T, lt_0F, le_0F, eq_0F, nI_1, nI_add, pk_mul, nI_clamp, cl_0, if_true, if_false, of_nI, T_wI, L_wI, R_wI, N_wI, S_wI, T_wR, L_wR, I_wR, N_wR, S_wR, I_same, R_same, I_wIn, I_wIk, R_wRn, R_wRk, T_nwo, T_nwn, L_nwo, L_nwn, I_nwo, I_nwn, R_nwo, R_nwn, N_nw, S_nw, nar_1, nar_0, nar_01, b01_t0, b01_f0, b01_t1, b01_f1, ne_sn, eq_sn, sn_inj, x1, x6, V.1.1, szv]
  rw [if_neg c1, if_neg c1]
  by_cases c2 : w = nI 2
  · rw [if_pos c2, if_pos c2]
    simp (disch := omega) only [gd_T, dr_S, nm_v, cl_S, cv_S, bd_S, lk_L, lk_R, zbw_b, isK_e, isPg_3, isPg_4, isPg_6, asV_n, beq_self_eq_true, inb_N, inb_0, le_T, le_F, lt_T, lt_F, eq_F, le_0T, lt_0F, le_0F, eq_0F, nI_1, nI_add, pk_mul, nI_clamp, cl_0, if_true, if_false, of_nI, T_wI, L_wI, R_wI, N_wI, S_wI, T_wR, L_wR, I_wR, N_wR, S_wR, I_same, R_same, I_wIn, I_wIk, R_wRn, R_wRk, T_nwo, T_nwn, L_nwo, L_nwn, I_nwo, I_nwn, R_nwo, R_nwn, N_nw, S_nw, nar_1, nar_0, nar_01, b01_t0, b01_f0, b01_t1, b01_f1, ne_sn, eq_sn, sn_inj, x1, h56.2]
  rw [if_neg c2, if_neg c2]
  by_cases c3 : w = nI 3
  · rw [if_pos c3, if_pos c3]
    simp (disch := omega) only [gd_T, dr_S, nm_v, cl_S, cv_S, bd_S, lk_L, lk_R, zbw_b, isK_e, isPg_3, isPg_4, isPg_6, asV_n, beq_self_eq_true, inb_N, inb_0, le_T, le_F, lt_T, lt_F, eq_F, le_0T, lt_0F, le_0F, eq_0F, nI_1, nI_add, pk_mul, nI_clamp, cl_0, if_true, if_false, of_nI, T_wI, L_wI, R_wI, N_wI, S_wI, T_wR, L_wR, I_wR, N_wR, S_wR, I_same, R_same, I_wIn, I_wIk, R_wRn, R_wRk, T_nwo, T_nwn, L_nwo, L_nwn, I_nwo, I_nwn, R_nwo, R_nwn, N_nw, S_nw, nar_1, nar_0, nar_01, b01_t0, b01_f0, b01_t1, b01_f1, ne_sn, eq_sn, sn_inj, x1, x5, L.1, szc]
  rw [if_neg c3, if_neg c3]
  by_cases c4 : w = nI 4
  · rw [if_pos c4, if_pos c4]
    simp (disch := omega) only [gd_T, dr_S, nm_v, cl_S, cv_S, bd_S, lk_L, lk_R, zbw_b, isK_e, isPg_3, isPg_4, isPg_6, asV_n, beq_self_eq_true, inb_N, inb_0, le_T, le_F, lt_T, lt_F, eq_F, le_0T, lt_0F, le_0F, eq_0F, nI_1, nI_add, pk_mul, nI_clamp, cl_0, if_true, if_false, of_nI, T_wI, L_wI, R_wI, N_wI, S_wI, T_wR, L_wR, I_wR, N_wR, S_wR, I_same, R_same, I_wIn, I_wIk, R_wRn, R_wRk, T_nwo, T_nwn, L_nwo, L_nwn, I_nwo, I_nwn, R_nwo, R_nwn, N_nw, S_nw, nar_1, nar_0, nar_01, b01_t0, b01_f0, b01_t1, b01_f1, ne_sn, eq_sn, sn_inj, x1, x4, F.1.1, fc]
  rw [if_neg c4, if_neg c4]
  by_cases c5 : w = nI 5
  · rw [if_pos c5, if_pos c5]
    simp (disch := omega) only [gd_T, dr_S, nm_v, cl_S, cv_S, bd_S, lk_L, lk_R, zbw_b, isK_e, isPg_3, isPg_4, isPg_6, asV_n, beq_self_eq_true, inb_N, inb_0, le_T, le_F, lt_T, lt_F, eq_F, le_0T, lt_0F, le_0F, eq_0F, nI_1, nI_add, pk_mul, nI_clamp, cl_0, if_true, if_false, of_nI, T_wI, L_wI, R_wI, N_wI, S_wI, T_wR, L_wR, I_wR, N_wR, S_wR, I_same, R_same, I_wIn, I_wIk, R_wRn, R_wRk, T_nwo, T_nwn, L_nwo, L_nwn, I_nwo, I_nwn, R_nwo, R_nwn, N_nw, S_nw, nar_1, nar_0, nar_01, b01_t0, b01_f0, b01_t1, b01_f1, ne_sn, eq_sn, sn_inj, x1, x4, F.1.1, F.2.2.2.2.2.1]
  rw [if_neg c5, if_neg c5]
  by_cases c6 : w = nI 6
  · rw [if_pos c6, if_pos c6]
    simp (disch := omega) only [gd_T, dr_S, nm_v, cl_S, cv_S, bd_S, lk_L, lk_R, zbw_b, isK_e, isPg_3, isPg_4, isPg_6, asV_n, beq_self_eq_true, inb_N, inb_0, le_T, le_F, lt_T, lt_F, eq_F, le_0T, lt_0F, le_0F, eq_0F, nI_1, nI_add, pk_mul, nI_clamp, cl_0, if_true, if_false, of_nI, T_wI, L_wI, R_wI, N_wI, S_wI, T_wR, L_wR, I_wR, N_wR, S_wR, I_same, R_same, I_wIn, I_wIk, R_wRn, R_wRk, T_nwo, T_nwn, L_nwo, L_nwn, I_nwo, I_nwn, R_nwo, R_nwn, N_nw, S_nw, nar_1, nar_0, nar_01, b01_t0, b01_f0, b01_t1, b01_f1, ne_sn, eq_sn, sn_inj, x1, x3, p5, b6]
  rw [if_neg c6, if_neg c6]
  by_cases c7 : w = nI 7
  · rw [if_pos c7, if_pos c7]
    simp (disch := omega) only [gd_T, dr_S, nm_v, cl_S, cv_S, bd_S, lk_L, lk_R, zbw_b, isK_e, isPg_3, isPg_4, isPg_6, asV_n, beq_self_eq_true, inb_N, inb_0, le_T, le_F, lt_T, lt_F, eq_F, le_0T, lt_0F, le_0F, eq_0F, nI_1, nI_add, pk_mul, nI_clamp, cl_0, if_true, if_false, of_nI, T_wI, L_wI, R_wI, N_wI, S_wI, T_wR, L_wR, I_wR, N_wR, S_wR, I_same, R_same, I_wIn, I_wIk, R_wRn, R_wRk, T_nwo, T_nwn, L_nwo, L_nwn, I_nwo, I_nwn, R_nwo, R_nwn, N_nw, S_nw, nar_1, nar_0, nar_01, b01_t0, b01_f0, b01_t1, b01_f1, ne_sn, eq_sn, sn_inj, x1, x3, p5, b7]
  rw [if_neg c7, if_neg c7]
  by_cases c8 : w = nI 8
  · rw [if_pos c8, if_pos c8]
    simp (disch := omega) only [gd_T, dr_S, nm_v, cl_S, cv_S, bd_S, lk_L, lk_R, zbw_b, isK_e, isPg_3, isPg_4, isPg_6, asV_n, beq_self_eq_true, inb_N, inb_0, le_T, le_F, lt_T, lt_F, eq_F, le_0T, lt_0F, le_0F, eq_0F, nI_1, nI_add, pk_mul, nI_clamp, cl_0, if_true, if_false, of_nI, T_wI, L_wI, R_wI, N_wI, S_wI, T_wR, L_wR, I_wR, N_wR, S_wR, I_same, R_same, I_wIn, I_wIk, R_wRn, R_wRk, T_nwo, T_nwn, L_nwo, L_nwn, I_nwo, I_nwn, R_nwo, R_nwn, N_nw, S_nw, nar_1, nar_0, nar_01, b01_t0, b01_f0, b01_t1, b01_f1, ne_sn, eq_sn, sn_inj, x1, al]
  rw [if_neg c8, if_neg c8]
  by_cases c9 : w = nI 9
  · rw [if_pos c9, if_pos c9]
    simp (disch := omega) only [gd_T, dr_S, nm_v, cl_S, cv_S, bd_S, lk_L, lk_R, zbw_b, isK_e, isPg_3, isPg_4, isPg_6, asV_n, beq_self_eq_true, inb_N, inb_0, le_T, le_F, lt_T, lt_F, eq_F, le_0T, lt_0F, le_0F, eq_0F, nI_1, nI_add, pk_mul, nI_clamp, cl_0, if_true, if_false, of_nI, T_wI, L_wI, R_wI, N_wI, S_wI, T_wR, L_wR, I_wR, N_wR, S_wR, I_same, R_same, I_wIn, I_wIk, R_wRn, R_wRk, T_nwo, T_nwn, L_nwo, L_nwn, I_nwo, I_nwn, R_nwo, R_nwn, N_nw, S_nw, nar_1, nar_0, nar_01, b01_t0, b01_f0, b01_t1, b01_f1, ne_sn, eq_sn, sn_inj, x1, x3, p5, ps]
  rw [if_neg c9, if_neg c9]
theorem c_count {E : Nat × Nat} {h : Hp} {x y : Nat} {A : Nat → Nat} {j : Nat} (K : Ok E h x y A j) (w : Int32) : ∃ r h2, f_X_count x w h = some (r, h) ∧ f_M_count y w h = some (r, h2) ∧ Ok E h2 x y A (j + 1) ∧ Rm h h2 := by
  obtain ⟨B, va, ca, ka, pa, rd, pid, pat, s, base, gen, R, Q, I, i1, i2, i3⟩ := K
  obtain ⟨h', e, Q', n1, s1⟩ := m_count (w := w) Q I
  have K2 := fr_M_count (C := cT) (mi := 0) e
  refine ⟨_, h', x_count R I, e, ⟨B, va, ca, ka, pa, rd, pid, pat, s, base, gen, R.k K2 (by decide), Q', I, by omega, by omega, i3.up⟩, ?_, ?_, ?_⟩ <;> omega

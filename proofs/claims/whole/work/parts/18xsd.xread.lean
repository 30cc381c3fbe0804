/-! what can be read, class -/
/-- a block holds a chunk's address if it holds the chunk -/
theorem cc_iff {h : Hp} {ca ka pa : Nat → Nat} {st : Nat → Pg} {fs np : Nat → Nat} {nxt b id q : Nat} {g : Nat → Nat × Nat} (G : XG h ca ka pa st fs np nxt) (S : SW st fs np nxt) (hb : bOK g fs np nxt b) (h1 : 1 ≤ id) (h2 : id < nxt) (e : b = fs id + q) : ck ca (g b).1 = some (ca id) ↔ g b = (id, q) := by
  constructor
  · intro z
    rcases hb with w | ⟨w1, w2, w3, w4⟩
    · rw [w.1, ck_0] at z; cases z
    · rw [ck_s (by omega)] at z
      have i := G.ca S w1 w2 h1 h2 (Option.some.inj z)
      refine Prod.ext i ?_
      show (g b).2 = q
      rw [i] at w3
      omega
  · intro z
    rw [z]
    exact ck_s (by show id ≠ 0; omega)
theorem x_isWhole {h : Hp} {F c0 c1 c2 c3 c4 : Nat} {ca ka pa : Nat → Nat} {st : Nat → Pg} {fs np : Nat → Nat} {nxt id : Nat} {g : Nat → Nat × Nat} (O : FO h F c0 c1 c2 c3 c4) (hc : ∀ b, b < 32 → hpR h c0 b = ck ca (g b).1) (G : XG h ca ka pa st fs np nxt) (S : SW st fs np nxt) (hg : ∀ b, b < 32 → bOK g fs np nxt b) (h1 : 1 ≤ id) (h2 : id < nxt) : ∃ b, f_F_isWhole F (some (ca id)) h = some (b01 b, h) ∧ (b = true ↔ whl g fs np id) := by
  obtain ⟨o1, o2, ⟨p0, p1, p2, p3⟩, -⟩ := O
  obtain ⟨K, -⟩ := G id h1 h2
  obtain ⟨n1, n2, n3⟩ := S.2.1 id h1 h2
  have kb := k_blocks K (by omega)
  obtain ⟨k1, k2, k3, k4, k5, k6, k7, k8⟩ := K
  have hy : ∀ j, j < (np id + 1) / 2 → g (fs id + j) ≠ (id, j) → b_F_isWhole_2 F (some (ca id)) (nI j) h = some (.inr (.inr ((0 : Int32), h))) := fun j hj hP => by
    have ne : ¬ hpR h c0 (fs id + j) = some (ca id) := fun z => hP ((cc_iff G S (hg _ (by omega)) h1 h2 rfl).mp (by rw [← hc _ (by omega)]; exact z))
    unfold b_F_isWhole_2
    simp (disch := omega) only [gd_T, dr_S, nm_v, cl_S, cv_S, bd_S, lk_L, lk_R, zbw_b, isK_e, isPg_3, isPg_4, isPg_6, asV_n, beq_self_eq_true, inb_N, inb_0, le_T, le_F, lt_T, lt_F, eq_F, le_0T, lt_0F, le_0F, eq_0F, nI_1, nI_add, pk_mul, nI_clamp, cl_0, if_true, if_false, of_nI, T_wI, L_wI, R_wI, N_wI, S_wI, T_wR, L_wR, I_wR, N_wR, S_wR, I_same, R_same, I_wIn, I_wIk, R_wRn, R_wRk, T_nwo, T_nwn, L_nwo, L_nwn, I_nwo, I_nwn, R_nwo, R_nwn, N_nw, S_nw, nar_1, nar_0, nar_01, b01_t0, b01_f0, b01_t1, b01_f1, ne_sn, eq_sn, sn_inj, k1, kb, o1, p0, p1, p2, k4]
    rw [if_neg ne]
  have hz : ∀ j, j < (np id + 1) / 2 → ¬ g (fs id + j) ≠ (id, j) → b_F_isWhole_2 F (some (ca id)) (nI j) h = some (.inl (nI (j + 1), h)) := fun j hj hP => by
    have ne : hpR h c0 (fs id + j) = some (ca id) := by
      rw [hc _ (by omega)]
      exact (cc_iff G S (hg _ (by omega)) h1 h2 rfl).mpr (Classical.not_not.mp hP)
    unfold b_F_isWhole_2
    simp (disch := omega) only [gd_T, dr_S, nm_v, cl_S, cv_S, bd_S, lk_L, lk_R, zbw_b, isK_e, isPg_3, isPg_4, isPg_6, asV_n, beq_self_eq_true, inb_N, inb_0, le_T, le_F, lt_T, lt_F, eq_F, le_0T, lt_0F, le_0F, eq_0F, nI_1, nI_add, pk_mul, nI_clamp, cl_0, if_true, if_false, of_nI, T_wI, L_wI, R_wI, N_wI, S_wI, T_wR, L_wR, I_wR, N_wR, S_wR, I_same, R_same, I_wIn, I_wIk, R_wRn, R_wRk, T_nwo, T_nwn, L_nwo, L_nwn, I_nwo, I_nwn, R_nwo, R_nwn, N_nw, S_nw, nar_1, nar_0, nar_01, b01_t0, b01_f0, b01_t1, b01_f1, ne_sn, eq_sn, sn_inj, k1, kb, o1, p0, p1, p2, k4]
    rw [if_pos ne]
  have he : b_F_isWhole_2 F (some (ca id)) (nI ((np id + 1) / 2)) h = some (.inr (.inl h)) := by
    unfold b_F_isWhole_2
    simp (disch := omega) only [gd_T, dr_S, nm_v, cl_S, cv_S, bd_S, lk_L, lk_R, zbw_b, isK_e, isPg_3, isPg_4, isPg_6, asV_n, beq_self_eq_true, inb_N, inb_0, le_T, le_F, lt_T, lt_F, eq_F, le_0T, lt_0F, le_0F, eq_0F, nI_1, nI_add, pk_mul, nI_clamp, cl_0, if_true, if_false, of_nI, T_wI, L_wI, R_wI, N_wI, S_wI, T_wR, L_wR, I_wR, N_wR, S_wR, I_same, R_same, I_wIn, I_wIk, R_wRn, R_wRk, T_nwo, T_nwn, L_nwo, L_nwn, I_nwo, I_nwn, R_nwo, R_nwn, N_nw, S_nw, nar_1, nar_0, nar_01, b01_t0, b01_f0, b01_t1, b01_f1, ne_sn, eq_sn, sn_inj, k1, kb]
  rcases lp_find (b := fun s => b_F_isWhole_2 F (some (ca id)) s.1 s.2) h ((np id + 1) / 2) (by omega) (fun j => g (fs id + j) ≠ (id, j)) (fun _ => (0 : Int32)) hy hz he with ⟨e, q⟩ | ⟨j, hj, q1, q2, e⟩
  · refine ⟨true, zbw_s ?_ (zb_b _), ⟨fun _ t ht => Classical.not_not.mp (q t ht), fun _ => rfl⟩⟩
    unfold f0_F_isWhole
    rw [show l_F_isWhole_2 F (some (ca id)) ((0 : Int32), h) = _ from e]
    rfl
  · refine ⟨false, zbw_s ?_ (zb_b _), ⟨fun z => (by cases z), fun z => absurd (z j hj) q1⟩⟩
    unfold f0_F_isWhole
    rw [show l_F_isWhole_2 F (some (ca id)) ((0 : Int32), h) = _ from e]
    rfl
theorem x_holdsPage {h : Hp} {F c0 c1 c2 c3 c4 : Nat} {ca ka pa : Nat → Nat} {st : Nat → Pg} {fs np : Nat → Nat} {nxt k : Nat} {g : Nat → Nat × Nat} (O : FO h F c0 c1 c2 c3 c4) (hc : ∀ b, b < 32 → hpR h c0 b = ck ca (g b).1) (G : XG h ca ka pa st fs np nxt) (S : SW st fs np nxt) (hg : ∀ b, b < 32 → bOK g fs np nxt b) (v : vk np nxt k) : ∃ b, f_F_holdsPage F (some (pa k)) h = some (b01 b, h) ∧ (b = true ↔ hdk g fs k) := by
  obtain ⟨o1, o2, ⟨p0, p1, p2, p3⟩, -⟩ := O
  obtain ⟨K, -⟩ := G (k / 32) v.1 v.2.1
  obtain ⟨n1, n2, n3⟩ := S.2.1 (k / 32) v.1 v.2.1
  have P := G.po v
  have pg := P.pg
  have v3 := v.2.2
  obtain ⟨k1, k2, k3, k4, -⟩ := K
  have d2 : nI (k % 32) / nI 2 = nI (k % 32 / 2) := pk_div (by omega) (by decide) (by decide)
  have bl : fs (k / 32) + k % 32 / 2 < 32 := by omega
  have iff := cc_iff (q := k % 32 / 2) G S (hg _ bl) v.1 v.2.1 rfl
  rw [← hc _ bl] at iff
  by_cases c : hpR h c0 (fs (k / 32) + k % 32 / 2) = some (ca (k / 32))
  · refine ⟨true, zbw_s ?_ (zb_b _), ⟨fun _ => iff.mp c, fun _ => rfl⟩⟩
    unfold f0_F_holdsPage
    simp (disch := omega) only [gd_T, dr_S, nm_v, cl_S, cv_S, bd_S, lk_L, lk_R, zbw_b, isK_e, isPg_3, isPg_4, isPg_6, asV_n, beq_self_eq_true, inb_N, inb_0, le_T, le_F, lt_T, lt_F, eq_F, le_0T, lt_0F, le_0F, eq_0F, nI_1, nI_add, pk_mul, nI_clamp, cl_0, if_true, if_false, of_nI, T_wI, L_wI, R_wI, N_wI, S_wI, T_wR, L_wR, I_wR, N_wR, S_wR, I_same, R_same, I_wIn, I_wIk, R_wRn, R_wRk, T_nwo, T_nwn, L_nwo, L_nwn, I_nwo, I_nwn, R_nwo, R_nwn, N_nw, S_nw, nar_1, nar_0, nar_01, b01_t0, b01_f0, b01_t1, b01_f1, ne_sn, eq_sn, sn_inj, o1, pg, P.2.1, P.2.2.1, k1, k4, d2, p0, p1, p2]
    rw [if_pos c]
    rfl
  · refine ⟨false, zbw_s ?_ (zb_b _), ⟨fun z => (by cases z), fun z => absurd (iff.mpr z) c⟩⟩
    unfold f0_F_holdsPage
    simp (disch := omega) only [gd_T, dr_S, nm_v, cl_S, cv_S, bd_S, lk_L, lk_R, zbw_b, isK_e, isPg_3, isPg_4, isPg_6, asV_n, beq_self_eq_true, inb_N, inb_0, le_T, le_F, lt_T, lt_F, eq_F, le_0T, lt_0F, le_0F, eq_0F, nI_1, nI_add, pk_mul, nI_clamp, cl_0, if_true, if_false, of_nI, T_wI, L_wI, R_wI, N_wI, S_wI, T_wR, L_wR, I_wR, N_wR, S_wR, I_same, R_same, I_wIn, I_wIk, R_wRn, R_wRk, T_nwo, T_nwn, L_nwo, L_nwn, I_nwo, I_nwn, R_nwo, R_nwn, N_nw, S_nw, nar_1, nar_0, nar_01, b01_t0, b01_f0, b01_t1, b01_f1, ne_sn, eq_sn, sn_inj, o1, pg, P.2.1, P.2.2.1, k1, k4, d2, p0, p1, p2]
    rw [if_neg c]
    rfl
theorem x_holdsAll {h : Hp} {F c0 c1 c2 c3 c4 : Nat} {ca ka pa : Nat → Nat} {st : Nat → Pg} {fs np : Nat → Nat} {nxt k : Nat} {g : Nat → Nat × Nat} (O : FO h F c0 c1 c2 c3 c4) (hc : ∀ b, b < 32 → hpR h c0 b = ck ca (g b).1) (G : XG h ca ka pa st fs np nxt) (S : SW st fs np nxt) (hg : ∀ b, b < 32 → bOK g fs np nxt b) (v : vk np nxt k) (k2 : kd st k = 2) : ∃ b, f_F_holdsAllOf F (some (pa k)) h = some (b01 b, h) ∧ (b = true ↔ ∀ m, m < 4 → (ld st k m ≠ 0 → hdk g fs (ld st k m)) ∧ ∀ j, j < 4 → lk2 st k m j ≠ 0 → hdk g fs (lk2 st k m j)) := by
  have o1 := O.1
  obtain ⟨a1, -, a3, a4, a5, a6, a7⟩ := (G.po v).meta k2
  have inner : ∀ m, m < 4 → (l_F_holdsAllOf_33 F (some (pa k)) (nI m) ((0 : Int32), h) = some (.inl h) ∧ ∀ j, j < 4 → ¬ (lk2 st k m j ≠ 0 ∧ ¬ hdk g fs (lk2 st k m j))) ∨ (l_F_holdsAllOf_33 F (some (pa k)) (nI m) ((0 : Int32), h) = some (.inr ((0 : Int32), h)) ∧ ∃ j, j < 4 ∧ lk2 st k m j ≠ 0 ∧ ¬ hdk g fs (lk2 st k m j)) := fun m hm => by
    have hy : ∀ j, j < 4 → (lk2 st k m j ≠ 0 ∧ ¬ hdk g fs (lk2 st k m j)) → b_F_holdsAllOf_33 F (some (pa k)) (nI m) (nI j) h = some (.inr (.inr ((0 : Int32), h))) := fun j hj hP => by
      have lo2 := e_leafOf G S v k2 hm hj
      rw [ck_s hP.1] at lo2
      obtain ⟨l1, -⟩ := S.lkk v k2 hm hj hP.1
      obtain ⟨b, e, i⟩ := x_holdsPage O hc G S hg l1
      have bf : b = false := by cases b; rfl; exact absurd (i.mp rfl) hP.2
      rw [bf] at e
      unfold b_F_holdsAllOf_33
      simp (disch := omega) only [gd_T, dr_S, nm_v, cl_S, cv_S, bd_S, lk_L, lk_R, zbw_b, isK_e, isPg_3, isPg_4, isPg_6, asV_n, beq_self_eq_true, inb_N, inb_0, le_T, le_F, lt_T, lt_F, eq_F, le_0T, lt_0F, le_0F, eq_0F, nI_1, nI_add, pk_mul, nI_clamp, cl_0, if_true, if_false, of_nI, T_wI, L_wI, R_wI, N_wI, S_wI, T_wR, L_wR, I_wR, N_wR, S_wR, I_same, R_same, I_wIn, I_wIk, R_wRn, R_wRk, T_nwo, T_nwn, L_nwo, L_nwn, I_nwo, I_nwn, R_nwo, R_nwn, N_nw, S_nw, nar_1, nar_0, nar_01, b01_t0, b01_f0, b01_t1, b01_f1, ne_sn, eq_sn, sn_inj, a1, lo2, o1, e]
    have hz : ∀ j, j < 4 → ¬ (lk2 st k m j ≠ 0 ∧ ¬ hdk g fs (lk2 st k m j)) → b_F_holdsAllOf_33 F (some (pa k)) (nI m) (nI j) h = some (.inl (nI (j + 1), h)) := fun j hj hP => by
      have lo2 := e_leafOf G S v k2 hm hj
      by_cases c : lk2 st k m j = 0
      · rw [c, ck_0] at lo2
        unfold b_F_holdsAllOf_33
        simp (disch := omega) only [gd_T, dr_S, nm_v, cl_S, cv_S, bd_S, lk_L, lk_R, zbw_b, isK_e, isPg_3, isPg_4, isPg_6, asV_n, beq_self_eq_true, inb_N, inb_0, le_T, le_F, lt_T, lt_F, eq_F, le_0T, lt_0F, le_0F, eq_0F, nI_1, nI_add, pk_mul, nI_clamp, cl_0, if_true, if_false, of_nI, T_wI, L_wI, R_wI, N_wI, S_wI, T_wR, L_wR, I_wR, N_wR, S_wR, I_same, R_same, I_wIn, I_wIk, R_wRn, R_wRk, T_nwo, T_nwn, L_nwo, L_nwn, I_nwo, I_nwn, R_nwo, R_nwn, N_nw, S_nw, nar_1, nar_0, nar_01, b01_t0, b01_f0, b01_t1, b01_f1, ne_sn, eq_sn, sn_inj, a1, lo2]
      · rw [ck_s c] at lo2
        obtain ⟨l1, -⟩ := S.lkk v k2 hm hj c
        obtain ⟨b, e, i⟩ := x_holdsPage O hc G S hg l1
        have bt : b = true := i.mpr (Classical.not_not.mp fun z => hP ⟨c, z⟩)
        rw [bt] at e
        unfold b_F_holdsAllOf_33
        simp (disch := omega) only [gd_T, dr_S, nm_v, cl_S, cv_S, bd_S, lk_L, lk_R, zbw_b, isK_e, isPg_3, isPg_4, isPg_6, asV_n, beq_self_eq_true, inb_N, inb_0, le_T, le_F, lt_T, lt_F, eq_F, le_0T, lt_0F, le_0F, eq_0F, nI_1, nI_add, pk_mul, nI_clamp, cl_0, if_true, if_false, of_nI, T_wI, L_wI, R_wI, N_wI, S_wI, T_wR, L_wR, I_wR, N_wR, S_wR, I_same, R_same, I_wIn, I_wIk, R_wRn, R_wRk, T_nwo, T_nwn, L_nwo, L_nwn, I_nwo, I_nwn, R_nwo, R_nwn, N_nw, S_nw, nar_1, nar_0, nar_01, b01_t0, b01_f0, b01_t1, b01_f1, ne_sn, eq_sn, sn_inj, a1, lo2, o1, e]
    have he : b_F_holdsAllOf_33 F (some (pa k)) (nI m) (nI 4) h = some (.inr (.inl h)) := by
      unfold b_F_holdsAllOf_33
      simp (disch := omega) only [gd_T, dr_S, nm_v, cl_S, cv_S, bd_S, lk_L, lk_R, zbw_b, isK_e, isPg_3, isPg_4, isPg_6, asV_n, beq_self_eq_true, inb_N, inb_0, le_T, le_F, lt_T, lt_F, eq_F, le_0T, lt_0F, le_0F, eq_0F, nI_1, nI_add, pk_mul, nI_clamp, cl_0, if_true, if_false, of_nI, T_wI, L_wI, R_wI, N_wI, S_wI, T_wR, L_wR, I_wR, N_wR, S_wR, I_same, R_same, I_wIn, I_wIk, R_wRn, R_wRk, T_nwo, T_nwn, L_nwo, L_nwn, I_nwo, I_nwn, R_nwo, R_nwn, N_nw, S_nw, nar_1, nar_0, nar_01, b01_t0, b01_f0, b01_t1, b01_f1, ne_sn, eq_sn, sn_inj]
    rcases lp_find (b := fun s => b_F_holdsAllOf_33 F (some (pa k)) (nI m) s.1 s.2) h 4 (by decide) (fun j => lk2 st k m j ≠ 0 ∧ ¬ hdk g fs (lk2 st k m j)) (fun _ => (0 : Int32)) hy hz he with ⟨e, q⟩ | ⟨j, hj, q1, q2, e⟩
    · exact Or.inl ⟨e, q⟩
    · exact Or.inr ⟨e, j, hj, q1⟩
  have hy : ∀ m, m < 4 → ((ld st k m ≠ 0 ∧ ¬ hdk g fs (ld st k m)) ∨ ∃ j, j < 4 ∧ lk2 st k m j ≠ 0 ∧ ¬ hdk g fs (lk2 st k m j)) → b_F_holdsAllOf_2 F (some (pa k)) (nI m) h = some (.inr (.inr ((0 : Int32), h))) := fun m hm hP => by
    have a8 := a7 m hm
    by_cases c : ld st k m = 0
    · rw [c, ck_0] at a8
      have hP' := hP.resolve_left (fun z => z.1 c)
      rcases inner m hm with ⟨-, q⟩ | ⟨e, -⟩
      · obtain ⟨j, hj, w⟩ := hP'
        exact absurd w (q j hj)
      · unfold b_F_holdsAllOf_2 j_F_holdsAllOf_31_L2
        simp (disch := omega) only [gd_T, dr_S, nm_v, cl_S, cv_S, bd_S, lk_L, lk_R, zbw_b, isK_e, isPg_3, isPg_4, isPg_6, asV_n, beq_self_eq_true, inb_N, inb_0, le_T, le_F, lt_T, lt_F, eq_F, le_0T, lt_0F, le_0F, eq_0F, nI_1, nI_add, pk_mul, nI_clamp, cl_0, if_true, if_false, of_nI, T_wI, L_wI, R_wI, N_wI, S_wI, T_wR, L_wR, I_wR, N_wR, S_wR, I_same, R_same, I_wIn, I_wIk, R_wRn, R_wRk, T_nwo, T_nwn, L_nwo, L_nwn, I_nwo, I_nwn, R_nwo, R_nwn, N_nw, S_nw, nar_1, nar_0, nar_01, b01_t0, b01_f0, b01_t1, b01_f1, ne_sn, eq_sn, sn_inj, a1, a3, a4, a5, a8, e]
    · rw [ck_s c] at a8
      obtain ⟨l1, -⟩ := S.root v k2 hm c
      obtain ⟨b, e, i⟩ := x_holdsPage O hc G S hg l1
      cases b with
      | false =>
        unfold b_F_holdsAllOf_2 j_F_holdsAllOf_31_L2
        simp (disch := omega) only [gd_T, dr_S, nm_v, cl_S, cv_S, bd_S, lk_L, lk_R, zbw_b, isK_e, isPg_3, isPg_4, isPg_6, asV_n, beq_self_eq_true, inb_N, inb_0, le_T, le_F, lt_T, lt_F, eq_F, le_0T, lt_0F, le_0F, eq_0F, nI_1, nI_add, pk_mul, nI_clamp, cl_0, if_true, if_false, of_nI, T_wI, L_wI, R_wI, N_wI, S_wI, T_wR, L_wR, I_wR, N_wR, S_wR, I_same, R_same, I_wIn, I_wIk, R_wRn, R_wRk, T_nwo, T_nwn, L_nwo, L_nwn, I_nwo, I_nwn, R_nwo, R_nwn, N_nw, S_nw, nar_1, nar_0, nar_01, b01_t0, b01_f0, b01_t1, b01_f1, ne_sn, eq_sn, sn_inj, a1, a3, a4, a5, a8, o1, e]
      | true =>
        have hP' := hP.resolve_left (fun z => z.2 (i.mp rfl))
        rcases inner m hm with ⟨-, q⟩ | ⟨e', -⟩
        · obtain ⟨j, hj, w⟩ := hP'
          exact absurd w (q j hj)
        · unfold b_F_holdsAllOf_2 j_F_holdsAllOf_31_L2
          simp (disch := omega) only [gd_T, dr_S, nm_v, cl_S, cv_S, bd_S, lk_L, lk_R, zbw_b, isK_e, isPg_3, isPg_4, isPg_6, asV_n, beq_self_eq_true, inb_N, inb_0, le_T, le_F, lt_T, lt_F, eq_F, le_0T, lt_0F, le_0F, eq_0F, nI_1, nI_add, pk_mul, nI_clamp, cl_0, if_true, if_false, of_nI, T_wI, L_wI, R_wI, N_wI, S_wI, T_wR, L_wR, I_wR, N_wR, S_wR, I_same, R_same, I_wIn, I_wIk, R_wRn, R_wRk, T_nwo, T_nwn, L_nwo, L_nwn, I_nwo, I_nwn, R_nwo, R_nwn, N_nw, S_nw, nar_1, nar_0, nar_01, b01_t0, b01_f0, b01_t1, b01_f1, ne_sn, eq_sn, sn_inj, a1, a3, a4, a5, a8, o1, e, e']
  have hz : ∀ m, m < 4 → ¬ ((ld st k m ≠ 0 ∧ ¬ hdk g fs (ld st k m)) ∨ ∃ j, j < 4 ∧ lk2 st k m j ≠ 0 ∧ ¬ hdk g fs (lk2 st k m j)) → b_F_holdsAllOf_2 F (some (pa k)) (nI m) h = some (.inl (nI (m + 1), h)) := fun m hm hP => by
    have a8 := a7 m hm
    have e : l_F_holdsAllOf_33 F (some (pa k)) (nI m) ((0 : Int32), h) = some (.inl h) := by
      rcases inner m hm with ⟨e, -⟩ | ⟨-, w⟩
      · exact e
      · exact absurd (Or.inr w) hP
    by_cases c : ld st k m = 0
    · rw [c, ck_0] at a8
      unfold b_F_holdsAllOf_2 j_F_holdsAllOf_31_L2
      simp (disch := omega) only [gd_T, dr_S, nm_v, cl_S, cv_S, bd_S, lk_L, lk_R, zbw_b, isK_e, isPg_3, isPg_4, isPg_6, asV_n, beq_self_eq_true, inb_N, inb_0, le_T, le_F, lt_T, lt_F, eq_F, le_0T, lt_0F, le_0F, eq_0F, nI_1, nI_add, pk_mul, nI_clamp, cl_0, if_true, if_false, of_nI, T_wI, L_wI, R_wI, N_wI, S_wI, T_wR, L_wR, I_wR, N_wR, S_wR, I_same, R_same, I_wIn, I_wIk, R_wRn, R_wRk, T_nwo, T_nwn, L_nwo, L_nwn, I_nwo, I_nwn, R_nwo, R_nwn, N_nw, S_nw, nar_1, nar_0, nar_01, b01_t0, b01_f0, b01_t1, b01_f1, ne_sn, eq_sn, sn_inj, a1, a3, a4, a5, a8, e]
    · rw [ck_s c] at a8
      obtain ⟨l1, -⟩ := S.root v k2 hm c
      obtain ⟨b, e', i⟩ := x_holdsPage O hc G S hg l1
      have bt : b = true := i.mpr (Classical.not_not.mp fun z => hP (Or.inl ⟨c, z⟩))
      rw [bt] at e'
      unfold b_F_holdsAllOf_2 j_F_holdsAllOf_31_L2
      simp (disch := omega) only [gd_T, dr_S, nm_v, cl_S, cv_S, bd_S, lk_L, lk_R, zbw_b, isK_e, isPg_3, isPg_4, isPg_6, asV_n, beq_self_eq_true, inb_N, inb_0, le_T, le_F, lt_T, lt_F, eq_F, le_0T, lt_0F, le_0F, eq_0F, nI_1, nI_add, pk_mul, nI_clamp, cl_0, if_true, if_false, of_nI, T_wI, L_wI, R_wI, N_wI, S_wI, T_wR, L_wR, I_wR, N_wR, S_wR, I_same, R_same, I_wIn, I_wIk, R_wRn, R_wRk, T_nwo, T_nwn, L_nwo, L_nwn, I_nwo, I_nwn, R_nwo, R_nwn, N_nw, S_nw, nar_1, nar_0, nar_01, b01_t0, b01_f0, b01_t1, b01_f1, ne_sn, eq_sn, sn_inj, a1, a3, a4, a5, a8, o1, e', e]
  have he : b_F_holdsAllOf_2 F (some (pa k)) (nI 4) h = some (.inr (.inl h)) := by
    unfold b_F_holdsAllOf_2
    simp (disch := omega) only [gd_T, dr_S, nm_v, cl_S, cv_S, bd_S, lk_L, lk_R, zbw_b, isK_e, isPg_3, isPg_4, isPg_6, asV_n, beq_self_eq_true, inb_N, inb_0, le_T, le_F, lt_T, lt_F, eq_F, le_0T, lt_0F, le_0F, eq_0F, nI_1, nI_add, pk_mul, nI_clamp, cl_0, if_true, if_false, of_nI, T_wI, L_wI, R_wI, N_wI, S_wI, T_wR, L_wR, I_wR, N_wR, S_wR, I_same, R_same, I_wIn, I_wIk, R_wRn, R_wRk, T_nwo, T_nwn, L_nwo, L_nwn, I_nwo, I_nwn, R_nwo, R_nwn, N_nw, S_nw, nar_1, nar_0, nar_01, b01_t0, b01_f0, b01_t1, b01_f1, ne_sn, eq_sn, sn_inj]
  rcases lp_find (b := fun s => b_F_holdsAllOf_2 F (some (pa k)) s.1 s.2) h 4 (by decide) (fun m => (ld st k m ≠ 0 ∧ ¬ hdk g fs (ld st k m)) ∨ ∃ j, j < 4 ∧ lk2 st k m j ≠ 0 ∧ ¬ hdk g fs (lk2 st k m j)) (fun _ => (0 : Int32)) hy hz he with ⟨e, q⟩ | ⟨m, hm, q1, q2, e⟩
  · refine ⟨true, zbw_s ?_ (zb_b _), ⟨fun _ m hm => ⟨fun z => Classical.not_not.mp fun w => q m hm (Or.inl ⟨z, w⟩), fun j hj z => Classical.not_not.mp fun w => q m hm (Or.inr ⟨j, hj, z, w⟩)⟩, fun _ => rfl⟩⟩
    unfold f0_F_holdsAllOf
    rw [show l_F_holdsAllOf_2 F (some (pa k)) ((0 : Int32), h) = _ from e]
    rfl
  · refine ⟨false, zbw_s ?_ (zb_b _), ⟨fun z => (by cases z), fun z => ?_⟩⟩
    · unfold f0_F_holdsAllOf
      rw [show l_F_holdsAllOf_2 F (some (pa k)) ((0 : Int32), h) = _ from e]
      rfl
    · exfalso
      rcases q1 with w | ⟨j, hj, w⟩
      · exact w.2 ((z m hm).1 w.1)
      · exact w.2 ((z m hm).2 j hj w.1)
theorem Rd_iff {st : Nat → Pg} {g : Nat → Nat × Nat} {fs np : Nat → Nat} {nxt id : Nat} (S : SW st fs np nxt) (h1 : 1 ≤ id) (h2 : id < nxt) : Rd st g fs np id ↔ whl g fs np id ∧ ∀ m, m < 4 → (ld st (mkk np id) m ≠ 0 → hdk g fs (ld st (mkk np id) m)) ∧ ∀ j, j < 4 → lk2 st (mkk np id) m j ≠ 0 → hdk g fs (lk2 st (mkk np id) m j) := by
  constructor
  · rintro ⟨a, b⟩
    exact ⟨a, fun m hm => ⟨fun z => b _ (rcb_t.mpr (Or.inr (Or.inl ⟨m, hm, z, rfl⟩))), fun j hj z => b _ (rcb_t.mpr (Or.inr (Or.inr ⟨m, j, hm, hj, z, rfl⟩)))⟩⟩
  · rintro ⟨a, b⟩
    refine ⟨a, fun k hk => ?_⟩
    rcases rcb_t.mp hk with q | ⟨m, hm, h0, q⟩ | ⟨m, j, hm, hj, h0, q⟩
    · obtain ⟨v, k2, e⟩ := mkk_vk S h1 h2
      rw [q]
      unfold hdk
      rw [e]
      have n := (S.2.1 id h1 h2)
      have e2 : mkk np id % 32 / 2 < nbk np id := by unfold mkk nbk; omega
      exact a _ e2
    · rw [q]; exact (b m hm).1 h0
    · rw [q]; exact (b m hm).2 j hj h0
theorem x_newest {h : Hp} {F c0 c1 c2 c3 c4 : Nat} {ca ka pa : Nat → Nat} {st : Nat → Pg} {fs np : Nat → Nat} {nxt : Nat} {g : Nat → Nat × Nat} (O : FO h F c0 c1 c2 c3 c4) (hc : ∀ b, b < 32 → hpR h c0 b = ck ca (g b).1) (G : XG h ca ka pa st fs np nxt) (S : SW st fs np nxt) (hg : ∀ b, b < 32 → bOK g fs np nxt b) : ∃ n, NWd st g fs np nxt n ∧ f_F_newestReadable F h = some (ck ca n, h) := by
  have O' := O
  obtain ⟨o1, o2, ⟨p0, p1, p2, p3⟩, -⟩ := O'
  have hx := S.1
  have rd1 : ∀ id, 1 ≤ id → id < nxt → ∀ (o : Option Nat) (b : Nat), ∃ bb, j_F_newestReadable_36_L4 F o (nI b) (some (ca id)) h = some (.inl (bif bb then some (ca id) else o, nI (b + 1), h)) ∧ (bb = true ↔ Rd st g fs np id) := fun id h1 h2 o b => by
    obtain ⟨w, e1, i1⟩ := x_isWhole O hc G S hg h1 h2
    obtain ⟨v, k2, -⟩ := mkk_vk S h1 h2
    obtain ⟨u, e2, i2⟩ := x_holdsAll O hc G S hg v k2
    obtain ⟨K, g4, -⟩ := G id h1 h2
    have g4' : hpR h (ca id) 4 = some (pa (mkk np id)) := g4
    refine ⟨w && u, ?_, by rw [Bool.and_eq_true, i1, i2, Rd_iff S h1 h2]⟩
    unfold j_F_newestReadable_36_L4
    cases w with
    | false => simp (disch := omega) only [gd_T, dr_S, nm_v, cl_S, cv_S, bd_S, lk_L, lk_R, zbw_b, isK_e, isPg_3, isPg_4, isPg_6, asV_n, beq_self_eq_true, inb_N, inb_0, le_T, le_F, lt_T, lt_F, eq_F, le_0T, lt_0F, le_0F, eq_0F, nI_1, nI_add, pk_mul, nI_clamp, cl_0, if_true, if_false, of_nI, T_wI, L_wI, R_wI, N_wI, S_wI, T_wR, L_wR, I_wR, N_wR, S_wR, I_same, R_same, I_wIn, I_wIk, R_wRn, R_wRk, T_nwo, T_nwn, L_nwo, L_nwn, I_nwo, I_nwn, R_nwo, R_nwn, N_nw, S_nw, nar_1, nar_0, nar_01, b01_t0, b01_f0, b01_t1, b01_f1, ne_sn, eq_sn, sn_inj, o1, e1]; rfl
    | true =>
      cases u with
      | false => simp (disch := omega) only [gd_T, dr_S, nm_v, cl_S, cv_S, bd_S, lk_L, lk_R, zbw_b, isK_e, isPg_3, isPg_4, isPg_6, asV_n, beq_self_eq_true, inb_N, inb_0, le_T, le_F, lt_T, lt_F, eq_F, le_0T, lt_0F, le_0F, eq_0F, nI_1, nI_add, pk_mul, nI_clamp, cl_0, if_true, if_false, of_nI, T_wI, L_wI, R_wI, N_wI, S_wI, T_wR, L_wR, I_wR, N_wR, S_wR, I_same, R_same, I_wIn, I_wIk, R_wRn, R_wRk, T_nwo, T_nwn, L_nwo, L_nwn, I_nwo, I_nwn, R_nwo, R_nwn, N_nw, S_nw, nar_1, nar_0, nar_01, b01_t0, b01_f0, b01_t1, b01_f1, ne_sn, eq_sn, sn_inj, o1, e1, K.1, g4', e2]; rfl
      | true => simp (disch := omega) only [gd_T, dr_S, nm_v, cl_S, cv_S, bd_S, lk_L, lk_R, zbw_b, isK_e, isPg_3, isPg_4, isPg_6, asV_n, beq_self_eq_true, inb_N, inb_0, le_T, le_F, lt_T, lt_F, eq_F, le_0T, lt_0F, le_0F, eq_0F, nI_1, nI_add, pk_mul, nI_clamp, cl_0, if_true, if_false, of_nI, T_wI, L_wI, R_wI, N_wI, S_wI, T_wR, L_wR, I_wR, N_wR, S_wR, I_same, R_same, I_wIn, I_wIk, R_wRn, R_wRk, T_nwo, T_nwn, L_nwo, L_nwn, I_nwo, I_nwn, R_nwo, R_nwn, N_nw, S_nw, nar_1, nar_0, nar_01, b01_t0, b01_f0, b01_t1, b01_f1, ne_sn, eq_sn, sn_inj, o1, e1, K.1, g4', e2]; rfl
  have key : ∃ r, l_F_newestReadable_4 F (none, (0 : Int32), h) = some r ∧ ∃ n, r = (ck ca n, h) ∧ (n = 0 ∨ (1 ≤ n ∧ n < nxt ∧ Rd st g fs np n)) ∧ ∀ b, b < 32 → (g b).1 ≠ 0 → Rd st g fs np (g b).1 → (g b).1 ≤ n := by
    refine lp_up (b := fun s => b_F_newestReadable_4 F s.1 s.2.1 s.2.2) (fun j s => ∃ n, s = (ck ca n, nI j, h) ∧ (n = 0 ∨ (1 ≤ n ∧ n < nxt ∧ Rd st g fs np n)) ∧ ∀ b, b < j → (g b).1 ≠ 0 → Rd st g fs np (g b).1 → (g b).1 ≤ n) _ 32 (by decide) ⟨0, rfl, Or.inl rfl, fun b hb => absurd hb (Nat.not_lt_zero _)⟩ (fun j s hj hs => Or.inl ?_) (fun s hs => ?_)
    · obtain ⟨n, rfl, hn, hbest⟩ := hs
      have cj := hc j hj
      by_cases c : (g j).1 = 0
      · rw [c, ck_0] at cj
        refine ⟨(ck ca n, nI (j + 1), h), ?_, n, rfl, hn, fun b hb h0 hr => ?_⟩
        · show b_F_newestReadable_4 F (ck ca n) (nI j) h = _
          unfold b_F_newestReadable_4
          simp (disch := omega) only [gd_T, dr_S, nm_v, cl_S, cv_S, bd_S, lk_L, lk_R, zbw_b, isK_e, isPg_3, isPg_4, isPg_6, asV_n, beq_self_eq_true, inb_N, inb_0, le_T, le_F, lt_T, lt_F, eq_F, le_0T, lt_0F, le_0F, eq_0F, nI_1, nI_add, pk_mul, nI_clamp, cl_0, if_true, if_false, of_nI, T_wI, L_wI, R_wI, N_wI, S_wI, T_wR, L_wR, I_wR, N_wR, S_wR, I_same, R_same, I_wIn, I_wIk, R_wRn, R_wRk, T_nwo, T_nwn, L_nwo, L_nwn, I_nwo, I_nwn, R_nwo, R_nwn, N_nw, S_nw, nar_1, nar_0, nar_01, b01_t0, b01_f0, b01_t1, b01_f1, ne_sn, eq_sn, sn_inj, o1, p0, p1, p2, cj]
        · by_cases e : b = j
          · subst e; exact absurd c h0
          · exact hbest b (by omega) h0 hr
      · obtain ⟨q1, q2, q3, q4⟩ := (hg j hj).resolve_left (fun z => c z.1)
        rw [ck_s c] at cj
        obtain ⟨K, -⟩ := G _ q1 q2
        obtain ⟨bb, e, i⟩ := rd1 (g j).1 q1 q2 (ck ca n) j
        have upd : (∀ m, (bb = true → m = (g j).1) → (bb = false → m = n) → (g j).1 > n ∨ n = 0 → (m = 0 ∨ (1 ≤ m ∧ m < nxt ∧ Rd st g fs np m)) ∧ ∀ b, b < j + 1 → (g b).1 ≠ 0 → Rd st g fs np (g b).1 → (g b).1 ≤ m) := fun m h1 h2 h3 => by
          cases bb with
          | true =>
            rw [h1 rfl]
            refine ⟨Or.inr ⟨q1, q2, i.mp rfl⟩, fun b hb h0 hr => ?_⟩
            by_cases e : b = j
            · subst e; exact Nat.le_refl _
            · have := hbest b (by omega) h0 hr
              omega
          | false =>
            rw [h2 rfl]
            refine ⟨hn, fun b hb h0 hr => ?_⟩
            by_cases e : b = j
            · subst e
              have := i.mpr hr
              cases this
            · exact hbest b (by omega) h0 hr
        by_cases cn0 : n = 0
        · have eb : b_F_newestReadable_4 F (ck ca n) (nI j) h = some (.inl (bif bb then some (ca (g j).1) else ck ca n, nI (j + 1), h)) := by
            rw [← e]
            unfold b_F_newestReadable_4
            rw [cn0, ck_0]
            simp (disch := omega) only [gd_T, dr_S, nm_v, cl_S, cv_S, bd_S, lk_L, lk_R, zbw_b, isK_e, isPg_3, isPg_4, isPg_6, asV_n, beq_self_eq_true, inb_N, inb_0, le_T, le_F, lt_T, lt_F, eq_F, le_0T, lt_0F, le_0F, eq_0F, nI_1, nI_add, pk_mul, nI_clamp, cl_0, if_true, if_false, of_nI, T_wI, L_wI, R_wI, N_wI, S_wI, T_wR, L_wR, I_wR, N_wR, S_wR, I_same, R_same, I_wIn, I_wIk, R_wRn, R_wRk, T_nwo, T_nwn, L_nwo, L_nwn, I_nwo, I_nwn, R_nwo, R_nwn, N_nw, S_nw, nar_1, nar_0, nar_01, b01_t0, b01_f0, b01_t1, b01_f1, ne_sn, eq_sn, sn_inj, o1, p0, p1, p2, cj]
          refine ⟨_, eb, bif bb then (g j).1 else n, ?_, ?_⟩
          · cases bb
            · rfl
            · show (some (ca (g j).1), _, _) = (ck ca (g j).1, _, _)
              rw [ck_s c]
          · exact upd _ (fun z => by rw [z]; rfl) (fun z => by rw [z]; rfl) (Or.inr cn0)
        · obtain ⟨w1, w2, w3⟩ := hn.resolve_left cn0
          obtain ⟨Kn, -⟩ := G n w1 w2
          by_cases c2 : (g j).1 ≤ n
          · refine ⟨(ck ca n, nI (j + 1), h), ?_, n, rfl, hn, fun b hb h0 hr => ?_⟩
            · show b_F_newestReadable_4 F (ck ca n) (nI j) h = _
              unfold b_F_newestReadable_4
              rw [ck_s cn0]
              simp (disch := omega) only [gd_T, dr_S, nm_v, cl_S, cv_S, bd_S, lk_L, lk_R, zbw_b, isK_e, isPg_3, isPg_4, isPg_6, asV_n, beq_self_eq_true, inb_N, inb_0, le_T, le_F, lt_T, lt_F, eq_F, le_0T, lt_0F, le_0F, eq_0F, nI_1, nI_add, pk_mul, nI_clamp, cl_0, if_true, if_false, of_nI, T_wI, L_wI, R_wI, N_wI, S_wI, T_wR, L_wR, I_wR, N_wR, S_wR, I_same, R_same, I_wIn, I_wIk, R_wRn, R_wRk, T_nwo, T_nwn, L_nwo, L_nwn, I_nwo, I_nwn, R_nwo, R_nwn, N_nw, S_nw, nar_1, nar_0, nar_01, b01_t0, b01_f0, b01_t1, b01_f1, ne_sn, eq_sn, sn_inj, o1, p0, p1, p2, cj, K.1, K.2.2.1, Kn.1, Kn.2.2.1]
            · by_cases e : b = j
              · subst e; exact c2
              · exact hbest b (by omega) h0 hr
          · have eb : b_F_newestReadable_4 F (ck ca n) (nI j) h = some (.inl (bif bb then some (ca (g j).1) else ck ca n, nI (j + 1), h)) := by
              rw [← e]
              unfold b_F_newestReadable_4
              rw [ck_s cn0]
              simp (disch := omega) only [gd_T, dr_S, nm_v, cl_S, cv_S, bd_S, lk_L, lk_R, zbw_b, isK_e, isPg_3, isPg_4, isPg_6, asV_n, beq_self_eq_true, inb_N, inb_0, le_T, le_F, lt_T, lt_F, eq_F, le_0T, lt_0F, le_0F, eq_0F, nI_1, nI_add, pk_mul, nI_clamp, cl_0, if_true, if_false, of_nI, T_wI, L_wI, R_wI, N_wI, S_wI, T_wR, L_wR, I_wR, N_wR, S_wR, I_same, R_same, I_wIn, I_wIk, R_wRn, R_wRk, T_nwo, T_nwn, L_nwo, L_nwn, I_nwo, I_nwn, R_nwo, R_nwn, N_nw, S_nw, nar_1, nar_0, nar_01, b01_t0, b01_f0, b01_t1, b01_f1, ne_sn, eq_sn, sn_inj, o1, p0, p1, p2, cj, K.1, K.2.2.1, Kn.1, Kn.2.2.1]
            refine ⟨_, eb, bif bb then (g j).1 else n, ?_, ?_⟩
            · cases bb
              · rfl
              · show (some (ca (g j).1), _, _) = (ck ca (g j).1, _, _)
                rw [ck_s c]
            · exact upd _ (fun z => by rw [z]; rfl) (fun z => by rw [z]; rfl) (Or.inl (by omega))
    · obtain ⟨n, rfl, hn, hbest⟩ := hs
      refine ⟨(ck ca n, h), ?_, n, rfl, hn, hbest⟩
      show b_F_newestReadable_4 F (ck ca n) (nI 32) h = _
      unfold b_F_newestReadable_4
      simp (disch := omega) only [gd_T, dr_S, nm_v, cl_S, cv_S, bd_S, lk_L, lk_R, zbw_b, isK_e, isPg_3, isPg_4, isPg_6, asV_n, beq_self_eq_true, inb_N, inb_0, le_T, le_F, lt_T, lt_F, eq_F, le_0T, lt_0F, le_0F, eq_0F, nI_1, nI_add, pk_mul, nI_clamp, cl_0, if_true, if_false, of_nI, T_wI, L_wI, R_wI, N_wI, S_wI, T_wR, L_wR, I_wR, N_wR, S_wR, I_same, R_same, I_wIn, I_wIk, R_wRn, R_wRk, T_nwo, T_nwn, L_nwo, L_nwn, I_nwo, I_nwn, R_nwo, R_nwn, N_nw, S_nw, nar_1, nar_0, nar_01, b01_t0, b01_f0, b01_t1, b01_f1, ne_sn, eq_sn, sn_inj]
  obtain ⟨r, e, n, rfl, hn, hbest⟩ := key
  refine ⟨n, ⟨hn, fun id z1 z2 z3 => ?_⟩, ?_⟩
  · have i1 : 1 ≤ id := by omega
    obtain ⟨n1, n2, n3⟩ := S.2.1 id i1 z2
    have w := z3.1 0 (by unfold nbk; omega)
    have := hbest (fs id + 0) (by omega) (by rw [w]; show id ≠ 0; omega) (by rw [w]; exact z3)
    rw [w] at this
    dsimp only at this
    omega
  · unfold f_F_newestReadable
    rw [bd_s e]

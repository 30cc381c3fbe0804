/-! rollback -/
def rbL (s : Ab) (t : Vt) : List Pg := [cpg s.st t.2.2 t.1]
def rbV (s : Ab) (i : Nat) (t : Vt) : List Vt := s.vers.take i ++ [(t.1, t.2.1, 32 * s.nxt)]
def sRoll (s : Ab) (i : Nat) (t : Vt) (f : Nat) : Ab := sWrite s (rbL s t) f (rbV s i t) t.1 (nNow (stN s.st s.nxt (rbL s t)) (32 * s.nxt))
theorem Ivt.bmt {s : Ab} {base gen : Nat} (I : Ivt s base gen) {t : Vt} (ht : t ∈ s.vers) : BmL s.st s.np s.vers s.nxt t.2.2 := fun h0 => by
  obtain ⟨v, k2⟩ := I.2.2.2.2.2.1.2.2.2.2 t ht h0
  exact ⟨v, k2, fun k hk => lvb_t.mpr ⟨t, ht, h0, hk⟩⟩
theorem Ivt.roll {s : Ab} {base gen f i : Nat} {t : Vt} (I : Ivt s base gen) (ht : s.vers[i]? = some t) (hf : RW s.free 1 (some f)) (hn : s.nxt + 1 < 2 ^ 14) : Ivt (sRoll s i t f) base gen := by
  have i5 := I.2.2.2.2.2.1
  obtain ⟨q1, q2, q3⟩ := i5.to
  have tm := List.mem_of_getElem? ht
  have tb := q2 t tm
  have n1 := I.2.1
  have tk : ∀ u ∈ s.vers.take i, u ∈ s.vers := fun u hu => List.mem_of_mem_take hu
  have lt : ∀ u ∈ s.vers.take i, u.1 < t.1 := fun u hu => by
    obtain ⟨j, hj⟩ := List.getElem?_of_mem hu
    have jl := (List.getElem?_eq_some_iff.mp hj).1
    rw [List.length_take] at jl
    rw [List.getElem?_take, if_pos (by omega)] at hj
    exact i5.1.1 j i u t hj ht (by omega)
  refine I.write _ (p := t.2.1) (by show 1 ≤ 1; omega) (by show 1 ≤ 21; omega) (by show f + (1 + 1) / 2 ≤ 32; have := hf.1; omega) (fun b h1 h2 => hf.2.1 b h1 (by have h2' : b < f + (1 + 1) / 2 := h2; omega)) hn (cpg_ok I.1 (I.bmt tm) tb.1) ?_ (fun u hu => ?_) ?_ ?_ (fun u hu => ?_)
  · rw [rbV, List.pairwise_append]
    refine ⟨q1.sublist (List.take_sublist _ _), List.pairwise_singleton _ _, fun a ha b hb => ?_⟩
    rw [List.mem_singleton] at hb
    rw [hb]; exact lt a ha
  · unfold rbV at hu
    rcases List.mem_append.mp hu with z | z
    · exact q2 u (tk u z)
    · rw [List.mem_singleton] at z
      rw [z]
      exact ⟨tb.1, tb.2.1, by show 32 * s.nxt < 2 ^ 20; omega⟩
  · rw [rbV, List.pairwise_append]
    refine ⟨q3.sublist (List.take_sublist _ _), List.pairwise_singleton _ _, fun a ha b hb => ?_⟩
    rw [List.mem_singleton] at hb
    rw [hb]
    show a.2.2 < 32 * s.nxt
    by_cases c : a.2.2 = 0
    · omega
    · have := (i5.2.2.2.2 a (tk a ha) c).1.2.1
      omega
  · unfold rbV
    rw [List.getLast?_append]
    rfl
  · unfold rbV at hu
    rcases List.mem_append.mp hu with z | z
    · exact Or.inr ⟨u, tk u z, rfl⟩
    · rw [List.mem_singleton] at z
      rw [z]; exact Or.inl rfl
theorem m_copyL {h : Hp} {y i : Nat} {A : Nat → Nat} {w : Nat → Nat} {y1 y2 y3 y4 q5 : Int32} (M : MOK h y A) (hi : i < 160) (hq : (q5 = -1 ∧ ∀ j, j < 4 → w j = 0) ∨ ∃ t, t < 160 ∧ t ≠ i ∧ q5 = nI t ∧ ∀ j, j < 4 → hpI h (A 11) (4 * t + j) = nI (w j)) :
    ∃ h', l_M_rollback_73 y y1 y2 y3 y4 q5 (nI i) ((0 : Int32), h) = some h' ∧ (MOK h' y A ∧ Only [A 11] h h' ∧ (∀ z, z < 4 * i ∨ 4 * i + 4 ≤ z → hpI h' (A 11) z = hpI h (A 11) z) ∧ (∀ j, j < 4 → hpI h' (A 11) (4 * i + j) = nI (w j)) ∧ hpN h' = hpN h ∧ hpS h' = hpS h) := by
  refine lp_up (b := fun s => b_M_rollback_73 y y1 y2 y3 y4 q5 (nI i) s.1 s.2) (fun j s => s.1 = nI j ∧ MOK s.2 y A ∧ Only [A 11] h s.2 ∧ (∀ z, z < 4 * i ∨ 4 * i + 4 ≤ z → hpI s.2 (A 11) z = hpI h (A 11) z) ∧ (∀ z, z < j → hpI s.2 (A 11) (4 * i + z) = nI (w z)) ∧ hpN s.2 = hpN h ∧ hpS s.2 = hpS h) _ 4 (by decide) ⟨rfl, M, Only.refl _ _, fun _ _ => rfl, fun z hz => absurd hz (Nat.not_lt_zero _), rfl, rfl⟩ (fun j s hj hs => Or.inl ?_) (fun s hs => ⟨s.2, ?_, hs.2⟩)
  · obtain ⟨a, r⟩ := s
    obtain ⟨b1, b2, b3, b4, b5, b6⟩ := hs
    dsimp only at b1 b2 b3 b4 b5 b6
    subst b1
    refine ⟨(nI (j + 1), wI r (A 11) (4 * i + j) (nI (w j))), ?_, rfl, b2, b3.wI (Or.inr (by simp)), fun z hz => ?_, fun z hz => ?_, b6⟩
    · show b_M_rollback_73 y y1 y2 y3 y4 q5 (nI i) (nI j) r = _
      unfold b_M_rollback_73
      rcases hq with ⟨q1, q2⟩ | ⟨t, t1, t2, t3, t4⟩
      · rw [q1, q2 j hj]
        simp (disch := omega) only [gd_T, dr_S, nm_v, cl_S, cv_S, bd_S, lk_L, lk_R, zbw_b, isK_e, isPg_3, isPg_4, isPg_6, asV_n, beq_self_eq_true, inb_N, inb_0, le_T, le_F, lt_T, lt_F, eq_F, le_0T, lt_0F, le_0F, eq_0F, nI_1, nI_add, pk_mul, nI_clamp, cl_0, if_true, if_false, of_nI, T_wI, L_wI, R_wI, N_wI, S_wI, T_wR, L_wR, I_wR, N_wR, S_wR, I_same, R_same, I_wIn, I_wIk, R_wRn, R_wRk, T_nwo, T_nwn, L_nwo, L_nwn, I_nwo, I_nwn, R_nwo, R_nwn, N_nw, S_nw, nar_1, nar_0, nar_01, b01_t0, b01_f0, b01_t1, b01_f1, ne_sn, eq_sn, sn_inj, b2.1, b2.a11.1, b2.a11.2.1, b2.a11.2.2.1, le_m1]
        rfl
      · have e : hpI r (A 11) (4 * t + j) = nI (w j) := by rw [b4 _ (by omega)]; exact t4 j hj
        rw [t3]
        simp (disch := omega) only [gd_T, dr_S, nm_v, cl_S, cv_S, bd_S, lk_L, lk_R, zbw_b, isK_e, isPg_3, isPg_4, isPg_6, asV_n, beq_self_eq_true, inb_N, inb_0, le_T, le_F, lt_T, lt_F, eq_F, le_0T, lt_0F, le_0F, eq_0F, nI_1, nI_add, pk_mul, nI_clamp, cl_0, if_true, if_false, of_nI, T_wI, L_wI, R_wI, N_wI, S_wI, T_wR, L_wR, I_wR, N_wR, S_wR, I_same, R_same, I_wIn, I_wIk, R_wRn, R_wRk, T_nwo, T_nwn, L_nwo, L_nwn, I_nwo, I_nwn, R_nwo, R_nwn, N_nw, S_nw, nar_1, nar_0, nar_01, b01_t0, b01_f0, b01_t1, b01_f1, ne_sn, eq_sn, sn_inj, b2.1, b2.a11.1, b2.a11.2.1, b2.a11.2.2.1, e]
    · dsimp only
      rw [I_wIk (by omega)]; exact b4 z hz
    · dsimp only
      by_cases c : z = j
      · subst c; exact I_same
      · rw [I_wIk (by omega)]; exact b5 z (by omega)
  · obtain ⟨a, r⟩ := s
    obtain ⟨b1, -⟩ := hs
    dsimp only at b1
    subst b1
    show b_M_rollback_73 y y1 y2 y3 y4 q5 (nI i) (nI 4) r = _
    unfold b_M_rollback_73
    simp (disch := omega) only [gd_T, dr_S, nm_v, cl_S, cv_S, bd_S, lk_L, lk_R, zbw_b, isK_e, isPg_3, isPg_4, isPg_6, asV_n, beq_self_eq_true, inb_N, inb_0, le_T, le_F, lt_T, lt_F, eq_F, le_0T, lt_0F, le_0F, eq_0F, nI_1, nI_add, pk_mul, nI_clamp, cl_0, if_true, if_false, of_nI, T_wI, L_wI, R_wI, N_wI, S_wI, T_wR, L_wR, I_wR, N_wR, S_wR, I_same, R_same, I_wIn, I_wIk, R_wRn, R_wRk, T_nwo, T_nwn, L_nwo, L_nwn, I_nwo, I_nwn, R_nwo, R_nwn, N_nw, S_nw, nar_1, nar_0, nar_01, b01_t0, b01_f0, b01_t1, b01_f1, ne_sn, eq_sn, sn_inj]
theorem m_rollS {h : Hp} {y : Nat} {A pid pat : Nat → Nat} {s : Ab} {base gen f i : Nat} {t : Vt} (Q : RM h y A pid pat s) (I : Ivt s base gen) (ht : s.vers[i]? = some t) (hf : RW s.free 1 (some f)) (hn : s.nxt + 1 < 2 ^ 14) (efd : f_M_find y (nI t.1) h = some (nI i, h)) :
    ∃ h' pid' pat', f_M_rollback y (nI t.1) h = some (nI s.nxt, h') ∧ RM h' y A pid' pat' (sVers (sRoll s i t f) (dVers (sRoll s i t f))) ∧ hpN h' = hpN h ∧ hpS h' = hpS h := by
  have I' := I.roll ht hf hn
  have S := I.1
  have M := Q.1
  obtain ⟨n1, n2, n3⟩ := Q.2.1
  obtain ⟨V, v1, v2, v3⟩ := Q.2.2.2.2.1
  have F := Q.2.2.1
  have P := Q.2.2.2.2.2.1
  have i5 := I.2.2.2.2.2.1
  have tm := List.mem_of_getElem? ht
  have tb := i5.to.2.1 t tm
  have l48 := V.2.1
  have il : i < s.vers.length := (List.getElem?_eq_some_iff.mp ht).1
  obtain ⟨o, rw1, er⟩ := m_room (n := 1) M F.2.2.1 (by omega) (by omega)
  have eo := rw1.uniq hf
  subst eo
  dsimp only at er
  obtain ⟨h1, e1, M1, G1, O1, m1, s1⟩ := m_purge M P.1 F.1 F.2.1
  have K1 := fr_M_purge (C := cT) (mi := 0) e1
  have P1 := P.purge M G1 O1
  obtain ⟨pid1, hpid1⟩ : ∃ pid1, pid1 = pgd s.cont s.sett pid pat := ⟨_, rfl⟩
  rw [← hpid1] at P1
  have tk1 : tk pid1 ≤ 128 := by rw [hpid1]; exact pgd_tk (by rw [← hpid1]; exact P1.2.2.1)
  have in1 : ∀ k, vk s.np s.nxt k → hdk s.cont s.fs k ∨ hdk s.sett s.fs k → inP pid1 pat k := fun k v hd => by
    rw [hpid1]; exact pgd_in S v (Q.2.2.2.2.2.2 k v hd) hd
  have sm1 : Sm h h1 y A [0, 1, 2, 3, 13, 14, 15, 16, 17, 18, 20, 21, 22, 23, 24, 27, 28, 29] [19, 25, 26, 30, 31, 32] := Sm.k M K1 (by decide) (by decide)
  have hb : t.2.2 ≠ 0 → vk s.np s.nxt t.2.2 ∧ kd s.st t.2.2 = 2 ∧ inR pid1 pat s.st t.2.2 := fun h0 => by
    obtain ⟨b1, b2, b3⟩ := I.bmt tm h0
    exact ⟨b1, b2, fun k hk => in1 k (S.rc b1 b2 hk).1 (Or.inl (I.2.2.2.2.2.2.1.1 k (b3 k hk)).2)⟩
  obtain ⟨q6, e6, hq6⟩ : ∃ q6, f_M_page y (nI t.2.2) h1 = some (q6, h1) ∧ ((q6 = -1 ∧ t.2.2 = 0) ∨ ∃ n, n < 160 ∧ pid1 n ≠ 0 ∧ ky pid1 pat n = t.2.2 ∧ q6 = nI n ∧ t.2.2 ≠ 0) := by
    by_cases c : t.2.2 = 0
    · rw [c]; exact ⟨-1, m_pg0 M1 P1.1, Or.inl ⟨rfl, rfl⟩⟩
    · obtain ⟨b1, b2, b3⟩ := hb c
      obtain ⟨n, u1, u2, u3, u4⟩ := m_pg M1 P1.1 (by have := S.lt b1; omega) b1.pos (b3 _ (rcb_t.mpr (Or.inl rfl)))
      exact ⟨nI n, u4, Or.inr ⟨n, u1, u3, u2, rfl, c⟩⟩
  -- the new page
  have Pn := PW.nil P1
  obtain ⟨ix, h2, a1, a2, a3, M2, X2, a6, a7, m2, s2⟩ := m_addP (w := 2) (m := 0) (n := t.1) M1 Pn (by omega) I.2.1 (by omega) (by decide)
  have K2 := fr_M_add (C := cT) (mi := 0) a1
  obtain ⟨h3, hh3⟩ : ∃ h3, h3 = wI h2 y 26 (nI (s.nxt + 1)) := ⟨_, rfl⟩
  have M3 : MOK h3 y A := by rw [hh3]; exact M2
  have sm3 : ∀ (J : List Nat) (T : List Nat), (∀ j ∈ J, 66 ≤ mk j) → (∀ t ∈ T, t ≠ 26) → Sm h2 h3 y A J T := fun J T a b => by rw [hh3]; exact Sm.wy M2 b a _ _
  have hq : (q6 = -1 ∧ ∀ j, j < 4 → (if t.2.2 = 0 then 0 else ld s.st t.2.2 j) = 0) ∨ ∃ n, n < 160 ∧ n ≠ ix ∧ q6 = nI n ∧ ∀ j, j < 4 → hpI h3 (A 11) (4 * n + j) = nI (if t.2.2 = 0 then 0 else ld s.st t.2.2 j) := by
    rcases hq6 with ⟨z1, z2⟩ | ⟨n, u1, u2, u3, u4, u5⟩
    · exact Or.inl ⟨z1, fun j _ => if_pos z2⟩
    · refine Or.inr ⟨n, u1, fun z => u2 (by rw [z]; exact a3), u4, fun j hj => ?_⟩
      have ne : n ≠ ix := fun z => u2 (by rw [z]; exact a3)
      rw [(sm3 [11] [] (by decide) (by decide)).1 11 (by decide), a7 _ (by omega), if_neg u5]
      have := (P1.2.2.2 n u1 u2).2.2.2.2.1 j hj
      rw [u3] at this; exact this
  obtain ⟨h4, e4, M4, O4, d4, d5, m4, s4⟩ := m_copyL (w := fun j => if t.2.2 = 0 then 0 else ld s.st t.2.2 j) (y1 := nI t.1) (y2 := nI i) (y3 := nI f) (y4 := nI s.nxt) M3 a2 hq
  have sm4 : ∀ (J T : List Nat), (∀ j ∈ J, 66 ≤ mk j ∧ j ≠ 11) → Sm h3 h4 y A J T := fun J T hJ => Sm.o M3 O4 (fun j hj => ⟨(hJ j hj).1, by
    simp only [List.mem_cons, List.not_mem_nil, or_false]
    exact M3.ne (hJ j hj).1 (by decide) (hJ j hj).2⟩) (by
    simp only [List.mem_cons, List.not_mem_nil, or_false]
    exact Ne.symm (M3.ny (by decide)))
  obtain ⟨pid5, hp5⟩ : ∃ pid5, pid5 = va_up pid1 ix s.nxt := ⟨_, rfl⟩
  obtain ⟨pat5, ha5⟩ : ∃ pat5, pat5 = va_up pat ix 0 := ⟨_, rfl⟩
  have X2' : PX h2 A pid5 pat5 s.st s.np s.nxt [] ix := by rw [hp5, ha5]; exact X2
  have s24 : ∀ (J T : List Nat), (∀ j ∈ J, 66 ≤ mk j ∧ j ≠ 11) → (∀ t ∈ T, t ≠ 26) → Sm h2 h4 y A J T := fun J T hJ hT => (sm3 J T (fun j hj => (hJ j hj).1) hT).trans (sm4 J T hJ)
  have X4 : PX h4 A pid5 pat5 s.st s.np s.nxt [] ix := X2'.ext (s24 _ _ (by decide) (by decide)) (fun n _ => by rw [(s24 [9] [] (by decide) (by decide)).1 9 (by decide)]) (fun n _ => by rw [(s24 [10] [] (by decide) (by decide)).1 10 (by decide)]) (fun z hz => by rw [d4 z hz, (sm3 [11] [] (by decide) (by decide)).1 11 (by decide)])
  have E4 : PE h4 A ix (cpg s.st t.2.2 t.1) := by
    refine ⟨?_, ?_, ?_, fun z hz => d5 z hz, fun x hx => ⟨?_, fun w hw => by cases hw⟩⟩
    · rw [(s24 [6] [] (by decide) (by decide)).1 6 (by decide)]; exact a6.1
    · rw [(s24 [7] [] (by decide) (by decide)).1 7 (by decide)]; exact a6.2.1
    · rw [(s24 [8] [] (by decide) (by decide)).1 8 (by decide)]; exact a6.2.2.1
    · rw [(s24 [9] [] (by decide) (by decide)).1 9 (by decide), a6.2.2.2.1, b_0]; rfl
  have P4 : PW h4 A pid5 pat5 s.st s.np s.nxt (rbL s t) := X4.done E4 (by decide) I.2.1
  have np5 : NP pid5 pat5 s.nxt 1 := by
    rw [hp5, ha5]
    exact NP.up (n := 0) (fun i hi => absurd hi (Nat.not_lt_zero _)) a2 a3 I.2.1
  have sty5 : Sty pid1 pat pid5 pat5 := by rw [hp5, ha5]; exact Sty.up a3
  have s14 : Sm h1 h4 y A [0, 1, 2, 3, 13, 14, 15, 16, 17, 18, 20, 21, 22, 23, 24, 27, 28, 29] [19, 25, 30, 31, 32] := (Sm.k M1 K2 (by decide) (by decide)).trans (s24 _ _ (by decide) (by decide))
  have s04 : Sm h h4 y A [0, 1, 2, 3, 13, 14, 15, 16, 17, 18, 20, 21, 22, 23, 24, 27, 28, 29] [19, 25, 30, 31, 32] := Sm.trans ⟨sm1.1, fun t ht => sm1.2 t (by simp only [List.mem_cons, List.not_mem_nil, or_false] at ht ⊢; omega)⟩ s14
  have sub4 : ∀ (J T : List Nat), (∀ j ∈ J, j ∈ ([0, 1, 2, 3, 13, 14, 15, 16, 17, 18, 20, 21, 22, 23, 24, 27, 28, 29] : List Nat)) → (∀ t ∈ T, t ∈ ([19, 25, 30, 31, 32] : List Nat)) → Sm h h4 y A J T := fun J T hJ hT => ⟨fun j hj => s04.1 j (hJ j hj), fun t ht => s04.2 t (hT t ht)⟩
  have V4 := V.exS (sub4 _ _ (by decide) (by decide))
  have F4 := F.ext (sub4 _ _ (by decide) (by decide))
  have C4 := Q.2.2.2.1.ext (sub4 _ _ (by decide) (by decide))
  have y32 : hpI h4 y 32 = nI s.hold := by rw [s04.2 32 (by decide)]; exact v2
  have y26 : hpI h4 y 26 = nI (s.nxt + 1) := by
    rw [(sm4 [] [26] (by decide)).2 26 (by decide), hh3]; exact I_same
  obtain ⟨h7, hh7⟩ : ∃ h7, h7 = wI (wI (wI h4 y 30 (nI (i + 1))) (A 29) i (nI (32 * s.nxt))) y 31 (nI t.1) := ⟨_, rfl⟩
  have M7 : MOK h7 y A := by rw [hh7]; exact M4
  have s7 : ∀ (J T : List Nat), (∀ j ∈ J, 66 ≤ mk j ∧ j ≠ 29) → (∀ t ∈ T, t ≠ 30 ∧ t ≠ 31) → Sm h4 h7 y A J T := fun J T hJ hT => by
    rw [hh7]
    exact ((Sm.wy M4 (fun t ht => (hT t ht).1) (fun j hj => (hJ j hj).1) _ _).trans (Sm.w M4 (by decide) (fun j hj => ⟨(hJ j hj).1, (hJ j hj).2⟩) _ _ _)).trans (Sm.wy M4 (fun t ht => (hT t ht).2) (fun j hj => (hJ j hj).1) _ _)
  have vl : (rbV s i t).length = i + 1 := by unfold rbV; rw [List.length_append, List.length_take]; show min i _ + 1 = _; omega
  have V7 : MV h7 y A (rbV s i t) := by
    rw [hh7]
    refine ⟨?_, by rw [vl]; omega, fun j u hu => ?_⟩
    · simp (disch := omega) only [gd_T, dr_S, nm_v, cl_S, cv_S, bd_S, lk_L, lk_R, zbw_b, isK_e, isPg_3, isPg_4, isPg_6, asV_n, beq_self_eq_true, inb_N, inb_0, le_T, le_F, lt_T, lt_F, eq_F, le_0T, lt_0F, le_0F, eq_0F, nI_1, nI_add, pk_mul, nI_clamp, cl_0, if_true, if_false, of_nI, T_wI, L_wI, R_wI, N_wI, S_wI, T_wR, L_wR, I_wR, N_wR, S_wR, I_same, R_same, I_wIn, I_wIk, R_wRn, R_wRk, T_nwo, T_nwn, L_nwo, L_nwn, I_nwo, I_nwn, R_nwo, R_nwn, N_nw, S_nw, nar_1, nar_0, nar_01, b01_t0, b01_f0, b01_t1, b01_f1, ne_sn, eq_sn, sn_inj, my_I M4 (i := 29) (by decide)]
      rw [vl]
    · unfold rbV at hu
      rcases appT_at hu with ⟨z1, z2⟩ | ⟨z1, z2⟩
      · rw [List.length_take] at z1
        have jn : j ≠ i := by omega
        rw [List.getElem?_take, if_pos (by omega)] at z2
        simp (disch := omega) only [gd_T, dr_S, nm_v, cl_S, cv_S, bd_S, lk_L, lk_R, zbw_b, isK_e, isPg_3, isPg_4, isPg_6, asV_n, beq_self_eq_true, inb_N, inb_0, le_T, le_F, lt_T, lt_F, eq_F, le_0T, lt_0F, le_0F, eq_0F, nI_1, nI_add, pk_mul, nI_clamp, cl_0, if_true, if_false, of_nI, T_wI, L_wI, R_wI, N_wI, S_wI, T_wR, L_wR, I_wR, N_wR, S_wR, I_same, R_same, I_wIn, I_wIk, R_wRn, R_wRk, T_nwo, T_nwn, L_nwo, L_nwn, I_nwo, I_nwn, R_nwo, R_nwn, N_nw, S_nw, nar_1, nar_0, nar_01, b01_t0, b01_f0, b01_t1, b01_f1, ne_sn, eq_sn, sn_inj, mo_I M4 (i := 29) (j := 27) (by decide) (by decide) (by decide), mo_I M4 (i := 29) (j := 28) (by decide) (by decide) (by decide), ym_I M4 (j := 27) (by decide), ym_I M4 (j := 28) (by decide), ym_I M4 (j := 29) (by decide)]
        exact V4.2.2 j u z2
      · rw [List.length_take] at z1
        have jn : j = i := by omega
        rw [jn, z2]
        simp (disch := omega) only [gd_T, dr_S, nm_v, cl_S, cv_S, bd_S, lk_L, lk_R, zbw_b, isK_e, isPg_3, isPg_4, isPg_6, asV_n, beq_self_eq_true, inb_N, inb_0, le_T, le_F, lt_T, lt_F, eq_F, le_0T, lt_0F, le_0F, eq_0F, nI_1, nI_add, pk_mul, nI_clamp, cl_0, if_true, if_false, of_nI, T_wI, L_wI, R_wI, N_wI, S_wI, T_wR, L_wR, I_wR, N_wR, S_wR, I_same, R_same, I_wIn, I_wIk, R_wRn, R_wRk, T_nwo, T_nwn, L_nwo, L_nwn, I_nwo, I_nwn, R_nwo, R_nwn, N_nw, S_nw, nar_1, nar_0, nar_01, b01_t0, b01_f0, b01_t1, b01_f1, ne_sn, eq_sn, sn_inj, mo_I M4 (i := 29) (j := 27) (by decide) (by decide) (by decide), mo_I M4 (i := 29) (j := 28) (by decide) (by decide) (by decide), ym_I M4 (j := 27) (by decide), ym_I M4 (j := 28) (by decide), ym_I M4 (j := 29) (by decide)]
        exact ⟨(V4.2.2 i t ht).1, (V4.2.2 i t ht).2.1, trivial⟩
  have P7 := P4.ext (y := y) (s7 _ _ (by decide) (by decide))
  have F7 := F4.ext (s7 _ _ (by decide) (by decide))
  have C7 := C4.ext (s7 _ _ (by decide) (by decide))
  have C7' : MC h7 y A s.chs (va_up s.fs s.nxt f) (va_up s.np s.nxt 1) (fun id => pwh (stN s.st s.nxt (rbL s t)) (mkk (va_up s.np s.nxt 1) id)) := C7.cg (fun id hid => by
    obtain ⟨c1, c2⟩ := I.2.2.2.1.1 id hid
    have em : mkk (va_up s.np s.nxt 1) id = mkk s.np id := by unfold mkk; rw [up_o (by omega)]
    refine ⟨(up_o (by omega)).symm, (up_o (by omega)).symm, ?_⟩
    rw [em]
    unfold pwh
    rw [stN_o (by have := (mkk_vk S c1 c2).2.2; omega)])
  have fsn : va_up s.fs s.nxt f s.nxt = f := up_n
  have npn : va_up s.np s.nxt 1 s.nxt = 1 := up_n
  have vrn : pwh (stN s.st s.nxt (rbL s t)) (mkk (va_up s.np s.nxt 1) s.nxt) = t.1 := by
    have : mkk (va_up s.np s.nxt 1) s.nxt = 32 * s.nxt + 0 := by unfold mkk; rw [npn]; omega
    rw [this]
    unfold pwh
    rw [stN_n (pg := cpg s.st t.2.2 t.1) (by omega) rfl]
    rfl
  have pl' : (s.pend ++ (List.range ((1 + 1) / 2)).map (f + ·)).length ≤ 32 := I'.pend_le
  rw [List.length_append, List.length_map, List.length_range] at pl'
  have cl' : (s.chs ++ [s.nxt]).length ≤ 32 := I'.chs_le
  rw [List.length_append, List.length_singleton] at cl'
  have hf1 := hf.1
  obtain ⟨h8, e8, M8, F8, C8, m8, s8⟩ := m_write (id := s.nxt) M7 F7 C7' (by omega) (by rw [fsn, npn]; omega) (by rw [npn]; omega) (by omega)
  have K8 := fr_M_write (C := cT) (mi := 0) e8
  have P8 := P7.ext (y := y) (Sm.k M7 K8 (by decide) (by decide))
  have V8 := V7.exS (Sm.k M7 K8 (by decide) (by decide))
  have S' := I'.1
  have Kv : vk (va_up s.np s.nxt 1) (s.nxt + 1) (32 * s.nxt) := ⟨by have := I.2.1; omega, by omega, by rw [show 32 * s.nxt / 32 = s.nxt by omega, up_n]; omega⟩
  have Kd : kd (stN s.st s.nxt (rbL s t)) (32 * s.nxt) = 2 := by
    unfold kd
    rw [show 32 * s.nxt = 32 * s.nxt + 0 by omega, stN_n (pg := cpg s.st t.2.2 t.1) (by omega) rfl]; rfl
  have WO := cpg_ok (vers := s.vers) S (I.bmt tm) tb.1
  have allin : ∀ k, (k / 32 = s.nxt ∧ k % 32 < 1) ∨ (vk s.np s.nxt k ∧ (hdk s.cont s.fs k ∨ hdk s.sett s.fs k)) → inP pid5 pat5 k := fun k hk => by
    rcases hk with ⟨z1, z2⟩ | ⟨z1, z2⟩
    · obtain ⟨n, u1, u2, u3⟩ := np5 (k % 32) z2
      exact ⟨n, u1, by rw [z1]; exact u2, u3⟩
    · exact (in1 k z1 z2).sty sty5 z1.pos
  have inK : inR pid5 pat5 (stN s.st s.nxt (rbL s t)) (32 * s.nxt) := fun k hk => by
    rcases WO.rc (Nat.le_refl 1) (by show 1 ≤ 21; omega) (by rw [show 32 * s.nxt + [cpg s.st t.2.2 t.1].length - 1 = 32 * s.nxt from rfl]; exact hk) with z | z
    · exact allin k (Or.inl z)
    · exact allin k (Or.inr ⟨I.lvk z, Or.inl (I.2.2.2.2.2.2.1.1 k z).2⟩)
  obtain ⟨h9, e9, M9, N9, T9, U9, m9, s9⟩ := m_load (k := 32 * s.nxt) M8 P8 S' (fun _ => ⟨Kv, Kd, inK⟩)
  have K9 := fr_M_load (C := cT) (mi := 0) e9
  have RM9 : RM h9 y A pid5 pat5 (sRoll s i t f) := by
    have z79 : Sm h7 h9 y A [] [31, 32, 26] := (Sm.k M7 K8 (by decide) (by decide)).trans (Sm.k M8 K9 (by decide) (by decide))
    refine ⟨M9, ⟨N9, T9, U9⟩, ?_, C8.ext (Sm.k M8 K9 (by decide) (by decide)), ⟨V8.exS (Sm.k M8 K9 (by decide) (by decide)), ?_, ?_, ?_⟩, P8.ext (y := y) (Sm.k M8 K9 (by decide) (by decide)), fun k hk hd => ?_⟩
    · have := F8.ext (Sm.k M8 K9 (by decide) (by decide))
      rw [fsn, npn] at this
      exact this
    · rw [z79.2 31 (by decide), hh7]; exact I_same
    · rw [z79.2 32 (by decide), (s7 [] [32] (by decide) (by decide)).2 32 (by decide)]; exact y32
    · rw [z79.2 26 (by decide), (s7 [] [26] (by decide) (by decide)).2 26 (by decide)]; exact y26
    · have hk' : vk (va_up s.np s.nxt 1) (s.nxt + 1) k := hk
      by_cases c : k / 32 = s.nxt
      · have v3 := hk'.2.2
        rw [c, up_n] at v3
        exact allin k (Or.inl ⟨c, v3⟩)
      · have v0 : vk s.np s.nxt k := ⟨hk'.1, by have := hk'.2.1; omega, by have := hk'.2.2; rwa [up_o c] at this⟩
        refine allin k (Or.inr ⟨v0, ?_⟩)
        rcases hd with z | z
        · left
          have z' : ups s.cont f ((1 + 1) / 2) (fun b => (s.nxt, b - f)) (va_up s.fs s.nxt f (k / 32) + k % 32 / 2) = (k / 32, k % 32 / 2) := z
          rw [up_o c] at z'
          unfold ups at z'
          unfold hdk
          by_cases u : f ≤ s.fs (k / 32) + k % 32 / 2 ∧ s.fs (k / 32) + k % 32 / 2 < f + (1 + 1) / 2
          · rw [if_pos u] at z'
            exact absurd (Prod.mk.inj z').1.symm c
          · rw [if_neg u] at z'; exact z'
        · right
          have z' : s.sett (va_up s.fs s.nxt f (k / 32) + k % 32 / 2) = (k / 32, k % 32 / 2) := z
          rw [up_o c] at z'
          exact z'
  obtain ⟨h10, e10, Q10, m10, s10⟩ := m_dropS RM9 I'.2.2.2.2.2.1
  refine ⟨h10, pid5, pat5, ?_, Q10, ?_, ?_⟩
  · have f0 : (0 : Int32) ≤ nI f := nI_le (a := 0) (Nat.zero_le _) (by omega)
    have i0 : (0 : Int32) ≤ nI i := nI_le (a := 0) (Nat.zero_le _) (by omega)
    have a29 : hpI h1 (A 29) i = nI t.2.2 := by rw [sm1.1 29 (by decide)]; exact (V.2.2 i t ht).2.2
    have y26a : hpI h1 y 26 = nI s.nxt := by rw [sm1.2 26 (by decide)]; exact v3
    have y26b : hpI h2 y 26 = nI s.nxt := by rw [(Sm.k (J := []) (T := [26]) M1 K2 (by decide) (by decide)).2 26 (by decide)]; exact y26a
    have e8' : f_M_write y (nI s.nxt) (nI f) (1 : Int32) (nI t.1) h7 = some h8 := by
      rw [fsn, npn, vrn] at e8; exact e8
    have a298 : hpI h8 (A 29) i = nI (32 * s.nxt) := by
      rw [(Sm.k (J := [29]) (T := []) M7 K8 (by decide) (by decide)).1 29 (by decide), hh7]
      simp (disch := omega) only [gd_T, dr_S, nm_v, cl_S, cv_S, bd_S, lk_L, lk_R, zbw_b, isK_e, isPg_3, isPg_4, isPg_6, asV_n, beq_self_eq_true, inb_N, inb_0, le_T, le_F, lt_T, lt_F, eq_F, le_0T, lt_0F, le_0F, eq_0F, nI_1, nI_add, pk_mul, nI_clamp, cl_0, if_true, if_false, of_nI, T_wI, L_wI, R_wI, N_wI, S_wI, T_wR, L_wR, I_wR, N_wR, S_wR, I_same, R_same, I_wIn, I_wIk, R_wRn, R_wRk, T_nwo, T_nwn, L_nwo, L_nwn, I_nwo, I_nwn, R_nwo, R_nwn, N_nw, S_nw, nar_1, nar_0, nar_01, b01_t0, b01_f0, b01_t1, b01_f1, ne_sn, eq_sn, sn_inj, ym_I M4 (j := 29) (by decide)]
    rw [hh3] at e4
    rw [hh7] at e8'
    unfold f_M_rollback
    rw [gd_t (isK_of M.1), cl_s efd, if_pos i0, gd_t (isK_of M.1), cl_s (show f_M_room y (1 : Int32) h = _ from er), if_pos f0, gd_t (isK_of M.1), cv_s e1, gd_t (isK_of M1.1), dr_s M1.a29.1, gd_t (isK_of M1.a29.2.1), gd_t (inb_n (by rw [M1.a29.2.2.1]; omega) (by rw [M1.a29.2.2.1]; decide)), nI_clamp (by omega), a29, cl_s e6, gd_t (isK_of M1.1), y26a, cl_s (show f_M_add y (nI s.nxt) (0 : Int32) (nI 2) (0 : Int32) (nI t.1) h1 = _ from a1), gd_t (isK_of M2.1), y26b, nI_s, nm_v, bd_s e4]
    simp (disch := omega) only [gd_T, dr_S, nm_v, cl_S, cv_S, bd_S, lk_L, lk_R, zbw_b, isK_e, isPg_3, isPg_4, isPg_6, asV_n, beq_self_eq_true, inb_N, inb_0, le_T, le_F, lt_T, lt_F, eq_F, le_0T, lt_0F, le_0F, eq_0F, nI_1, nI_add, pk_mul, nI_clamp, cl_0, if_true, if_false, of_nI, T_wI, L_wI, R_wI, N_wI, S_wI, T_wR, L_wR, I_wR, N_wR, S_wR, I_same, R_same, I_wIn, I_wIk, R_wRn, R_wRk, T_nwo, T_nwn, L_nwo, L_nwn, I_nwo, I_nwn, R_nwo, R_nwn, N_nw, S_nw, nar_1, nar_0, nar_01, b01_t0, b01_f0, b01_t1, b01_f1, ne_sn, eq_sn, sn_inj, M4.1, M4.a29.1, M4.a29.2.1, M4.a29.2.2.1, my_I M4 (i := 29) (by decide), e8', M8.1, M8.a29.1, M8.a29.2.1, M8.a29.2.2.1, a298, e9, M9.1, e10]
  · have z : hpN h7 = hpN h4 := by rw [hh7]; rfl
    have z2 : hpN h3 = hpN h2 := by rw [hh3]; rfl
    have z3 : hpN h10 = hpN h9 := m10
    omega
  · have z : hpS h7 = hpS h4 := by rw [hh7]; rfl
    have z2 : hpS h3 = hpS h2 := by rw [hh3]; rfl
    have z3 : hpS h10 = hpS h9 := s10
    omega

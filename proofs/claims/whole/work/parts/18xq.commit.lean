/-! commit, reference -/
theorem nI_s (n : Nat) : nI n + (1 : Int32) = nI (n + 1) := by rw [show (1 : Int32) = nI 1 from rfl, nI_add]
theorem Sm.o {L : List Nat} {h h' : Hp} {y : Nat} {A : Nat → Nat} {J T : List Nat} (M : MOK h y A) (O : Only L h h') (hJ : ∀ j ∈ J, 66 ≤ mk j ∧ A j ∉ L) (hy : y ∉ L) : Sm h h' y A J T := ⟨fun j hj => (O.2.2.2 (A j) (M.2.2 j (hJ j hj).1).2.2.2 (hJ j hj).2).1, fun t _ => by rw [(O.2.2.2 y M.2.1 hy).1]⟩
theorem appT_at {T : Type} {l : List T} {x a : T} {i : Nat} (h : (l ++ [x])[i]? = some a) : (i < l.length ∧ l[i]? = some a) ∨ (i = l.length ∧ a = x) := by
  rcases Nat.lt_or_ge i l.length with q | q
  · rw [List.getElem?_append_left q] at h; exact Or.inl ⟨q, h⟩
  · rw [List.getElem?_append_right q] at h
    rcases Nat.eq_zero_or_pos (i - l.length) with z | z
    · rw [z] at h; cases h; exact Or.inr ⟨by omega, rfl⟩
    · rw [List.getElem?_eq_none (by rw [List.length_singleton]; omega)] at h; cases h
theorem PR.purge {h h' : Hp} {y : Nat} {A : Nat → Nat} {pid pat : Nat → Nat} {st : Nat → Pg} {np : Nat → Nat} {nxt : Nat} {f g : Nat → Nat × Nat} (M : MOK h y A) (P : PR h A pid pat st np nxt) (G : PgR h' A (pgd f g pid pat) pat) (O : Only [A 4] h h') : PR h' A (pgd f g pid pat) pat st np nxt := by
  obtain ⟨P1, P2, P3, P4⟩ := P
  have e : ∀ i, pgd f g pid pat i ≠ 0 → pgd f g pid pat i = pid i ∧ pid i ≠ 0 := fun i hi => by
    unfold pgd at hi ⊢
    cases c : (decide (0 < pid i) && (hb f (pid i) (pat i / 2) || hb g (pid i) (pat i / 2))) with
    | true =>
      rw [c] at hi
      exact ⟨rfl, hi⟩
    | false => rw [c] at hi; exact absurd rfl hi
  refine ⟨G, P2, fun i j hi hj h0 e1 e2 => ?_, fun i hi h0 => ?_⟩
  · obtain ⟨a1, a2⟩ := e i h0
    obtain ⟨b1, b2⟩ := e j (by rw [← e1]; exact h0)
    exact P3 i j hi hj a2 (by rw [← a1, ← b1]; exact e1) e2
  · obtain ⟨a1, a2⟩ := e i h0
    have q := P4 i hi a2
    have ke : ky (pgd f g pid pat) pat i = ky pid pat i := by unfold ky; rw [a1]
    rw [ke]
    have o : ∀ j, 66 ≤ mk j → j ≠ 4 → hpI h' (A j) = hpI h (A j) := fun j h1 h2 => (O.at1 (M.2.2 j h1).2.2.2 (M.ne h1 (by decide) h2)).1
    rw [o 6 (by decide) (by decide), o 7 (by decide) (by decide), o 8 (by decide) (by decide), o 9 (by decide) (by decide), o 10 (by decide) (by decide), o 11 (by decide) (by decide)]
    exact q
theorem pgd_in {f g : Nat → Nat × Nat} {fs np : Nat → Nat} {nxt k : Nat} {pid pat : Nat → Nat} {st : Nat → Pg} (S : SW st fs np nxt) (v : vk np nxt k) (hi : inP pid pat k) (hd : hdk f fs k ∨ hdk g fs k) : inP (pgd f g pid pat) pat k := by
  obtain ⟨i, i1, i2, i3⟩ := hi
  refine ⟨i, i1, ?_, i3⟩
  unfold pgd
  have bl : fs (k / 32) + k % 32 / 2 < 32 := by
    have := (S.2.1 (k / 32) v.1 v.2.1).2.2
    have := v.2.2
    omega
  have h1 : (hb f (pid i) (pat i / 2) || hb g (pid i) (pat i / 2)) = true := by
    rw [Bool.or_eq_true, hb_t, hb_t, i2, i3]
    rcases hd with q | q
    · exact Or.inl ⟨_, bl, q⟩
    · exact Or.inr ⟨_, bl, q⟩
  rw [h1, decide_eq_true (show 0 < pid i by have := v.1; omega)]
  exact i2
theorem pgd_tk {f g : Nat → Nat × Nat} {pid pat : Nat → Nat} (h2 : ∀ i j, i < 160 → j < 160 → pgd f g pid pat i ≠ 0 → pgd f g pid pat i = pgd f g pid pat j → pat i = pat j → i = j) : tk (pgd f g pid pat) ≤ 128 := by
  refine tk_le (f := f) (g := g) (fun i hi h0 => ?_) h2
  unfold pgd at h0 ⊢
  cases c : (decide (0 < pid i) && (hb f (pid i) (pat i / 2) || hb g (pid i) (pat i / 2))) with
  | false => rw [c] at h0; exact absurd rfl h0
  | true =>
    rw [Bool.and_eq_true, Bool.or_eq_true] at c
    rcases c.2 with q | q
    · obtain ⟨b, b1, b2⟩ := hb_t.mp q
      exact ⟨b, b1, Or.inl b2⟩
    · obtain ⟨b, b1, b2⟩ := hb_t.mp q
      exact ⟨b, b1, Or.inr b2⟩
theorem MC.cg {h : Hp} {y : Nat} {A : Nat → Nat} {chs : List Nat} {fs np vr fs' np' vr' : Nat → Nat} (C : MC h y A chs fs np vr) (e : ∀ id ∈ chs, fs id = fs' id ∧ np id = np' id ∧ vr id = vr' id) : MC h y A chs fs' np' vr' := by
  obtain ⟨c1, c2, c3⟩ := C
  refine ⟨c1, c2, fun i id hi => ?_⟩
  obtain ⟨e1, e2, e3⟩ := e id (List.mem_of_getElem? hi)
  rw [← e1, ← e2, ← e3]; exact c3 i id hi
theorem m_metaL {h : Hp} {y i : Nat} {A : Nat → Nat} {w : Nat → Nat} {y2 y3 y4 y5 : Int32} (M : MOK h y A) (hi : i < 160) (h33 : ∀ j, j < 4 → hpI h (A 33) j = nI (w j)) :
    ∃ h', l_M_commit_198 y y2 y3 y4 y5 (nI i) ((0 : Int32), h) = some h' ∧ (MOK h' y A ∧ Only [A 11] h h' ∧ (∀ z, z < 4 * i ∨ 4 * i + 4 ≤ z → hpI h' (A 11) z = hpI h (A 11) z) ∧ (∀ j, j < 4 → hpI h' (A 11) (4 * i + j) = nI (w j)) ∧ hpN h' = hpN h ∧ hpS h' = hpS h) := by
  refine lp_up (b := fun s => b_M_commit_198 y y2 y3 y4 y5 (nI i) s.1 s.2) (fun j s => s.1 = nI j ∧ MOK s.2 y A ∧ Only [A 11] h s.2 ∧ (∀ z, z < 4 * i ∨ 4 * i + 4 ≤ z → hpI s.2 (A 11) z = hpI h (A 11) z) ∧ (∀ z, z < j → hpI s.2 (A 11) (4 * i + z) = nI (w z)) ∧ hpN s.2 = hpN h ∧ hpS s.2 = hpS h) _ 4 (by decide) ⟨rfl, M, Only.refl _ _, fun _ _ => rfl, fun z hz => absurd hz (Nat.not_lt_zero _), rfl, rfl⟩ (fun j s hj hs => Or.inl ?_) (fun s hs => ⟨s.2, ?_, hs.2⟩)
  · obtain ⟨a, r⟩ := s
    obtain ⟨b1, b2, b3, b4, b5, b6⟩ := hs
    dsimp only at b1 b2 b3 b4 b5 b6
    subst b1
    have e33 : hpI r (A 33) j = nI (w j) := by rw [(b3.at1 M.a33.2.2.2 (M.ne (by decide) (by decide) (by decide))).1]; exact h33 j hj
    refine ⟨(nI (j + 1), wI r (A 11) (4 * i + j) (nI (w j))), ?_, rfl, b2, b3.wI (Or.inr (by simp)), fun z hz => ?_, fun z hz => ?_, b6⟩
    · show b_M_commit_198 y y2 y3 y4 y5 (nI i) (nI j) r = _
      unfold b_M_commit_198
      simp (disch := omega) only [gd_T, dr_S, nm_v, cl_S, cv_S, bd_S, lk_L, lk_R, zbw_b, isK_e, isPg_3, isPg_4, isPg_6, asV_n, beq_self_eq_true, inb_N, inb_0, le_T, le_F, lt_T, lt_F, eq_F, le_0T, lt_0F, le_0F, eq_0F, nI_1, nI_add, pk_mul, nI_clamp, cl_0, if_true, if_false, of_nI, T_wI, L_wI, R_wI, N_wI, S_wI, T_wR, L_wR, I_wR, N_wR, S_wR, I_same, R_same, I_wIn, I_wIk, R_wRn, R_wRk, T_nwo, T_nwn, L_nwo, L_nwn, I_nwo, I_nwn, R_nwo, R_nwn, N_nw, S_nw, nar_1, nar_0, nar_01, b01_t0, b01_f0, b01_t1, b01_f1, ne_sn, eq_sn, sn_inj, b2.1, b2.a11.1, b2.a11.2.1, b2.a11.2.2.1, b2.a33.1, b2.a33.2.1, b2.a33.2.2.1, e33]
    · dsimp only
      rw [I_wIk (by omega)]; exact b4 z hz
    · dsimp only
      by_cases c : z = j
      · subst c; exact I_same
      · rw [I_wIk (by omega)]; exact b5 z (by omega)
  · obtain ⟨a, r⟩ := s
    obtain ⟨b1, -⟩ := hs
    dsimp only at b1
    subst b1
    show b_M_commit_198 y y2 y3 y4 y5 (nI i) (nI 4) r = _
    unfold b_M_commit_198
    simp (disch := omega) only [gd_T, dr_S, nm_v, cl_S, cv_S, bd_S, lk_L, lk_R, zbw_b, isK_e, isPg_3, isPg_4, isPg_6, asV_n, beq_self_eq_true, inb_N, inb_0, le_T, le_F, lt_T, lt_F, eq_F, le_0T, lt_0F, le_0F, eq_0F, nI_1, nI_add, pk_mul, nI_clamp, cl_0, if_true, if_false, of_nI, T_wI, L_wI, R_wI, N_wI, S_wI, T_wR, L_wR, I_wR, N_wR, S_wR, I_same, R_same, I_wIn, I_wIk, R_wRn, R_wRk, T_nwo, T_nwn, L_nwo, L_nwn, I_nwo, I_nwn, R_nwo, R_nwn, N_nw, S_nw, nar_1, nar_0, nar_01, b01_t0, b01_f0, b01_t1, b01_f1, ne_sn, eq_sn, sn_inj]
theorem NP.sty {pid pat pid' pat' : Nat → Nat} {id n : Nat} (h : NP pid pat id n) (s : Sty pid pat pid' pat') (hid : 1 ≤ id) : NP pid' pat' id n := fun i hi => by
  obtain ⟨t, t1, t2, t3⟩ := h i hi
  obtain ⟨u1, u2⟩ := s t t1 (by omega)
  exact ⟨t, t1, by rw [u1]; exact t2, by rw [u2]; exact t3⟩
theorem inP.sty {pid pat pid' pat' : Nat → Nat} {k : Nat} (h : inP pid pat k) (s : Sty pid pat pid' pat') (hk : 32 ≤ k) : inP pid' pat' k := by
  obtain ⟨t, t1, t2, t3⟩ := h
  obtain ⟨u1, u2⟩ := s t t1 (by omega)
  exact ⟨t, t1, by rw [u1]; exact t2, by rw [u2]; exact t3⟩
/-- the last version, in the reference -/
theorem m_last {h : Hp} {y : Nat} {A pid pat : Nat → Nat} {s : Ab} (Q : RM h y A pid pat s) (i5 : I5 s) : ∃ i t, s.vers[i]? = some t ∧ t.1 = s.lat ∧ t.2.2 = lmk s.vers ∧ i + 1 = s.vers.length ∧ f_M_find y (nI s.lat) h = some (nI i, h) := by
  obtain ⟨t, ht, te⟩ := i5.2.2.1
  have lm : t.2.2 = lmk s.vers := by unfold lmk; rw [ht]; rfl
  rw [List.getLast?_eq_getElem?] at ht
  have il : s.vers.length - 1 < s.vers.length := (List.getElem?_eq_some_iff.mp ht).1
  obtain ⟨o, f, e⟩ := m_find (v := nI s.lat) Q.1 Q.2.2.2.2.1.1
  have lb : s.lat < 2 ^ 20 := by rw [← te]; exact (i5.to.2.1 t (List.mem_of_getElem? ht)).1
  have : o = some (s.vers.length - 1) := by
    refine f.uniq (Or.inr ⟨_, t, rfl, ht, by rw [te], fun j u hj hu z => ?_⟩)
    have a := i5.1.1 j _ u t hu ht hj
    have b := (i5.to.2.1 u (List.mem_of_getElem? hu)).1
    have := (nI_eq (by omega) (by omega)).mp z
    omega
  subst this
  exact ⟨_, t, ht, te, lm, by omega, e⟩
def cmL (s : Ab) : List Pg := wal s.now s.tl s.tm s.st (lmk s.vers) s.nxt (s.lat + 1)
def cmV (s : Ab) : List Vt := s.vers ++ [(s.lat + 1, 0, 32 * s.nxt + (cmL s).length - 1)]
def sCommit (s : Ab) (f : Nat) : Ab := sWrite s (cmL s) f (cmV s) (s.lat + 1) s.now
theorem Ivt.bm {s : Ab} {base gen : Nat} (I : Ivt s base gen) : BmL s.st s.np s.vers s.nxt (lmk s.vers) := fun h0 => by
  obtain ⟨t, t1, t2⟩ := lmk_mem I.2.2.2.2.2.1 h0
  have h0' : t.2.2 ≠ 0 := by rw [t2]; exact h0
  obtain ⟨v, k2⟩ := I.2.2.2.2.2.1.2.2.2.2 t t1 h0'
  rw [← t2]
  exact ⟨v, k2, fun k hk => lvb_t.mpr ⟨t, t1, h0', hk⟩⟩
theorem Ivt.commit {s : Ab} {base gen f : Nat} (I : Ivt s base gen) (hf : RW s.free ((pw s.now s.tl s.tm + 1) / 2) (some f)) (hn : s.nxt + 1 < 2 ^ 14) (hl : s.lat + 1 < 2 ^ 20) : Ivt (sCommit s f) base gen := by
  have len : (cmL s).length = pw s.now s.tl s.tm := wal_len _ _ _ _ _ _ _
  have p21 := pw_le s.now s.tl s.tm
  have p1 : 1 ≤ pw s.now s.tl s.tm := by unfold pw; omega
  have i5 := I.2.2.2.2.2.1
  obtain ⟨q1, q2, q3⟩ := i5.to
  obtain ⟨t, ht, te⟩ := i5.2.2.1
  have lastle : ∀ u ∈ s.vers, u.1 ≤ s.lat := fun u hu => by
    rw [List.getLast?_eq_getElem?] at ht
    obtain ⟨i, hi⟩ := List.getElem?_of_mem hu
    have il := (List.getElem?_eq_some_iff.mp hi).1
    by_cases c : i = s.vers.length - 1
    · rw [c, ht] at hi; cases hi; omega
    · have := i5.1.1 i _ u t hi ht (by omega)
      omega
  refine I.write s.now (p := 0) (by omega) (by omega) (by rw [len]; exact hf.1) (fun b h1 h2 => hf.2.1 b h1 (by rw [len] at h2; exact h2)) hn (wal_ok I.1 I.bm hl) ?_ (fun u hu => ?_) ?_ ?_ (fun u hu => ?_)
  · rw [cmV, List.pairwise_append]
    refine ⟨q1, List.pairwise_singleton _ _, fun a ha b hb => ?_⟩
    rw [List.mem_singleton] at hb
    rw [hb]
    have := lastle a ha
    show a.1 < s.lat + 1
    omega
  · unfold cmV at hu
    rcases List.mem_append.mp hu with z | z
    · exact q2 u z
    · rw [List.mem_singleton] at z
      rw [z, len]
      exact ⟨hl, Nat.zero_le _, by show 32 * s.nxt + pw s.now s.tl s.tm - 1 < 2 ^ 20; omega⟩
  · rw [cmV, List.pairwise_append]
    refine ⟨q3, List.pairwise_singleton _ _, fun a ha b hb => ?_⟩
    rw [List.mem_singleton] at hb
    rw [hb]
    show a.2.2 < 32 * s.nxt + (cmL s).length - 1
    by_cases c : a.2.2 = 0
    · have := I.2.1
      omega
    · have := (i5.2.2.2.2 a ha c).1.2.1
      have := I.2.1
      omega
  · unfold cmV
    rw [List.getLast?_append]; rfl
  · unfold cmV at hu
    rcases List.mem_append.mp hu with z | z
    · exact Or.inr ⟨u, z, rfl⟩
    · rw [List.mem_singleton] at z
      rw [z]; exact Or.inl rfl
theorem m_commitS {h : Hp} {y : Nat} {A pid pat : Nat → Nat} {s : Ab} {base gen f : Nat} (Q : RM h y A pid pat s) (I : Ivt s base gen) (ht : tcd s.tl s.tm = true) (hf : RW s.free ((pw s.now s.tl s.tm + 1) / 2) (some f)) (hn : s.nxt + 1 < 2 ^ 14) (hl : s.lat + 1 < 2 ^ 20) :
    ∃ h' pid' pat', f_M_commit y h = some (nI (s.lat + 1), h') ∧ RM h' y A pid' pat' (sVers (sCommit s f) (dVers (sCommit s f))) ∧ hpN h' = hpN h ∧ hpS h' = hpS h := by
  have I' := I.commit hf hn hl
  have len : (cmL s).length = pw s.now s.tl s.tm := wal_len _ _ _ _ _ _ _
  have p21 := pw_le s.now s.tl s.tm
  have p1 : 1 ≤ pw s.now s.tl s.tm := by unfold pw; omega
  have S := I.1
  have M := Q.1
  obtain ⟨n1, n2, n3⟩ := Q.2.1
  obtain ⟨V, v1, v2, v3⟩ := Q.2.2.2.2.1
  have F := Q.2.2.1
  have P := Q.2.2.2.2.2.1
  have i5 := I.2.2.2.2.2.1
  have e0 := m_any M n2 n3
  rw [ht] at e0
  have ep := m_pages M n1 n2 n3
  obtain ⟨o, rw1, er⟩ := m_room (n := (pw s.now s.tl s.tm + 1) / 2) M F.2.2.1 (by omega) (by omega)
  have eo := rw1.uniq hf
  subst eo
  dsimp only at er
  -- purge
  obtain ⟨h1, e1, M1, G1, O1, m1, s1⟩ := m_purge M P.1 F.1 F.2.1
  have K1 := fr_M_purge (C := cT) (mi := 0) e1
  have P1 := P.purge M G1 O1
  obtain ⟨pid1, hpid1⟩ : ∃ pid1, pid1 = pgd s.cont s.sett pid pat := ⟨_, rfl⟩
  rw [← hpid1] at P1
  have tk1 : tk pid1 ≤ 128 := by rw [hpid1]; exact pgd_tk (by rw [← hpid1]; exact P1.2.2.1)
  have in1 : ∀ k, vk s.np s.nxt k → hdk s.cont s.fs k ∨ hdk s.sett s.fs k → inP pid1 pat k := fun k v hd => by
    rw [hpid1]; exact pgd_in S v (Q.2.2.2.2.2.2 k v hd) hd
  have Q1 : RM h1 y A pid1 pat s := ⟨M1, ⟨n1.exS (y := y) (Sm.k M K1 (by decide) (by decide)), n2.exS (y := y) (Sm.k M K1 (by decide) (by decide)), n3.exS (y := y) (Sm.k M K1 (by decide) (by decide))⟩, F.ext (Sm.k M K1 (by decide) (by decide)), Q.2.2.2.1.ext (Sm.k M K1 (by decide) (by decide)), ⟨V.exS (Sm.k M K1 (by decide) (by decide)), by rw [(Sm.k (J := []) (T := [31]) M K1 (by decide) (by decide)).2 31 (by decide)]; exact v1, by rw [(Sm.k (J := []) (T := [32]) M K1 (by decide) (by decide)).2 32 (by decide)]; exact v2, by rw [(Sm.k (J := []) (T := [26]) M K1 (by decide) (by decide)).2 26 (by decide)]; exact v3⟩, P1, in1⟩
  -- the meta before
  obtain ⟨il, tl, ht1, ht2, ht3, ht4, ef⟩ := m_last Q1 i5
  have l48 := V.2.1
  have hb : lmk s.vers ≠ 0 → vk s.np s.nxt (lmk s.vers) ∧ kd s.st (lmk s.vers) = 2 ∧ inR pid1 pat s.st (lmk s.vers) := fun h0 => by
    obtain ⟨b1, b2, b3⟩ := I.bm h0
    exact ⟨b1, b2, fun k hk => in1 k (S.rc b1 b2 hk).1 (Or.inl (I.2.2.2.2.2.2.1.1 k (b3 k hk)).2)⟩
  obtain ⟨q6, e6, hq6⟩ : ∃ q6, f_M_page y (nI (lmk s.vers)) h1 = some (q6, h1) ∧ ((q6 = -1 ∧ lmk s.vers = 0) ∨ ∃ t, t < 160 ∧ pid1 t ≠ 0 ∧ ky pid1 pat t = lmk s.vers ∧ q6 = nI t ∧ lmk s.vers ≠ 0) := by
    by_cases c : lmk s.vers = 0
    · rw [c]; exact ⟨-1, m_pg0 M1 P1.1, Or.inl ⟨rfl, rfl⟩⟩
    · obtain ⟨b1, b2, b3⟩ := hb c
      obtain ⟨t, t1, t2, t3, t4⟩ := m_pg M1 P1.1 (by have := S.lt b1; omega) b1.pos (b3 _ (rcb_t.mpr (Or.inl rfl)))
      exact ⟨nI t, t4, Or.inr ⟨t, t1, t3, t2, rfl, c⟩⟩
  -- maps
  obtain ⟨h2, hh2⟩ : ∃ h2, h2 = wI h1 y 26 (nI (s.nxt + 1)) := ⟨_, rfl⟩
  have M2 : MOK h2 y A := by rw [hh2]; exact M1
  have sm2 : ∀ (J : List Nat) (T : List Nat), (∀ j ∈ J, 66 ≤ mk j) → (∀ t ∈ T, t ≠ 26) → Sm h1 h2 y A J T := fun J T a b => by rw [hh2]; exact Sm.wy M1 b a _ _
  have N2 := Q1.2.1.1.exS (y := y) (sm2 _ _ (by decide) (by decide))
  have T2 := Q1.2.1.2.1.exS (y := y) (sm2 _ _ (by decide) (by decide))
  have U2 := Q1.2.1.2.2.exS (y := y) (sm2 _ _ (by decide) (by decide))
  have P2 := P1.ext (y := y) (sm2 _ _ (by decide) (by decide))
  obtain ⟨r, e3, pid3, pat3, r1, M3, K3, P3, t3, ⟨sty3, np3⟩, l33, ⟨N3, T3, U3⟩, m3, s3⟩ := m_maps (y2 := nI (pw s.now s.tl s.tm)) (y3 := nI f) M2 N2 T2 U2 P2 S hb I.2.1 (by omega) hq6
  obtain ⟨r0, h3⟩ := r
  dsimp only at r1 M3 K3 P3 l33 N3 T3 U3 m3 s3
  subst r1
  have wl : (wms s.now s.tl s.tm s.st (lmk s.vers) s.nxt 4).length + 1 = pw s.now s.tl s.tm := by rw [wms_len]; unfold pw; omega
  have pweq : pw s.now s.tl s.tm = 1 + sm (pm s.now s.tl s.tm) 4 := rfl
  -- the meta
  obtain ⟨i, h4, a1, a2, a3, M4, X4, a6, a7, m4, s4⟩ := m_addP (w := 2) (m := 0) (n := s.lat + 1) M3 P3 (by omega) I.2.1 (by omega) (by omega)
  have K4 := fr_M_add (C := cT) (mi := 0) a1
  have l33' : ∀ j, j < 4 → hpI h4 (A 33) j = nI (wmk s.now s.tl s.tm s.st (lmk s.vers) s.nxt j (wms s.now s.tl s.tm s.st (lmk s.vers) s.nxt j)) := fun j hj => by
    rw [(Sm.k (J := [33]) (T := []) M3 K4 (by decide) (by decide)).1 33 (by decide)]; exact l33 j hj
  obtain ⟨h5, e5, M5, O5, d4, d5, m5, s5⟩ := m_metaL (y2 := nI (pw s.now s.tl s.tm)) (y3 := nI f) (y4 := nI s.nxt) (y5 := nI (wms s.now s.tl s.tm s.st (lmk s.vers) s.nxt 4).length) M4 a2 l33'
  have sm5 : ∀ (J T : List Nat), (∀ j ∈ J, 66 ≤ mk j ∧ j ≠ 11) → Sm h4 h5 y A J T := fun J T hJ => Sm.o M4 O5 (fun j hj => ⟨(hJ j hj).1, by
    simp only [List.mem_cons, List.not_mem_nil, or_false]
    exact M4.ne (hJ j hj).1 (by decide) (hJ j hj).2⟩) (by
    simp only [List.mem_cons, List.not_mem_nil, or_false]
    exact Ne.symm (M4.ny (by decide)))
  obtain ⟨W, hW⟩ : ∃ W, W = wms s.now s.tl s.tm s.st (lmk s.vers) s.nxt 4 := ⟨_, rfl⟩
  rw [← hW] at wl e3 P3 np3 a1 X4 e5
  obtain ⟨pid5, hp5⟩ : ∃ pid5, pid5 = va_up pid3 i s.nxt := ⟨_, rfl⟩
  obtain ⟨pat5, ha5⟩ : ∃ pat5, pat5 = va_up pat3 i W.length := ⟨_, rfl⟩
  rw [← hp5, ← ha5] at X4
  have X5 : PX h5 A pid5 pat5 s.st s.np s.nxt W i := X4.ext (sm5 _ _ (by decide)) (fun t _ => by rw [(sm5 [9] [] (by decide)).1 9 (by decide)]) (fun t _ => by rw [(sm5 [10] [] (by decide)).1 10 (by decide)]) d4
  have E5 : PE h5 A i (mpg s.now s.tl s.tm s.st (lmk s.vers) s.nxt (s.lat + 1)) := by
    refine ⟨?_, ?_, ?_, fun z hz => d5 z hz, fun x hx => ⟨?_, fun w hw => by cases hw⟩⟩
    · rw [(sm5 [6] [] (by decide)).1 6 (by decide)]; exact a6.1
    · rw [(sm5 [7] [] (by decide)).1 7 (by decide)]; exact a6.2.1
    · rw [(sm5 [8] [] (by decide)).1 8 (by decide)]; exact a6.2.2.1
    · rw [(sm5 [9] [] (by decide)).1 9 (by decide), a6.2.2.2.1, b_0]; rfl
  have P5 : PW h5 A pid5 pat5 s.st s.np s.nxt (cmL s) := by
    have := X5.done E5 (by omega) I.2.1
    unfold cmL wal
    rw [← hW]; exact this
  have cl5 : (cmL s).length = W.length + 1 := by rw [len]; omega
  have np5 : NP pid5 pat5 s.nxt (cmL s).length := by
    rw [cl5, hp5, ha5]; exact np3.up a2 a3 I.2.1
  have sty5 : Sty pid1 pat pid5 pat5 := by rw [hp5, ha5]; exact sty3.trans (Sty.up a3)
  -- what is as it was
  have s15 : Sm h1 h5 y A [0, 1, 2, 3, 13, 14, 15, 16, 17, 18, 20, 21, 22, 23, 24, 27, 28, 29] [19, 25, 30, 31, 32] := (((sm2 _ _ (by decide) (by decide)).trans (Sm.k M2 K3 (by decide) (by decide))).trans (Sm.k M3 K4 (by decide) (by decide))).trans (sm5 _ _ (by decide))
  have sub5 : ∀ (J T : List Nat), (∀ j ∈ J, j ∈ ([0, 1, 2, 3, 13, 14, 15, 16, 17, 18, 20, 21, 22, 23, 24, 27, 28, 29] : List Nat)) → (∀ t ∈ T, t ∈ ([19, 25, 30, 31, 32] : List Nat)) → Sm h1 h5 y A J T := fun J T hJ hT => ⟨fun j hj => s15.1 j (hJ j hj), fun t ht => s15.2 t (hT t ht)⟩
  have V5 := Q1.2.2.2.2.1.1.exS (sub5 _ _ (by decide) (by decide))
  have F5 := Q1.2.2.1.ext (sub5 _ _ (by decide) (by decide))
  have C5 := Q1.2.2.2.1.ext (sub5 _ _ (by decide) (by decide))
  have N5 := Q1.2.1.1.exS (y := y) (sub5 _ _ (by decide) (by decide))
  have y31 : hpI h5 y 31 = nI s.lat := by rw [s15.2 31 (by decide)]; exact Q1.2.2.2.2.1.2.1
  have y32 : hpI h5 y 32 = nI s.hold := by rw [s15.2 32 (by decide)]; exact Q1.2.2.2.2.1.2.2.1
  have y26 : hpI h5 y 26 = nI (s.nxt + 1) := by
    have z : Sm h2 h5 y A [] [26] := ((Sm.k M2 K3 (by decide) (by decide)).trans (Sm.k M3 K4 (by decide) (by decide))).trans (sm5 _ _ (by decide))
    rw [z.2 26 (by decide), hh2]; exact I_same
  -- the new version
  obtain ⟨n, hn0⟩ : ∃ n, n = s.vers.length := ⟨_, rfl⟩
  obtain ⟨h10, hh10⟩ : ∃ h10, h10 = wI (wI (wI (wI (wI h5 y 31 (nI (s.lat + 1))) (A 27) n (nI (s.lat + 1))) (A 28) n 0) (A 29) n (nI (32 * s.nxt + W.length))) y 30 (nI (n + 1)) := ⟨_, rfl⟩
  have M10 : MOK h10 y A := by rw [hh10]; exact M5
  have s10 : ∀ (J T : List Nat), (∀ j ∈ J, 66 ≤ mk j ∧ j ≠ 27 ∧ j ≠ 28 ∧ j ≠ 29) → (∀ t ∈ T, t ≠ 30 ∧ t ≠ 31) → Sm h5 h10 y A J T := fun J T hJ hT => by
    rw [hh10]
    exact ((((Sm.wy M5 (fun t ht => (hT t ht).2) (fun j hj => (hJ j hj).1) _ _).trans (Sm.w M5 (by decide) (fun j hj => ⟨(hJ j hj).1, (hJ j hj).2.1⟩) _ _ _)).trans (Sm.w M5 (by decide) (fun j hj => ⟨(hJ j hj).1, (hJ j hj).2.2.1⟩) _ _ _)).trans (Sm.w M5 (by decide) (fun j hj => ⟨(hJ j hj).1, (hJ j hj).2.2.2⟩) _ _ _)).trans (Sm.wy M5 (fun t ht => (hT t ht).1) (fun j hj => (hJ j hj).1) _ _)
  have v33 := I'.vers_le
  have vl : (cmV s).length = n + 1 := by unfold cmV; rw [List.length_append, hn0]; rfl
  have V10 : MV h10 y A (cmV s) := by
    rw [hh10]
    refine ⟨by rw [I_same, vl], by rw [vl]; have : (cmV s).length ≤ 33 := v33; omega, fun j u hu => ?_⟩
    unfold cmV at hu
    rcases appT_at hu with ⟨z1, z2⟩ | ⟨z1, z2⟩
    · have jn : j ≠ n := by omega
      simp (disch := omega) only [gd_T, dr_S, nm_v, cl_S, cv_S, bd_S, lk_L, lk_R, zbw_b, isK_e, isPg_3, isPg_4, isPg_6, asV_n, beq_self_eq_true, inb_N, inb_0, le_T, le_F, lt_T, lt_F, eq_F, le_0T, lt_0F, le_0F, eq_0F, nI_1, nI_add, pk_mul, nI_clamp, cl_0, if_true, if_false, of_nI, T_wI, L_wI, R_wI, N_wI, S_wI, T_wR, L_wR, I_wR, N_wR, S_wR, I_same, R_same, I_wIn, I_wIk, R_wRn, R_wRk, T_nwo, T_nwn, L_nwo, L_nwn, I_nwo, I_nwn, R_nwo, R_nwn, N_nw, S_nw, nar_1, nar_0, nar_01, b01_t0, b01_f0, b01_t1, b01_f1, ne_sn, eq_sn, sn_inj, mo_I M5 (i := 27) (j := 28) (by decide) (by decide) (by decide), mo_I M5 (i := 27) (j := 29) (by decide) (by decide) (by decide), mo_I M5 (i := 28) (j := 27) (by decide) (by decide) (by decide), mo_I M5 (i := 28) (j := 29) (by decide) (by decide) (by decide), mo_I M5 (i := 29) (j := 27) (by decide) (by decide) (by decide), mo_I M5 (i := 29) (j := 28) (by decide) (by decide) (by decide), ym_I M5 (j := 27) (by decide), ym_I M5 (j := 28) (by decide), ym_I M5 (j := 29) (by decide)]
      exact V5.2.2 j u z2
    · rw [z1, ← hn0, z2]
      simp (disch := omega) only [gd_T, dr_S, nm_v, cl_S, cv_S, bd_S, lk_L, lk_R, zbw_b, isK_e, isPg_3, isPg_4, isPg_6, asV_n, beq_self_eq_true, inb_N, inb_0, le_T, le_F, lt_T, lt_F, eq_F, le_0T, lt_0F, le_0F, eq_0F, nI_1, nI_add, pk_mul, nI_clamp, cl_0, if_true, if_false, of_nI, T_wI, L_wI, R_wI, N_wI, S_wI, T_wR, L_wR, I_wR, N_wR, S_wR, I_same, R_same, I_wIn, I_wIk, R_wRn, R_wRk, T_nwo, T_nwn, L_nwo, L_nwn, I_nwo, I_nwn, R_nwo, R_nwn, N_nw, S_nw, nar_1, nar_0, nar_01, b01_t0, b01_f0, b01_t1, b01_f1, ne_sn, eq_sn, sn_inj, mo_I M5 (i := 27) (j := 28) (by decide) (by decide) (by decide), mo_I M5 (i := 27) (j := 29) (by decide) (by decide) (by decide), mo_I M5 (i := 28) (j := 27) (by decide) (by decide) (by decide), mo_I M5 (i := 28) (j := 29) (by decide) (by decide) (by decide), mo_I M5 (i := 29) (j := 27) (by decide) (by decide) (by decide), mo_I M5 (i := 29) (j := 28) (by decide) (by decide) (by decide), ym_I M5 (j := 27) (by decide), ym_I M5 (j := 28) (by decide), ym_I M5 (j := 29) (by decide)]
      refine ⟨trivial, rfl, ?_⟩
      rw [show 32 * s.nxt + (cmL s).length - 1 = 32 * s.nxt + W.length by omega]
  have P10 := P5.ext (y := y) (s10 _ _ (by decide) (by decide))
  have F10 := F5.ext (s10 _ _ (by decide) (by decide))
  have C10 := C5.ext (s10 _ _ (by decide) (by decide))
  -- the write
  have C10' : MC h10 y A s.chs (va_up s.fs s.nxt f) (va_up s.np s.nxt (cmL s).length) (fun id => pwh (stN s.st s.nxt (cmL s)) (mkk (va_up s.np s.nxt (cmL s).length) id)) := C10.cg (fun id hid => by
    obtain ⟨c1, c2⟩ := I.2.2.2.1.1 id hid
    have em : mkk (va_up s.np s.nxt (cmL s).length) id = mkk s.np id := by unfold mkk; rw [up_o (by omega)]
    refine ⟨(up_o (by omega)).symm, (up_o (by omega)).symm, ?_⟩
    rw [em]
    unfold pwh
    rw [stN_o (by have := (mkk_vk S c1 c2).2.2; omega)])
  have fsn : va_up s.fs s.nxt f s.nxt = f := up_n
  have npn : va_up s.np s.nxt (cmL s).length s.nxt = pw s.now s.tl s.tm := up_n.trans len
  have vrn : pwh (stN s.st s.nxt (cmL s)) (mkk (va_up s.np s.nxt (cmL s).length) s.nxt) = s.lat + 1 := by
    have : mkk (va_up s.np s.nxt (cmL s).length) s.nxt = 32 * s.nxt + W.length := by unfold mkk; rw [npn]; omega
    rw [this]
    unfold pwh
    rw [stN_n (pg := mpg s.now s.tl s.tm s.st (lmk s.vers) s.nxt (s.lat + 1)) (by omega) (by unfold cmL wal; rw [← hW, List.getElem?_append_right (Nat.le_refl _), Nat.sub_self]; rfl)]
    rfl
  have pl := I'.pend_le
  have cl := I'.chs_le
  have pl' : (s.pend ++ (List.range (((cmL s).length + 1) / 2)).map (f + ·)).length ≤ 32 := pl
  rw [List.length_append, List.length_map, List.length_range, len] at pl'
  have cl' : (s.chs ++ [s.nxt]).length ≤ 32 := cl
  rw [List.length_append, List.length_singleton] at cl'
  obtain ⟨h11, e11, M11, F11, C11, m11, s11⟩ := m_write (id := s.nxt) M10 F10 C10' (by omega) (by rw [fsn, npn]; exact hf.1) (by rw [npn]; exact pl') (by omega)
  have K11 := fr_M_write (C := cT) (mi := 0) e11
  obtain ⟨h12, e12, M12, T12, U12, m12, s12⟩ := m_settle M11
  have K12 := fr_M_settle (C := cT) (mi := 0) e12
  have RM12 : RM h12 y A pid5 pat5 (sCommit s f) := by
    refine ⟨M12, ⟨?_, T12, U12⟩, ?_, C11.ext (Sm.k M11 K12 (by decide) (by decide)), ⟨(V10.exS (Sm.k M10 K11 (by decide) (by decide))).exS (Sm.k M11 K12 (by decide) (by decide)), ?_, ?_, ?_⟩, (P10.ext (y := y) (Sm.k M10 K11 (by decide) (by decide))).ext (y := y) (Sm.k M11 K12 (by decide) (by decide)), fun k hk hd => ?_⟩
    · exact ((N5.exS (y := y) (s10 _ _ (by decide) (by decide))).exS (y := y) (Sm.k M10 K11 (by decide) (by decide))).exS (y := y) (Sm.k M11 K12 (by decide) (by decide))
    · have := F11.ext (Sm.k M11 K12 (by decide) (by decide))
      rw [fsn, npn] at this
      show MF h12 y A (ups s.cont f (((cmL s).length + 1) / 2) (fun b => (s.nxt, b - f))) s.sett (ups s.free f (((cmL s).length + 1) / 2) (fun _ => false)) (s.pend ++ (List.range (((cmL s).length + 1) / 2)).map (f + ·))
      rw [len]; exact this
    · have z : Sm h10 h12 y A [] [31, 32, 26] := (Sm.k M10 K11 (by decide) (by decide)).trans (Sm.k M11 K12 (by decide) (by decide))
      rw [z.2 31 (by decide), hh10]
      simp (disch := omega) only [gd_T, dr_S, nm_v, cl_S, cv_S, bd_S, lk_L, lk_R, zbw_b, isK_e, isPg_3, isPg_4, isPg_6, asV_n, beq_self_eq_true, inb_N, inb_0, le_T, le_F, lt_T, lt_F, eq_F, le_0T, lt_0F, le_0F, eq_0F, nI_1, nI_add, pk_mul, nI_clamp, cl_0, if_true, if_false, of_nI, T_wI, L_wI, R_wI, N_wI, S_wI, T_wR, L_wR, I_wR, N_wR, S_wR, I_same, R_same, I_wIn, I_wIk, R_wRn, R_wRk, T_nwo, T_nwn, L_nwo, L_nwn, I_nwo, I_nwn, R_nwo, R_nwn, N_nw, S_nw, nar_1, nar_0, nar_01, b01_t0, b01_f0, b01_t1, b01_f1, ne_sn, eq_sn, sn_inj, my_I M5 (i := 27) (by decide), my_I M5 (i := 28) (by decide), my_I M5 (i := 29) (by decide)]
      rfl
    · have z : Sm h10 h12 y A [] [31, 32, 26] := (Sm.k M10 K11 (by decide) (by decide)).trans (Sm.k M11 K12 (by decide) (by decide))
      rw [z.2 32 (by decide), (s10 [] [32] (by decide) (by decide)).2 32 (by decide)]; exact y32
    · have z : Sm h10 h12 y A [] [31, 32, 26] := (Sm.k M10 K11 (by decide) (by decide)).trans (Sm.k M11 K12 (by decide) (by decide))
      rw [z.2 26 (by decide), (s10 [] [26] (by decide) (by decide)).2 26 (by decide)]; exact y26
    · have hk' : vk (va_up s.np s.nxt (cmL s).length) (s.nxt + 1) k := hk
      by_cases c : k / 32 = s.nxt
      · have v3 := hk'.2.2
        rw [c, up_n] at v3
        obtain ⟨t, t1, t2, t3⟩ := np5 (k % 32) v3
        exact ⟨t, t1, by rw [c]; exact t2, t3⟩
      · have v0 : vk s.np s.nxt k := ⟨hk'.1, by have := hk'.2.1; omega, by have := hk'.2.2; rwa [up_o c] at this⟩
        have hd' : hdk s.cont s.fs k ∨ hdk s.sett s.fs k := by
          rcases hd with z | z
          · left
            have z' : ups s.cont f (((cmL s).length + 1) / 2) (fun b => (s.nxt, b - f)) (va_up s.fs s.nxt f (k / 32) + k % 32 / 2) = (k / 32, k % 32 / 2) := z
            rw [up_o c] at z'
            unfold ups at z'
            unfold hdk
            by_cases u : f ≤ s.fs (k / 32) + k % 32 / 2 ∧ s.fs (k / 32) + k % 32 / 2 < f + ((cmL s).length + 1) / 2
            · rw [if_pos u] at z'
              exact absurd (Prod.mk.inj z').1.symm c
            · rw [if_neg u] at z'; exact z'
          · right
            have z' : s.sett (va_up s.fs s.nxt f (k / 32) + k % 32 / 2) = (k / 32, k % 32 / 2) := z
            rw [up_o c] at z'
            exact z'
        exact (in1 k v0 hd').sty sty5 v0.pos
  obtain ⟨h13, e13, Q13, m13, s13⟩ := m_dropS RM12 I'.2.2.2.2.2.1
  have y31' : hpI h13 y 31 = nI (s.lat + 1) := Q13.2.2.2.2.1.2.1
  refine ⟨h13, pid5, pat5, ?_, Q13, ?_, ?_⟩
  · have ed : (nI (pw s.now s.tl s.tm) + 1) / nI 2 = nI ((pw s.now s.tl s.tm + 1) / 2) := by
      rw [show (1 : Int32) = nI 1 from rfl, nI_add]; exact pk_div (by omega) (by decide) (by decide)
    have n48 : n < 48 := by
      have : (cmV s).length ≤ 33 := v33
      omega
    have y31a := Q1.2.2.2.2.1.2.1
    have y26a := Q1.2.2.2.2.1.2.2.2
    have a29 := (Q1.2.2.2.2.1.1.2.2 il tl ht1).2.2
    rw [ht3] at a29
    have f0 : (0 : Int32) ≤ nI f := nI_le (a := 0) (Nat.zero_le _) (by have := hf.1; omega)
    have y31c : hpI h3 y 31 = nI s.lat := by
      have z : Sm h1 h3 y A [] [31] := (sm2 _ _ (by decide) (by decide)).trans (Sm.k M2 K3 (by decide) (by decide))
      rw [z.2 31 (by decide)]; exact y31a
    have y30 : hpI h5 y 30 = nI n := by rw [hn0]; exact V5.1
    have e11' : f_M_write y (nI s.nxt) (nI f) (nI (pw s.now s.tl s.tm)) (nI (s.lat + 1)) h10 = some h11 := by
      rw [fsn, npn, vrn] at e11; exact e11
    rw [hh2] at e3
    rw [hh10] at e11'
    unfold f_M_commit
    rw [bd_s (show l_M_commit_4 y ((0 : Int32), (0 : Int32), h) = some (b01 true, h) from e0)]
    dsimp only
    rw [if_neg (by decide), gd_t (isK_of M.1), cl_s ep, gd_t (isK_of M.1), ed, cl_s er, if_pos f0, gd_t (isK_of M.1), cv_s e1, gd_t (isK_of M1.1), y31a, cl_s ef, dr_s M1.a29.1, gd_t (isK_of M1.a29.2.1), gd_t (inb_n (by rw [M1.a29.2.2.1]; omega) (by rw [M1.a29.2.2.1]; decide)), gd_t (isK_of M1.1), nI_clamp (by omega), a29, cl_s e6, gd_t (isK_of M1.1), y26a, nm_v, nI_s, bd_s e3]
    dsimp only
    rw [gd_t (isK_of M3.1), y31c, nI_s, cl_s (show f_M_add y (nI s.nxt) (nI W.length) (nI 2) (0 : Int32) (nI (s.lat + 1)) h3 = _ from a1), bd_s e5, gd_t (isK_of M5.1), y31, nI_s]
    simp (disch := omega) only [gd_T, dr_S, nm_v, cl_S, cv_S, bd_S, lk_L, lk_R, zbw_b, isK_e, isPg_3, isPg_4, isPg_6, asV_n, beq_self_eq_true, inb_N, inb_0, le_T, le_F, lt_T, lt_F, eq_F, le_0T, lt_0F, le_0F, eq_0F, nI_1, nI_add, pk_mul, nI_clamp, cl_0, if_true, if_false, of_nI, T_wI, L_wI, R_wI, N_wI, S_wI, T_wR, L_wR, I_wR, N_wR, S_wR, I_same, R_same, I_wIn, I_wIk, R_wRn, R_wRk, T_nwo, T_nwn, L_nwo, L_nwn, I_nwo, I_nwn, R_nwo, R_nwn, N_nw, S_nw, nar_1, nar_0, nar_01, b01_t0, b01_f0, b01_t1, b01_f1, ne_sn, eq_sn, sn_inj, M5.1, M5.a27.1, M5.a27.2.1, M5.a27.2.2.1, M5.a28.1, M5.a28.2.1, M5.a28.2.2.1, M5.a29.1, M5.a29.2.1, M5.a29.2.2.1, my_I M5 (i := 27) (by decide), my_I M5 (i := 28) (by decide), my_I M5 (i := 29) (by decide), y30]
    simp (disch := omega) only [gd_T, dr_S, nm_v, cl_S, cv_S, bd_S, lk_L, lk_R, zbw_b, isK_e, isPg_3, isPg_4, isPg_6, asV_n, beq_self_eq_true, inb_N, inb_0, le_T, le_F, lt_T, lt_F, eq_F, le_0T, lt_0F, le_0F, eq_0F, nI_1, nI_add, pk_mul, nI_clamp, cl_0, if_true, if_false, of_nI, T_wI, L_wI, R_wI, N_wI, S_wI, T_wR, L_wR, I_wR, N_wR, S_wR, I_same, R_same, I_wIn, I_wIk, R_wRn, R_wRk, T_nwo, T_nwn, L_nwo, L_nwn, I_nwo, I_nwn, R_nwo, R_nwn, N_nw, S_nw, nar_1, nar_0, nar_01, b01_t0, b01_f0, b01_t1, b01_f1, ne_sn, eq_sn, sn_inj, e11', M11.1, e12, M12.1, e13, Q13.1.1, y31']
  · have z : hpN h10 = hpN h5 := by rw [hh10]; rfl
    have z2 : hpN h2 = hpN h1 := by rw [hh2]; rfl
    have z3 : hpN h13 = hpN h12 := m13
    omega
  · have z : hpS h10 = hpS h5 := by rw [hh10]; rfl
    have z2 : hpS h2 = hpS h1 := by rw [hh2]; rfl
    have z3 : hpS h13 = hpS h12 := s13
    omega

/-! counting -/
theorem cn_z {f : Nat → Bool} {n : Nat} (h : ∀ i, i < n → f i = false) : cn f n = 0 := by
  induction n with
  | zero => rfl
  | succ n ih => rw [cn_f (h n (Nat.lt_succ_self n))]; exact ih (fun i hi => h i (by omega))
theorem cn_one {p q : Nat → Bool} {a K : Nat} (ha : a < K) (hp : p a = false) (hq : q a = true) (h : ∀ k, k ≠ a → q k = p k) : cn q K = cn p K + 1 := by
  induction K with
  | zero => omega
  | succ K ih =>
    by_cases e : a = K
    · subst e
      rw [cn_t hq, cn_f hp, cn_ext (fun i hi => h i (by omega))]
    · show cn q K + _ = cn p K + _ + 1
      rw [ih (by omega), h K (fun z => e z.symm)]
      omega
theorem cn_inj {g P : Nat → Bool} {f : Nat → Nat} {n K : Nat} (hf : ∀ i, i < n → g i = true → f i < K) (hi : ∀ i j, i < n → j < n → g i = true → g j = true → f i = f j → i = j) : cn (fun i => g i && P (f i)) n = cn (fun k => P k && (List.range n).any fun i => g i && decide (f i = k)) K := by
  induction n with
  | zero => rw [cn_z (n := K) (fun k _ => by simp)]; rfl
  | succ n ih =>
    have IH := ih (fun i h1 h2 => hf i (by omega) h2) (fun i j h1 h2 h3 h4 h5 => hi i j (by omega) (by omega) h3 h4 h5)
    have ex : ∀ k, (P k && (List.range (n + 1)).any fun i => g i && decide (f i = k)) = (P k && ((List.range n).any (fun i => g i && decide (f i = k)) || (g n && decide (f n = k)))) := fun k => by
      rw [List.range_succ, List.any_append, List.any_cons, List.any_nil, Bool.or_false]
    by_cases c : (g n && P (f n)) = true
    · rw [cn_t (f := fun i => g i && P (f i)) c, IH]
      rw [Bool.and_eq_true] at c
      refine (cn_one (a := f n) (hf n (Nat.lt_succ_self n) c.1) ?_ ?_ ?_).symm
      · rw [any_f (fun i hi2 => ?_), Bool.and_false]
        cases h1 : g i with
        | false => rfl
        | true =>
          rw [Bool.true_and]
          exact decide_eq_false (fun z => by have := hi i n (by omega) (Nat.lt_succ_self n) h1 c.1 z; omega)
      · rw [ex, c.1, c.2, decide_eq_true rfl]; simp
      · intro k hk
        rw [ex, decide_eq_false (fun z => hk z.symm), Bool.and_false, Bool.or_false]
    · have c' := ts_nt c
      rw [cn_f (f := fun i => g i && P (f i)) c', IH]
      refine cn_ext fun k _ => ?_
      rw [ex]
      cases h1 : g n with
      | false => simp
      | true =>
        rw [h1, Bool.true_and] at c'
        by_cases e : f n = k
        · rw [← e, c']; rfl
        · rw [decide_eq_false e, Bool.and_false, Bool.or_false]
theorem cn_cut {f : Nat → Bool} {n K : Nat} (h : n ≤ K) (hz : ∀ i, n ≤ i → i < K → f i = false) : cn f K = cn f n := by
  induction K with
  | zero => rw [show n = 0 by omega]
  | succ K ih =>
    by_cases e : n = K + 1
    · rw [e]
    · rw [cn_f (hz K (by omega) (by omega))]; exact ih (by omega) (fun i h1 h2 => hz i h1 (by omega))
/-- live pages are pages, and they are there -/
def LvP (pid pat : Nat → Nat) (st : Nat → Pg) (np : Nat → Nat) (nxt : Nat) (vers : List Vt) : Prop := ∀ x, lvb st vers x = true → vk np nxt x ∧ inP pid pat x
theorem LvP.of {pid pat : Nat → Nat} {st : Nat → Pg} {fs np : Nat → Nat} {nxt : Nat} {vers : List Vt} (S : SW st fs np nxt) (h : inV pid pat st np nxt vers) : LvP pid pat st np nxt vers := fun x hx => by
  obtain ⟨t, h1, h2, h3⟩ := lvb_t.mp hx
  obtain ⟨v, k2, r⟩ := h t h1 h2
  exact ⟨(S.rc v k2 h3).1, r x h3⟩
theorem m_liveOf {h : Hp} {y c id : Nat} {A : Nat → Nat} {pid pat : Nat → Nat} {st : Nat → Pg} {fs np vr : Nat → Nat} {nxt : Nat} {vers : List Vt} {chs : List Nat} (M : MOK h y A) (P : PR h A pid pat st np nxt) (S : SW st fs np nxt) (L : LvP pid pat st np nxt vers) (hc20 : hpI h (A 20) c = nI id) (hc : c < 32) (h1 : 1 ≤ id) (h2 : id < nxt) (Q : MM h A (fun i => lvb st vers (ky pid pat i))) : f_M_liveOf y (nI c) h = some (nI (lo st np vers id), h) := by
  obtain ⟨P1, P2, P3, P4⟩ := P
  have hx := S.1
  have key : l_M_liveOf_4 y (nI c) (nI 0, (0 : Int32), h) = some (nI (0 + cn (fun i => decide (pid i = id) && lvb st vers (32 * id + pat i)) 160), h) := by
    refine lp_cn (b := fun s => b_M_liveOf_4 y (nI c) s.1 s.2.1 s.2.2) h _ 0 160 (by decide) (fun n j hj hf => ?_) (fun n j hj hf => ?_) (fun n => ?_)
    · rw [Bool.and_eq_true, decide_eq_true_eq] at hf
      have q := Q j hj
      unfold ky at q
      dsimp only at q
      rw [hf.1, hf.2] at q
      have p := (P1 j hj).1
      rw [hf.1] at p
      show b_M_liveOf_4 y (nI c) (nI n) (nI j) h = _
      unfold b_M_liveOf_4
      simp (disch := omega) only [gd_T, dr_S, nm_v, cl_S, cv_S, bd_S, lk_L, lk_R, zbw_b, isK_e, isPg_3, isPg_4, isPg_6, asV_n, beq_self_eq_true, inb_N, inb_0, le_T, le_F, lt_T, lt_F, eq_F, le_0T, lt_0F, le_0F, eq_0F, nI_1, nI_add, pk_mul, nI_clamp, cl_0, if_true, if_false, of_nI, T_wI, L_wI, R_wI, N_wI, S_wI, T_wR, L_wR, I_wR, N_wR, S_wR, I_same, R_same, I_wIn, I_wIk, R_wRn, R_wRk, T_nwo, T_nwn, L_nwo, L_nwn, I_nwo, I_nwn, R_nwo, R_nwn, N_nw, S_nw, nar_1, nar_0, nar_01, b01_t0, b01_f0, b01_t1, b01_f1, ne_sn, eq_sn, sn_inj, M.1, M.a4.1, M.a4.2.1, M.a4.2.2.1, M.a12.1, M.a12.2.1, M.a12.2.2.1, M.a20.1, M.a20.2.1, M.a20.2.2.1, p, hc20, q]
    · have p := (P1 j hj).1
      have p2 := (P1 j hj).2.2.1
      show b_M_liveOf_4 y (nI c) (nI n) (nI j) h = _
      unfold b_M_liveOf_4
      by_cases e : pid j = id
      · rw [decide_eq_true e, Bool.true_and] at hf
        have q := Q j hj
        unfold ky at q
        dsimp only at q
        rw [e, hf] at q
        rw [e] at p
        simp (disch := omega) only [gd_T, dr_S, nm_v, cl_S, cv_S, bd_S, lk_L, lk_R, zbw_b, isK_e, isPg_3, isPg_4, isPg_6, asV_n, beq_self_eq_true, inb_N, inb_0, le_T, le_F, lt_T, lt_F, eq_F, le_0T, lt_0F, le_0F, eq_0F, nI_1, nI_add, pk_mul, nI_clamp, cl_0, if_true, if_false, of_nI, T_wI, L_wI, R_wI, N_wI, S_wI, T_wR, L_wR, I_wR, N_wR, S_wR, I_same, R_same, I_wIn, I_wIk, R_wRn, R_wRk, T_nwo, T_nwn, L_nwo, L_nwn, I_nwo, I_nwn, R_nwo, R_nwn, N_nw, S_nw, nar_1, nar_0, nar_01, b01_t0, b01_f0, b01_t1, b01_f1, ne_sn, eq_sn, sn_inj, M.1, M.a4.1, M.a4.2.1, M.a4.2.2.1, M.a12.1, M.a12.2.1, M.a12.2.2.1, M.a20.1, M.a20.2.1, M.a20.2.2.1, p, hc20, q]
      · simp (disch := omega) only [gd_T, dr_S, nm_v, cl_S, cv_S, bd_S, lk_L, lk_R, zbw_b, isK_e, isPg_3, isPg_4, isPg_6, asV_n, beq_self_eq_true, inb_N, inb_0, le_T, le_F, lt_T, lt_F, eq_F, le_0T, lt_0F, le_0F, eq_0F, nI_1, nI_add, pk_mul, nI_clamp, cl_0, if_true, if_false, of_nI, T_wI, L_wI, R_wI, N_wI, S_wI, T_wR, L_wR, I_wR, N_wR, S_wR, I_same, R_same, I_wIn, I_wIk, R_wRn, R_wRk, T_nwo, T_nwn, L_nwo, L_nwn, I_nwo, I_nwn, R_nwo, R_nwn, N_nw, S_nw, nar_1, nar_0, nar_01, b01_t0, b01_f0, b01_t1, b01_f1, ne_sn, eq_sn, sn_inj, M.1, M.a4.1, M.a4.2.1, M.a4.2.2.1, M.a12.1, M.a12.2.1, M.a12.2.2.1, M.a20.1, M.a20.2.1, M.a20.2.2.1, p, hc20]
    · show b_M_liveOf_4 y (nI c) (nI n) (nI 160) h = _
      unfold b_M_liveOf_4
      simp (disch := omega) only [gd_T, dr_S, nm_v, cl_S, cv_S, bd_S, lk_L, lk_R, zbw_b, isK_e, isPg_3, isPg_4, isPg_6, asV_n, beq_self_eq_true, inb_N, inb_0, le_T, le_F, lt_T, lt_F, eq_F, le_0T, lt_0F, le_0F, eq_0F, nI_1, nI_add, pk_mul, nI_clamp, cl_0, if_true, if_false, of_nI, T_wI, L_wI, R_wI, N_wI, S_wI, T_wR, L_wR, I_wR, N_wR, S_wR, I_same, R_same, I_wIn, I_wIk, R_wRn, R_wRk, T_nwo, T_nwn, L_nwo, L_nwn, I_nwo, I_nwn, R_nwo, R_nwn, N_nw, S_nw, nar_1, nar_0, nar_01, b01_t0, b01_f0, b01_t1, b01_f1, ne_sn, eq_sn, sn_inj]
  unfold f_M_liveOf
  rw [bd_s (show l_M_liveOf_4 y (nI c) ((0 : Int32), (0 : Int32), h) = _ from key), Nat.zero_add]
  have n2 := (S.2.1 id h1 h2).2.1
  have e1 := cn_inj (g := fun i => decide (pid i = id)) (P := fun a => lvb st vers (32 * id + a)) (f := pat) (n := 160) (K := 32) (fun i hi _ => P2 i hi) (fun i j hi hj g1 g2 e => by
    have z1 := of_decide_eq_true g1
    have z2 := of_decide_eq_true g2
    exact P3 i j hi hj (by omega) (by omega) e)
  dsimp only at e1 ⊢
  rw [e1, cn_cut (n := np id) (by omega) (fun i hi1 hi2 => ?_)]
  · unfold lo
    congr 3
    refine cn_ext fun i hi => ?_
    cases e : lvb st vers (32 * id + i) with
    | false => rfl
    | true =>
      rw [Bool.true_and]
      obtain ⟨-, z, z1, z2, z3⟩ := L _ e
      rw [any_t]
      exact ⟨z, z1, by rw [Bool.and_eq_true, decide_eq_true_eq, decide_eq_true_eq]; omega⟩
  · cases e : lvb st vers (32 * id + i) with
    | false => rfl
    | true =>
      exfalso
      have q := (L _ e).1.2.2
      rw [show (32 * id + i) / 32 = id by omega, show (32 * id + i) % 32 = i by omega] at q
      omega
/-- blocks of dead chunks are free -/
def frd (dd : Nat → Bool) (fs np : Nat → Nat) (l : List Nat) (free : Nat → Bool) (b : Nat) : Bool := free b || l.any fun id => dd id && (decide (fs id ≤ b) && decide (b < fs id + (np id + 1) / 2))
theorem frd_nil (dd : Nat → Bool) (fs np : Nat → Nat) (free : Nat → Bool) : frd dd fs np [] free = free := by
  funext b
  show (free b || false) = _
  exact Bool.or_false _
theorem frd_ct {dd : Nat → Bool} {fs np : Nat → Nat} {l : List Nat} {free : Nat → Bool} {id : Nat} (h : dd id = true) : frd dd fs np (id :: l) free = ups (frd dd fs np l free) (fs id) ((np id + 1) / 2) (fun _ => true) := by
  funext b
  unfold frd ups
  rw [List.any_cons, h, Bool.true_and]
  by_cases c : fs id ≤ b ∧ b < fs id + (np id + 1) / 2
  · rw [if_pos c, decide_eq_true c.1, decide_eq_true c.2]; simp
  · rw [if_neg c, show (decide (fs id ≤ b) && decide (b < fs id + (np id + 1) / 2)) = false by
      rw [← Bool.decide_and]; exact decide_eq_false c, Bool.false_or]
theorem frd_cf {dd : Nat → Bool} {fs np : Nat → Nat} {l : List Nat} {free : Nat → Bool} {id : Nat} (h : dd id = false) : frd dd fs np (id :: l) free = frd dd fs np l free := by
  funext b
  unfold frd
  rw [List.any_cons, h, Bool.false_and, Bool.false_or]
theorem frd_app (dd : Nat → Bool) (fs np : Nat → Nat) (l : List Nat) (free : Nat → Bool) (id : Nat) : frd dd fs np (l ++ [id]) free = frd dd fs np (id :: l) free := by
  funext b
  unfold frd
  rw [List.any_append, List.any_cons, List.any_nil, List.any_cons, Bool.or_false]
  congr 1
  exact Bool.or_comm _ _
def dead (st : Nat → Pg) (np : Nat → Nat) (vers : List Vt) (id : Nat) : Bool := decide (lo st np vers id = 0)
def CE (h : Hp) (A : Nat → Nat) (fs np vr : Nat → Nat) (i id : Nat) : Prop := hpI h (A 20) i = nI id ∧ hpI h (A 21) i = nI (fs id) ∧ hpI h (A 22) i = nI ((np id + 1) / 2) ∧ hpI h (A 23) i = nI (np id) ∧ hpI h (A 24) i = nI (vr id)
theorem fil_s {l : List Nat} {f : Nat → Bool} {i a : Nat} (h : l[i]? = some a) : (l.take (i + 1)).filter f = (l.take i).filter f ++ (bif f a then [a] else []) := by
  have : l.take (i + 1) = l.take i ++ [a] := take_s h
  rw [this, List.filter_append]
  congr 1
theorem m_clean {h : Hp} {y : Nat} {A : Nat → Nat} {pid pat : Nat → Nat} {st : Nat → Pg} {fs np vr : Nat → Nat} {nxt : Nat} {vers : List Vt} {chs pend : List Nat} {cont sett : Nat → Nat × Nat} {free : Nat → Bool} (M : MOK h y A) (P : PR h A pid pat st np nxt) (S : SW st fs np nxt) (V : MV h y A vers) (hv : inV pid pat st np nxt vers) (C : MC h y A chs fs np vr) (R : MF h y A cont sett free pend) (hch : ∀ id ∈ chs, 1 ≤ id ∧ id < nxt) :
    ∃ h', f_M_clean y h = some h' ∧ MC h' y A (chs.filter fun id => !dead st np vers id) fs np vr ∧ MF h' y A cont sett (frd (dead st np vers) fs np chs free) pend ∧ hpN h' = hpN h ∧ hpS h' = hpS h := by
  have L := LvP.of S hv
  obtain ⟨g, e0, K0, Q0, n0, s0⟩ := m_markKept M P S V hv
  have Mg := M.kw K0 (by decide)
  have Pg' := P.ext (y := y) (Sm.k M K0 (by decide) (by decide))
  have Cg := C.ext (Sm.k M K0 (by decide) (by decide))
  have Rg := R.ext (Sm.k M K0 (by decide) (by decide))
  obtain ⟨c1, c2, c3⟩ := Cg
  have key : ∃ r, l_M_clean_8 y ((0 : Int32), (0 : Int32), g) = some r ∧ (r.1 = nI ((chs.take chs.length).filter fun id => !dead st np vers id).length ∧ MOK r.2 y A ∧ (∀ i id, ((chs.take chs.length).filter fun id => !dead st np vers id)[i]? = some id → CE r.2 A fs np vr i id) ∧ MF r.2 y A cont sett (frd (dead st np vers) fs np (chs.take chs.length) free) pend ∧ hpN r.2 = hpN g ∧ hpS r.2 = hpS g) := by
    refine lp_up (b := fun s => b_M_clean_8 y s.1 s.2.1 s.2.2) (fun j s => s.1 = nI ((chs.take j).filter fun id => !dead st np vers id).length ∧ s.2.1 = nI j ∧ MOK s.2.2 y A ∧ Keep W_M_clean g s.2.2 ∧ hpI s.2.2 y 25 = nI chs.length ∧ MM s.2.2 A (fun i => lvb st vers (ky pid pat i)) ∧ (∀ i id, ((chs.take j).filter fun id => !dead st np vers id)[i]? = some id → CE s.2.2 A fs np vr i id) ∧ (∀ i id, j ≤ i → chs[i]? = some id → CE s.2.2 A fs np vr i id) ∧ MF s.2.2 y A cont sett (frd (dead st np vers) fs np (chs.take j) free) pend ∧ hpN s.2.2 = hpN g ∧ hpS s.2.2 = hpS g) _ chs.length (by omega) ⟨rfl, rfl, Mg, Keep.refl _ _, c1, Q0, ?_, fun i id _ hi => c3 i id hi, ?_, rfl, rfl⟩ (fun j s hj hs => Or.inl ?_) (fun s hs => ⟨(s.1, s.2.2), ?_, hs.1, hs.2.2.1, hs.2.2.2.2.2.2.1, hs.2.2.2.2.2.2.2.2⟩)
    · intro i id hi
      rw [List.take_zero] at hi; cases hi
    · rw [List.take_zero, frd_nil]; exact Rg
    · obtain ⟨a, b, q⟩ := s
      obtain ⟨b0, b1, b2, bk, b3, b4, b5, b6, b7, b8⟩ := hs
      dsimp only at b0 b1 b2 bk b3 b4 b5 b6 b7 b8
      subst b0 b1
      obtain ⟨id, hid⟩ : ∃ id, chs[j]? = some id := ⟨_, List.getElem?_eq_getElem hj⟩
      obtain ⟨i1, i2⟩ := hch id (List.mem_of_getElem? hid)
      obtain ⟨k1, k2, k3, k4, k5⟩ := b6 j id (Nat.le_refl _) hid
      obtain ⟨n1, n2, n3⟩ := S.2.1 id i1 i2
      have Pq := Pg'.ext (y := y) (Sm.k Mg bk (by decide) (by decide))
      have lv := m_liveOf (vr := vr) (chs := chs) b2 Pq S L k1 (by omega) i1 i2 b4
      have lolt : lo st np vers id ≤ np id := cn_le _ _
      obtain ⟨w, hw⟩ : ∃ w, w = ((chs.take j).filter fun id => !dead st np vers id).length := ⟨_, rfl⟩
      have wj : w ≤ j := by
        rw [hw]
        refine Nat.le_trans (List.length_filter_le _ _) ?_
        rw [List.length_take]; omega
      by_cases c : lo st np vers id = 0
      · have dt : dead st np vers id = true := decide_eq_true c
        have fe : (chs.take (j + 1)).filter (fun id => !dead st np vers id) = (chs.take j).filter (fun id => !dead st np vers id) := by rw [fil_s hid, dt]; simp
        have ff : frd (dead st np vers) fs np (chs.take (j + 1)) free = ups (frd (dead st np vers) fs np (chs.take j) free) (fs id) ((np id + 1) / 2) (fun _ => true) := by
          rw [show chs.take (j + 1) = chs.take j ++ [id] from take_s hid, frd_app, frd_ct dt]
        have inner : ∃ r, l_M_clean_34 y (nI w) (nI j) (nI (fs id), q) = some r ∧ (MOK r y A ∧ hpI r y 25 = nI chs.length ∧ MM r A (fun i => lvb st vers (ky pid pat i)) ∧ (∀ i id, ((chs.take j).filter fun id => !dead st np vers id)[i]? = some id → CE r A fs np vr i id) ∧ (∀ i id, j ≤ i → chs[i]? = some id → CE r A fs np vr i id) ∧ MF r y A cont sett (ups (frd (dead st np vers) fs np (chs.take j) free) (fs id) ((np id + 1) / 2) (fun _ => true)) pend ∧ hpN r = hpN g ∧ hpS r = hpS g) := by
          refine lp_for (b := fun s => b_M_clean_34 y (nI w) (nI j) s.1 s.2) (fun t s => fs id ≤ t ∧ s.1 = nI t ∧ MOK s.2 y A ∧ hpI s.2 y 25 = nI chs.length ∧ MM s.2 A (fun i => lvb st vers (ky pid pat i)) ∧ (∀ i id, ((chs.take j).filter fun id => !dead st np vers id)[i]? = some id → CE s.2 A fs np vr i id) ∧ (∀ i id, j ≤ i → chs[i]? = some id → CE s.2 A fs np vr i id) ∧ MF s.2 y A cont sett (ups (frd (dead st np vers) fs np (chs.take j) free) (fs id) (t - fs id) (fun _ => true)) pend ∧ hpN s.2 = hpN g ∧ hpS s.2 = hpS g) _ (fs id + (np id + 1) / 2) (fun t s ht hs => Or.inl ?_) (fun s hs => ⟨s.2, ?_, hs.2.2.1, hs.2.2.2.1, hs.2.2.2.2.1, hs.2.2.2.2.2.1, hs.2.2.2.2.2.2.1, ?_, hs.2.2.2.2.2.2.2.2⟩) FU (fs id) (nI (fs id), q) (by omega) (by show _ < 4096; omega) ⟨Nat.le_refl _, rfl, b2, b3, b4, b5, b6, by rw [Nat.sub_self, ups_0]; exact b7, b8⟩
          · obtain ⟨t', r⟩ := s
            obtain ⟨u0, u1, u2, u3, u4, u5, u6, u7, u8⟩ := hs
            dsimp only at u1 u2 u3 u4 u5 u6 u7 u8
            subst u1
            obtain ⟨l1, l2, l3, l4, l5⟩ := u6 j id (Nat.le_refl _) hid
            refine ⟨(nI (t + 1), wI r (A 18) t 1), ?_, by omega, rfl, u2, ?_, fun i hi => ?_, fun i d hd => ?_, fun i d hi hd => ?_, ?_, u8⟩
            · show b_M_clean_34 y (nI w) (nI j) (nI t) r = _
              unfold b_M_clean_34
              simp (disch := omega) only [gd_T, dr_S, nm_v, cl_S, cv_S, bd_S, lk_L, lk_R, zbw_b, isK_e, isPg_3, isPg_4, isPg_6, asV_n, beq_self_eq_true, inb_N, inb_0, le_T, le_F, lt_T, lt_F, eq_F, le_0T, lt_0F, le_0F, eq_0F, nI_1, nI_add, pk_mul, nI_clamp, cl_0, if_true, if_false, of_nI, T_wI, L_wI, R_wI, N_wI, S_wI, T_wR, L_wR, I_wR, N_wR, S_wR, I_same, R_same, I_wIn, I_wIk, R_wRn, R_wRk, T_nwo, T_nwn, L_nwo, L_nwn, I_nwo, I_nwn, R_nwo, R_nwn, N_nw, S_nw, nar_1, nar_0, nar_01, b01_t0, b01_f0, b01_t1, b01_f1, ne_sn, eq_sn, sn_inj, u2.1, u2.a21.1, u2.a21.2.1, u2.a21.2.2.1, u2.a22.1, u2.a22.2.1, u2.a22.2.2.1, u2.a18.1, u2.a18.2.1, u2.a18.2.2.1, l2, l3]
            · dsimp only
              rw [my_I u2 (by decide)]; exact u3
            · dsimp only
              rw [mo_I u2 (by decide) (by decide) (by decide)]; exact u4 i hi
            · unfold CE
              simp (disch := omega) only [gd_T, dr_S, nm_v, cl_S, cv_S, bd_S, lk_L, lk_R, zbw_b, isK_e, isPg_3, isPg_4, isPg_6, asV_n, beq_self_eq_true, inb_N, inb_0, le_T, le_F, lt_T, lt_F, eq_F, le_0T, lt_0F, le_0F, eq_0F, nI_1, nI_add, pk_mul, nI_clamp, cl_0, if_true, if_false, of_nI, T_wI, L_wI, R_wI, N_wI, S_wI, T_wR, L_wR, I_wR, N_wR, S_wR, I_same, R_same, I_wIn, I_wIk, R_wRn, R_wRk, T_nwo, T_nwn, L_nwo, L_nwn, I_nwo, I_nwn, R_nwo, R_nwn, N_nw, S_nw, nar_1, nar_0, nar_01, b01_t0, b01_f0, b01_t1, b01_f1, ne_sn, eq_sn, sn_inj, mo_I u2 (i := 18) (j := 20) (by decide) (by decide) (by decide), mo_I u2 (i := 18) (j := 21) (by decide) (by decide) (by decide), mo_I u2 (i := 18) (j := 22) (by decide) (by decide) (by decide), mo_I u2 (i := 18) (j := 23) (by decide) (by decide) (by decide), mo_I u2 (i := 18) (j := 24) (by decide) (by decide) (by decide)]
              exact u5 i d hd
            · unfold CE
              simp (disch := omega) only [gd_T, dr_S, nm_v, cl_S, cv_S, bd_S, lk_L, lk_R, zbw_b, isK_e, isPg_3, isPg_4, isPg_6, asV_n, beq_self_eq_true, inb_N, inb_0, le_T, le_F, lt_T, lt_F, eq_F, le_0T, lt_0F, le_0F, eq_0F, nI_1, nI_add, pk_mul, nI_clamp, cl_0, if_true, if_false, of_nI, T_wI, L_wI, R_wI, N_wI, S_wI, T_wR, L_wR, I_wR, N_wR, S_wR, I_same, R_same, I_wIn, I_wIk, R_wRn, R_wRk, T_nwo, T_nwn, L_nwo, L_nwn, I_nwo, I_nwn, R_nwo, R_nwn, N_nw, S_nw, nar_1, nar_0, nar_01, b01_t0, b01_f0, b01_t1, b01_f1, ne_sn, eq_sn, sn_inj, mo_I u2 (i := 18) (j := 20) (by decide) (by decide) (by decide), mo_I u2 (i := 18) (j := 21) (by decide) (by decide) (by decide), mo_I u2 (i := 18) (j := 22) (by decide) (by decide) (by decide), mo_I u2 (i := 18) (j := 23) (by decide) (by decide) (by decide), mo_I u2 (i := 18) (j := 24) (by decide) (by decide) (by decide)]
              exact u6 i d hi hd
            · obtain ⟨r1, r2, r3, r4, r5, r6⟩ := u7
              refine ⟨fun b hb => ?_, fun b hb => ?_, fun b hb => ?_, ?_, r5, fun i x hx => ?_⟩
              · simp (disch := omega) only [gd_T, dr_S, nm_v, cl_S, cv_S, bd_S, lk_L, lk_R, zbw_b, isK_e, isPg_3, isPg_4, isPg_6, asV_n, beq_self_eq_true, inb_N, inb_0, le_T, le_F, lt_T, lt_F, eq_F, le_0T, lt_0F, le_0F, eq_0F, nI_1, nI_add, pk_mul, nI_clamp, cl_0, if_true, if_false, of_nI, T_wI, L_wI, R_wI, N_wI, S_wI, T_wR, L_wR, I_wR, N_wR, S_wR, I_same, R_same, I_wIn, I_wIk, R_wRn, R_wRk, T_nwo, T_nwn, L_nwo, L_nwn, I_nwo, I_nwn, R_nwo, R_nwn, N_nw, S_nw, nar_1, nar_0, nar_01, b01_t0, b01_f0, b01_t1, b01_f1, ne_sn, eq_sn, sn_inj, mo_I u2 (i := 18) (j := 13) (by decide) (by decide) (by decide), mo_I u2 (i := 18) (j := 14) (by decide) (by decide) (by decide)]
                exact r1 b hb
              · simp (disch := omega) only [gd_T, dr_S, nm_v, cl_S, cv_S, bd_S, lk_L, lk_R, zbw_b, isK_e, isPg_3, isPg_4, isPg_6, asV_n, beq_self_eq_true, inb_N, inb_0, le_T, le_F, lt_T, lt_F, eq_F, le_0T, lt_0F, le_0F, eq_0F, nI_1, nI_add, pk_mul, nI_clamp, cl_0, if_true, if_false, of_nI, T_wI, L_wI, R_wI, N_wI, S_wI, T_wR, L_wR, I_wR, N_wR, S_wR, I_same, R_same, I_wIn, I_wIk, R_wRn, R_wRk, T_nwo, T_nwn, L_nwo, L_nwn, I_nwo, I_nwn, R_nwo, R_nwn, N_nw, S_nw, nar_1, nar_0, nar_01, b01_t0, b01_f0, b01_t1, b01_f1, ne_sn, eq_sn, sn_inj, mo_I u2 (i := 18) (j := 15) (by decide) (by decide) (by decide), mo_I u2 (i := 18) (j := 16) (by decide) (by decide) (by decide)]
                exact r2 b hb
              · rw [show t + 1 - fs id = (t - fs id) + 1 by omega, ups_s, show fs id + (t - fs id) = t by omega]
                unfold va_up
                dsimp only
                by_cases e : b = t
                · subst e; rw [I_same, if_pos rfl]; rfl
                · rw [I_wIk e, if_neg e]; exact r3 b hb
              · simp (disch := omega) only [gd_T, dr_S, nm_v, cl_S, cv_S, bd_S, lk_L, lk_R, zbw_b, isK_e, isPg_3, isPg_4, isPg_6, asV_n, beq_self_eq_true, inb_N, inb_0, le_T, le_F, lt_T, lt_F, eq_F, le_0T, lt_0F, le_0F, eq_0F, nI_1, nI_add, pk_mul, nI_clamp, cl_0, if_true, if_false, of_nI, T_wI, L_wI, R_wI, N_wI, S_wI, T_wR, L_wR, I_wR, N_wR, S_wR, I_same, R_same, I_wIn, I_wIk, R_wRn, R_wRk, T_nwo, T_nwn, L_nwo, L_nwn, I_nwo, I_nwn, R_nwo, R_nwn, N_nw, S_nw, nar_1, nar_0, nar_01, b01_t0, b01_f0, b01_t1, b01_f1, ne_sn, eq_sn, sn_inj, my_I u2 (i := 18) (by decide)]
                exact r4
              · simp (disch := omega) only [gd_T, dr_S, nm_v, cl_S, cv_S, bd_S, lk_L, lk_R, zbw_b, isK_e, isPg_3, isPg_4, isPg_6, asV_n, beq_self_eq_true, inb_N, inb_0, le_T, le_F, lt_T, lt_F, eq_F, le_0T, lt_0F, le_0F, eq_0F, nI_1, nI_add, pk_mul, nI_clamp, cl_0, if_true, if_false, of_nI, T_wI, L_wI, R_wI, N_wI, S_wI, T_wR, L_wR, I_wR, N_wR, S_wR, I_same, R_same, I_wIn, I_wIk, R_wRn, R_wRk, T_nwo, T_nwn, L_nwo, L_nwn, I_nwo, I_nwn, R_nwo, R_nwn, N_nw, S_nw, nar_1, nar_0, nar_01, b01_t0, b01_f0, b01_t1, b01_f1, ne_sn, eq_sn, sn_inj, mo_I u2 (i := 18) (j := 17) (by decide) (by decide) (by decide)]
                exact r6 i x hx
          · obtain ⟨t', r⟩ := s
            obtain ⟨u0, u1, u2, u3, u4, u5, u6, u7, u8⟩ := hs
            dsimp only at u1 u2 u6
            subst u1
            obtain ⟨l1, l2, l3, l4, l5⟩ := u6 j id (Nat.le_refl _) hid
            show b_M_clean_34 y (nI w) (nI j) (nI (fs id + (np id + 1) / 2)) r = _
            unfold b_M_clean_34
            simp (disch := omega) only [gd_T, dr_S, nm_v, cl_S, cv_S, bd_S, lk_L, lk_R, zbw_b, isK_e, isPg_3, isPg_4, isPg_6, asV_n, beq_self_eq_true, inb_N, inb_0, le_T, le_F, lt_T, lt_F, eq_F, le_0T, lt_0F, le_0F, eq_0F, nI_1, nI_add, pk_mul, nI_clamp, cl_0, if_true, if_false, of_nI, T_wI, L_wI, R_wI, N_wI, S_wI, T_wR, L_wR, I_wR, N_wR, S_wR, I_same, R_same, I_wIn, I_wIk, R_wRn, R_wRk, T_nwo, T_nwn, L_nwo, L_nwn, I_nwo, I_nwn, R_nwo, R_nwn, N_nw, S_nw, nar_1, nar_0, nar_01, b01_t0, b01_f0, b01_t1, b01_f1, ne_sn, eq_sn, sn_inj, u2.1, u2.a21.1, u2.a21.2.1, u2.a21.2.2.1, u2.a22.1, u2.a22.2.1, u2.a22.2.2.1, u2.a18.1, u2.a18.2.1, u2.a18.2.2.1, l2, l3]
          · have := hs.2.2.2.2.2.2.2.1
            rw [Nat.add_sub_cancel_left] at this
            exact this
        obtain ⟨r, f1, f2, f3, f4, f5, f6, f7, f8⟩ := inner
        rw [c] at lv
        have eb : b_M_clean_8 y (nI w) (nI j) q = some (.inl (nI w, nI (j + 1), r)) := by
          unfold b_M_clean_8
          simp (disch := omega) only [gd_T, dr_S, nm_v, cl_S, cv_S, bd_S, lk_L, lk_R, zbw_b, isK_e, isPg_3, isPg_4, isPg_6, asV_n, beq_self_eq_true, inb_N, inb_0, le_T, le_F, lt_T, lt_F, eq_F, le_0T, lt_0F, le_0F, eq_0F, nI_1, nI_add, pk_mul, nI_clamp, cl_0, if_true, if_false, of_nI, T_wI, L_wI, R_wI, N_wI, S_wI, T_wR, L_wR, I_wR, N_wR, S_wR, I_same, R_same, I_wIn, I_wIk, R_wRn, R_wRk, T_nwo, T_nwn, L_nwo, L_nwn, I_nwo, I_nwn, R_nwo, R_nwn, N_nw, S_nw, nar_1, nar_0, nar_01, b01_t0, b01_f0, b01_t1, b01_f1, ne_sn, eq_sn, sn_inj, b2.1, b3, lv, nz0, b2.a21.1, b2.a21.2.1, b2.a21.2.2.1, k2, f1]
        refine ⟨(nI w, nI (j + 1), r), ?_, ?_, rfl, f2, ?_, f3, f4, ?_, fun i d hi hd => f6 i d (by omega) hd, ?_, f8⟩
        · rw [← hw]; exact eb
        · rw [fe, ← hw]
        · exact bk.trans (kb_M_clean_8 (C := cT) (mi := 0) eb)
        · rw [fe]; exact f5
        · rw [ff]; exact f7
      · have df : dead st np vers id = false := decide_eq_false c
        have fe : (chs.take (j + 1)).filter (fun id => !dead st np vers id) = (chs.take j).filter (fun id => !dead st np vers id) ++ [id] := by rw [fil_s hid, df]; rfl
        have ff : frd (dead st np vers) fs np (chs.take (j + 1)) free = frd (dead st np vers) fs np (chs.take j) free := by
          rw [show chs.take (j + 1) = chs.take j ++ [id] from take_s hid, frd_app, frd_cf df]
        have eb : b_M_clean_8 y (nI w) (nI j) q = some (.inl (nI (w + 1), nI (j + 1), wI (wI (wI (wI (wI q (A 20) w (nI id)) (A 21) w (nI (fs id))) (A 22) w (nI ((np id + 1) / 2))) (A 23) w (nI (np id))) (A 24) w (nI (vr id)))) := by
          unfold b_M_clean_8
          simp (disch := omega) only [gd_T, dr_S, nm_v, cl_S, cv_S, bd_S, lk_L, lk_R, zbw_b, isK_e, isPg_3, isPg_4, isPg_6, asV_n, beq_self_eq_true, inb_N, inb_0, le_T, le_F, lt_T, lt_F, eq_F, le_0T, lt_0F, le_0F, eq_0F, nI_1, nI_add, pk_mul, nI_clamp, cl_0, if_true, if_false, of_nI, T_wI, L_wI, R_wI, N_wI, S_wI, T_wR, L_wR, I_wR, N_wR, S_wR, I_same, R_same, I_wIn, I_wIk, R_wRn, R_wRk, T_nwo, T_nwn, L_nwo, L_nwn, I_nwo, I_nwn, R_nwo, R_nwn, N_nw, S_nw, nar_1, nar_0, nar_01, b01_t0, b01_f0, b01_t1, b01_f1, ne_sn, eq_sn, sn_inj, b2.1, b3, lv, b2.a20.1, b2.a20.2.1, b2.a20.2.2.1, b2.a21.1, b2.a21.2.1, b2.a21.2.2.1, b2.a22.1, b2.a22.2.1, b2.a22.2.2.1, b2.a23.1, b2.a23.2.1, b2.a23.2.2.1, b2.a24.1, b2.a24.2.1, b2.a24.2.2.1, mo_I b2 (i := 20) (j := 21) (by decide) (by decide) (by decide), mo_I b2 (i := 20) (j := 22) (by decide) (by decide) (by decide), mo_I b2 (i := 20) (j := 23) (by decide) (by decide) (by decide), mo_I b2 (i := 20) (j := 24) (by decide) (by decide) (by decide), mo_I b2 (i := 21) (j := 20) (by decide) (by decide) (by decide), mo_I b2 (i := 21) (j := 22) (by decide) (by decide) (by decide), mo_I b2 (i := 21) (j := 23) (by decide) (by decide) (by decide), mo_I b2 (i := 21) (j := 24) (by decide) (by decide) (by decide), mo_I b2 (i := 22) (j := 20) (by decide) (by decide) (by decide), mo_I b2 (i := 22) (j := 21) (by decide) (by decide) (by decide), mo_I b2 (i := 22) (j := 23) (by decide) (by decide) (by decide), mo_I b2 (i := 22) (j := 24) (by decide) (by decide) (by decide), mo_I b2 (i := 23) (j := 20) (by decide) (by decide) (by decide), mo_I b2 (i := 23) (j := 21) (by decide) (by decide) (by decide), mo_I b2 (i := 23) (j := 22) (by decide) (by decide) (by decide), mo_I b2 (i := 23) (j := 24) (by decide) (by decide) (by decide), mo_I b2 (i := 24) (j := 20) (by decide) (by decide) (by decide), mo_I b2 (i := 24) (j := 21) (by decide) (by decide) (by decide), mo_I b2 (i := 24) (j := 22) (by decide) (by decide) (by decide), mo_I b2 (i := 24) (j := 23) (by decide) (by decide) (by decide), k1, k2, k3, k4, k5]
        have ce : ∀ i d, i ≠ w → CE q A fs np vr i d → CE (wI (wI (wI (wI (wI q (A 20) w (nI id)) (A 21) w (nI (fs id))) (A 22) w (nI ((np id + 1) / 2))) (A 23) w (nI (np id))) (A 24) w (nI (vr id))) A fs np vr i d := fun i d hi z => by
          unfold CE
          simp (disch := omega) only [gd_T, dr_S, nm_v, cl_S, cv_S, bd_S, lk_L, lk_R, zbw_b, isK_e, isPg_3, isPg_4, isPg_6, asV_n, beq_self_eq_true, inb_N, inb_0, le_T, le_F, lt_T, lt_F, eq_F, le_0T, lt_0F, le_0F, eq_0F, nI_1, nI_add, pk_mul, nI_clamp, cl_0, if_true, if_false, of_nI, T_wI, L_wI, R_wI, N_wI, S_wI, T_wR, L_wR, I_wR, N_wR, S_wR, I_same, R_same, I_wIn, I_wIk, R_wRn, R_wRk, T_nwo, T_nwn, L_nwo, L_nwn, I_nwo, I_nwn, R_nwo, R_nwn, N_nw, S_nw, nar_1, nar_0, nar_01, b01_t0, b01_f0, b01_t1, b01_f1, ne_sn, eq_sn, sn_inj, mo_I b2 (i := 20) (j := 21) (by decide) (by decide) (by decide), mo_I b2 (i := 20) (j := 22) (by decide) (by decide) (by decide), mo_I b2 (i := 20) (j := 23) (by decide) (by decide) (by decide), mo_I b2 (i := 20) (j := 24) (by decide) (by decide) (by decide), mo_I b2 (i := 21) (j := 20) (by decide) (by decide) (by decide), mo_I b2 (i := 21) (j := 22) (by decide) (by decide) (by decide), mo_I b2 (i := 21) (j := 23) (by decide) (by decide) (by decide), mo_I b2 (i := 21) (j := 24) (by decide) (by decide) (by decide), mo_I b2 (i := 22) (j := 20) (by decide) (by decide) (by decide), mo_I b2 (i := 22) (j := 21) (by decide) (by decide) (by decide), mo_I b2 (i := 22) (j := 23) (by decide) (by decide) (by decide), mo_I b2 (i := 22) (j := 24) (by decide) (by decide) (by decide), mo_I b2 (i := 23) (j := 20) (by decide) (by decide) (by decide), mo_I b2 (i := 23) (j := 21) (by decide) (by decide) (by decide), mo_I b2 (i := 23) (j := 22) (by decide) (by decide) (by decide), mo_I b2 (i := 23) (j := 24) (by decide) (by decide) (by decide), mo_I b2 (i := 24) (j := 20) (by decide) (by decide) (by decide), mo_I b2 (i := 24) (j := 21) (by decide) (by decide) (by decide), mo_I b2 (i := 24) (j := 22) (by decide) (by decide) (by decide), mo_I b2 (i := 24) (j := 23) (by decide) (by decide) (by decide)]
          exact z
        refine ⟨_, by rw [← hw]; exact eb, ?_, rfl, b2, bk.trans (kb_M_clean_8 (C := cT) (mi := 0) eb), ?_, fun i hi => ?_, fun i d hd => ?_, fun i d hi hd => ce i d (by omega) (b6 i d (by omega) hd), ?_, b8⟩
        · rw [fe, List.length_append, ← hw]; rfl
        · simp (disch := omega) only [gd_T, dr_S, nm_v, cl_S, cv_S, bd_S, lk_L, lk_R, zbw_b, isK_e, isPg_3, isPg_4, isPg_6, asV_n, beq_self_eq_true, inb_N, inb_0, le_T, le_F, lt_T, lt_F, eq_F, le_0T, lt_0F, le_0F, eq_0F, nI_1, nI_add, pk_mul, nI_clamp, cl_0, if_true, if_false, of_nI, T_wI, L_wI, R_wI, N_wI, S_wI, T_wR, L_wR, I_wR, N_wR, S_wR, I_same, R_same, I_wIn, I_wIk, R_wRn, R_wRk, T_nwo, T_nwn, L_nwo, L_nwn, I_nwo, I_nwn, R_nwo, R_nwn, N_nw, S_nw, nar_1, nar_0, nar_01, b01_t0, b01_f0, b01_t1, b01_f1, ne_sn, eq_sn, sn_inj, my_I b2 (i := 20) (by decide), my_I b2 (i := 21) (by decide), my_I b2 (i := 22) (by decide), my_I b2 (i := 23) (by decide), my_I b2 (i := 24) (by decide)]
          exact b3
        · simp (disch := omega) only [gd_T, dr_S, nm_v, cl_S, cv_S, bd_S, lk_L, lk_R, zbw_b, isK_e, isPg_3, isPg_4, isPg_6, asV_n, beq_self_eq_true, inb_N, inb_0, le_T, le_F, lt_T, lt_F, eq_F, le_0T, lt_0F, le_0F, eq_0F, nI_1, nI_add, pk_mul, nI_clamp, cl_0, if_true, if_false, of_nI, T_wI, L_wI, R_wI, N_wI, S_wI, T_wR, L_wR, I_wR, N_wR, S_wR, I_same, R_same, I_wIn, I_wIk, R_wRn, R_wRk, T_nwo, T_nwn, L_nwo, L_nwn, I_nwo, I_nwn, R_nwo, R_nwn, N_nw, S_nw, nar_1, nar_0, nar_01, b01_t0, b01_f0, b01_t1, b01_f1, ne_sn, eq_sn, sn_inj, mo_I b2 (i := 20) (j := 12) (by decide) (by decide) (by decide), mo_I b2 (i := 21) (j := 12) (by decide) (by decide) (by decide), mo_I b2 (i := 22) (j := 12) (by decide) (by decide) (by decide), mo_I b2 (i := 23) (j := 12) (by decide) (by decide) (by decide), mo_I b2 (i := 24) (j := 12) (by decide) (by decide) (by decide)]
          exact b4 i hi
        · rw [fe] at hd
          rcases app_at hd with ⟨z1, z2⟩ | ⟨z1, z2⟩
          · exact ce i d (by rw [hw]; omega) (b5 i d z2)
          · subst z2
            rw [z1, ← hw]
            unfold CE
            simp (disch := omega) only [gd_T, dr_S, nm_v, cl_S, cv_S, bd_S, lk_L, lk_R, zbw_b, isK_e, isPg_3, isPg_4, isPg_6, asV_n, beq_self_eq_true, inb_N, inb_0, le_T, le_F, lt_T, lt_F, eq_F, le_0T, lt_0F, le_0F, eq_0F, nI_1, nI_add, pk_mul, nI_clamp, cl_0, if_true, if_false, of_nI, T_wI, L_wI, R_wI, N_wI, S_wI, T_wR, L_wR, I_wR, N_wR, S_wR, I_same, R_same, I_wIn, I_wIk, R_wRn, R_wRk, T_nwo, T_nwn, L_nwo, L_nwn, I_nwo, I_nwn, R_nwo, R_nwn, N_nw, S_nw, nar_1, nar_0, nar_01, b01_t0, b01_f0, b01_t1, b01_f1, ne_sn, eq_sn, sn_inj, mo_I b2 (i := 20) (j := 21) (by decide) (by decide) (by decide), mo_I b2 (i := 20) (j := 22) (by decide) (by decide) (by decide), mo_I b2 (i := 20) (j := 23) (by decide) (by decide) (by decide), mo_I b2 (i := 20) (j := 24) (by decide) (by decide) (by decide), mo_I b2 (i := 21) (j := 20) (by decide) (by decide) (by decide), mo_I b2 (i := 21) (j := 22) (by decide) (by decide) (by decide), mo_I b2 (i := 21) (j := 23) (by decide) (by decide) (by decide), mo_I b2 (i := 21) (j := 24) (by decide) (by decide) (by decide), mo_I b2 (i := 22) (j := 20) (by decide) (by decide) (by decide), mo_I b2 (i := 22) (j := 21) (by decide) (by decide) (by decide), mo_I b2 (i := 22) (j := 23) (by decide) (by decide) (by decide), mo_I b2 (i := 22) (j := 24) (by decide) (by decide) (by decide), mo_I b2 (i := 23) (j := 20) (by decide) (by decide) (by decide), mo_I b2 (i := 23) (j := 21) (by decide) (by decide) (by decide), mo_I b2 (i := 23) (j := 22) (by decide) (by decide) (by decide), mo_I b2 (i := 23) (j := 24) (by decide) (by decide) (by decide), mo_I b2 (i := 24) (j := 20) (by decide) (by decide) (by decide), mo_I b2 (i := 24) (j := 21) (by decide) (by decide) (by decide), mo_I b2 (i := 24) (j := 22) (by decide) (by decide) (by decide), mo_I b2 (i := 24) (j := 23) (by decide) (by decide) (by decide)]
            exact ⟨trivial, trivial, trivial, trivial, trivial⟩
        · rw [ff]
          refine b7.ext (((((Sm.w b2 ?_ ?_ _ _ _).trans (Sm.w b2 ?_ ?_ _ _ _)).trans (Sm.w b2 ?_ ?_ _ _ _)).trans (Sm.w b2 ?_ ?_ _ _ _)).trans (Sm.w b2 ?_ ?_ _ _ _)) <;> decide
    · obtain ⟨a, b, q⟩ := s
      obtain ⟨b0, b1, b2, bk, b3, -⟩ := hs
      dsimp only at b0 b1 b2 b3
      subst b1
      show b_M_clean_8 y a (nI chs.length) q = _
      unfold b_M_clean_8
      simp (disch := omega) only [gd_T, dr_S, nm_v, cl_S, cv_S, bd_S, lk_L, lk_R, zbw_b, isK_e, isPg_3, isPg_4, isPg_6, asV_n, beq_self_eq_true, inb_N, inb_0, le_T, le_F, lt_T, lt_F, eq_F, le_0T, lt_0F, le_0F, eq_0F, nI_1, nI_add, pk_mul, nI_clamp, cl_0, if_true, if_false, of_nI, T_wI, L_wI, R_wI, N_wI, S_wI, T_wR, L_wR, I_wR, N_wR, S_wR, I_same, R_same, I_wIn, I_wIk, R_wRn, R_wRk, T_nwo, T_nwn, L_nwo, L_nwn, I_nwo, I_nwn, R_nwo, R_nwn, N_nw, S_nw, nar_1, nar_0, nar_01, b01_t0, b01_f0, b01_t1, b01_f1, ne_sn, eq_sn, sn_inj, b2.1, b3]
  obtain ⟨r, e, q1, q2, q3, q4, q5, q6⟩ := key
  rw [List.take_length] at q1 q3 q4
  have lf2 : (chs.filter fun id => !dead st np vers id).length ≤ 32 := Nat.le_trans (List.length_filter_le _ _) c2
  refine ⟨wI r.2 y 25 r.1, ?_, ⟨?_, lf2, fun i id hi => ?_⟩, q4.ext (Sm.wy q2 (by decide) (by decide) _ _), q5.trans n0, q6.trans s0⟩
  · unfold f_M_clean
    simp (disch := omega) only [gd_T, dr_S, nm_v, cl_S, cv_S, bd_S, lk_L, lk_R, zbw_b, isK_e, isPg_3, isPg_4, isPg_6, asV_n, beq_self_eq_true, inb_N, inb_0, le_T, le_F, lt_T, lt_F, eq_F, le_0T, lt_0F, le_0F, eq_0F, nI_1, nI_add, pk_mul, nI_clamp, cl_0, if_true, if_false, of_nI, T_wI, L_wI, R_wI, N_wI, S_wI, T_wR, L_wR, I_wR, N_wR, S_wR, I_same, R_same, I_wIn, I_wIk, R_wRn, R_wRk, T_nwo, T_nwn, L_nwo, L_nwn, I_nwo, I_nwn, R_nwo, R_nwn, N_nw, S_nw, nar_1, nar_0, nar_01, b01_t0, b01_f0, b01_t1, b01_f1, ne_sn, eq_sn, sn_inj, M.1, e0, e, q2.1]
  · rw [I_same, q1]
  · have := q3 i id hi
    unfold CE at this
    simp (disch := omega) only [gd_T, dr_S, nm_v, cl_S, cv_S, bd_S, lk_L, lk_R, zbw_b, isK_e, isPg_3, isPg_4, isPg_6, asV_n, beq_self_eq_true, inb_N, inb_0, le_T, le_F, lt_T, lt_F, eq_F, le_0T, lt_0F, le_0F, eq_0F, nI_1, nI_add, pk_mul, nI_clamp, cl_0, if_true, if_false, of_nI, T_wI, L_wI, R_wI, N_wI, S_wI, T_wR, L_wR, I_wR, N_wR, S_wR, I_same, R_same, I_wIn, I_wIk, R_wRn, R_wRk, T_nwo, T_nwn, L_nwo, L_nwn, I_nwo, I_nwn, R_nwo, R_nwn, N_nw, S_nw, nar_1, nar_0, nar_01, b01_t0, b01_f0, b01_t1, b01_f1, ne_sn, eq_sn, sn_inj, ym_I q2 (j := 20) (by decide), ym_I q2 (j := 21) (by decide), ym_I q2 (j := 22) (by decide), ym_I q2 (j := 23) (by decide), ym_I q2 (j := 24) (by decide)]
    exact this

/-! bits -/
theorem bt_1 : ∀ i, i < 32 → bt 1 i = decide (i = 0) := by decide +kernel
theorem bt_nI1 {n i : Nat} (hn : n < 32) (hi : i < 32) : bt ((1 : Int32) <<< (nI n &&& 31)) i = decide (i = n) := by
  rw [b_shl n hn 1 hi]
  by_cases q : n ≤ i
  · rw [decide_eq_true q, Bool.true_and, bt_1 _ (by omega)]
    by_cases z : i = n
    · rw [decide_eq_true z, decide_eq_true (by omega)]
    · rw [decide_eq_false z, decide_eq_false (by omega)]
  · rw [decide_eq_false q, Bool.false_and, decide_eq_false (by omega)]
theorem bt_b01 {b : Bool} {i : Nat} (hi : i < 32) : bt (b01 b) i = (decide (i = 0) && b) := by
  cases b
  · show bt 0 i = _
    rw [b_0, Bool.and_false]
  · show bt 1 i = _
    rw [bt_1 i hi, Bool.and_true]
theorem ushr_1 (x : Int32) {k : Nat} (hk : k < 32) : ushr x (nI k) &&& 1 = b01 (bt x k) := by
  apply b_ext
  intro i hi
  rw [b_and, bt_b01 hi, bt_1 i hi]
  unfold ushr
  rw [b_ushr k hk x i]
  by_cases q : i = 0
  · subst q
    rw [decide_eq_true rfl, Bool.and_true, Bool.true_and]; rfl
  · rw [decide_eq_false q, Bool.and_false, Bool.false_and]
theorem bt_set (x : Int32) {n i : Nat} (hn : n < 32) (hi : i < 32) : bt (x ||| ((1 : Int32) <<< (nI n &&& 31))) i = (bt x i || decide (i = n)) := by
  rw [b_or, bt_nI1 hn hi]
theorem bt_clr (x : Int32) {n i : Nat} (hn : n < 32) (hi : i < 32) : bt (x &&& (((1 : Int32) <<< (nI n &&& 31)) ^^^ (-1))) i = (bt x i && !decide (i = n)) := by
  rw [b_and, b_xor, bt_nI1 hn hi, b_m1 i hi]
  cases decide (i = n) <;> cases bt x i <;> rfl
theorem b01_1 {b : Bool} : b01 b = 1 ↔ b = true := by cases b <;> decide
/-! WHAT THE CLASS HOLDS NOW -/
def PN (h : Hp) (p a0 a1 : Nat) (now : Nat → Option Int32) : Prop := (hpT h p = 5 ∧ p < hpN h ∧ hpR h p 0 = some a0 ∧ hpT h a0 = 66 ∧ hpL h a0 = 128 ∧ a0 < hpN h ∧ hpR h p 1 = some a1 ∧ hpT h a1 = 67 ∧ hpL h a1 = 4 ∧ a1 < hpN h) ∧
  ∀ m k, m < 4 → k < 32 → bt (hpI h a1 m) k = (now (32 * m + k)).isSome ∧ ∀ v, now (32 * m + k) = some v → hpI h a0 (32 * m + k) = v
def PT (h : Hp) (p : Nat) (tl tm : Nat → Bool) : Prop := ∀ i, i < 32 → bt (hpI h p 2) i = (decide (i < 16) && tl i) ∧ bt (hpI h p 3) i = (decide (i < 4) && tm i)
theorem p_has {h : Hp} {p a0 a1 m k : Nat} {now : Nat → Option Int32} (N : PN h p a0 a1 now) (hm : m < 4) (hk : k < 32) : f_P_has p (nI m) (nI k) h = some (b01 (now (32 * m + k)).isSome, h) := by
  obtain ⟨⟨n1, n2, n3, n4, n5, n6, n7, n8, n9, n10⟩, n11⟩ := N
  have e : f0_P_has p (nI m) (nI k) h = some (b01 (now (32 * m + k)).isSome, h) := by
    unfold f0_P_has
    rw [gd_t (isK_of n1), dr_s n7, gd_t (isK_of n8), gd_t (inb_n (by omega) (by omega)), nI_clamp (by omega), ushr_1 _ hk, (n11 m k hm hk).1]
    cases (now (32 * m + k)).isSome with
    | false => rw [if_neg (by decide)]; rfl
    | true => rw [if_pos (by decide)]; rfl
  refine zbw_s e ?_
  cases (now (32 * m + k)).isSome <;> decide
theorem idx_inj {m k m' k' : Nat} (hk : k < 32) (hk' : k' < 32) (e : 32 * m' + k' = 32 * m + k) : m' = m ∧ k' = k := by omega
theorem p_touch {h : Hp} {p m j : Nat} {tl tm : Nat → Bool} (h1 : hpT h p = 5) (T : PT h p tl tm) (hm : m < 4) (hj : j < 4) : ∃ h', f_P_touchLeaf p (nI m) (nI j) h = some h' ∧ h' = wI h p 2 (hpI h p 2 ||| ((1 : Int32) <<< (nI (4 * m + j) &&& 31))) ∧ PT h' p (va_up tl (4 * m + j) true) tm := by
  refine ⟨_, ?_, rfl, fun i hi => ⟨?_, ?_⟩⟩
  · unfold f_P_touchLeaf
    rw [gd_t (isK_of h1), nm_v, ix_4]
  · rw [I_same, bt_set _ (by omega) hi, (T i hi).1]
    unfold va_up
    by_cases q : i = 4 * m + j
    · rw [if_pos q, decide_eq_true q, Bool.or_true, decide_eq_true (by omega), Bool.and_true]
    · rw [if_neg q, decide_eq_false q, Bool.or_false]
  · rw [I_ne (Or.inr (by decide))]; exact (T i hi).2
theorem p_assign {h : Hp} {p a0 a1 m k : Nat} {now : Nat → Option Int32} {tl tm : Nat → Bool} {v : Int32} (N : PN h p a0 a1 now) (T : PT h p tl tm) (hm : m < 4) (hk : k < 32) :
    ∃ h', f_P_assign p (nI m) (nI k) v h = some h' ∧ PN h' p a0 a1 (va_up now (32 * m + k) (some v)) ∧ PT h' p (va_up tl (4 * m + k / 8) true) tm ∧ Only [p, a0, a1] h h' ∧ hpN h' = hpN h ∧ hpS h' = hpS h := by
  have N0 := N
  obtain ⟨⟨n1, n2, n3, n4, n5, n6, n7, n8, n9, n10⟩, n11⟩ := N
  have q01 : a0 ≠ a1 := ne_T (h := h) (by rw [n4, n8]; decide)
  have qp0 : p ≠ a0 := ne_T (h := h) (by rw [n1, n4]; decide)
  have qp1 : p ≠ a1 := ne_T (h := h) (by rw [n1, n8]; decide)
  obtain ⟨g, hg⟩ : ∃ g, g = wI (wI h a0 (32 * m + k) v) a1 m (hpI h a1 m ||| ((1 : Int32) <<< (nI k &&& 31))) := ⟨_, rfl⟩
  have Tg : PT g p tl tm := fun i hi => by
    rw [hg, I_ne (Or.inl qp1), I_ne (Or.inl qp0), I_ne (Or.inl qp1), I_ne (Or.inl qp0)]
    exact T i hi
  obtain ⟨h', t1, t2, t3⟩ := p_touch (h := g) (m := m) (j := k / 8) (by rw [hg]; exact n1) Tg hm (by omega)
  refine ⟨h', ?_, ?_, t3, ?_, by rw [t2, hg]; rfl, by rw [t2, hg]; rfl⟩
  · unfold f_P_assign
    simp only [nm_v, R_wI, L_wI, K_wI]
    rw [gd_t (isK_of n1), dr_s n3, gd_t (isK_of n4), ix_32, gd_t (inb_n (by omega) (by omega)), dr_s n7, gd_t (isK_of n8), gd_t (inb_n (by omega) (by omega)), nI_clamp (by omega), nI_clamp (by omega), I_ne (Or.inl q01.symm), ← hg, ix_d8 (by omega), cv_s t1]
  · refine ⟨by rw [t2, hg]; exact ⟨n1, n2, n3, n4, n5, n6, n7, n8, n9, n10⟩, fun m' k' hm' hk' => ?_⟩
    obtain ⟨r1, r2⟩ := n11 m' k' hm' hk'
    rw [t2, I_ne (Or.inl qp1.symm), I_ne (Or.inl qp0.symm), hg]
    unfold va_up
    by_cases q : 32 * m' + k' = 32 * m + k
    · obtain ⟨rfl, rfl⟩ := idx_inj hk hk' q
      rw [if_pos rfl]
      refine ⟨?_, fun v' hv => ?_⟩
      · rw [I_same, bt_set _ hk hk, decide_eq_true rfl, Bool.or_true]; rfl
      · cases hv
        rw [I_ne (Or.inl q01), I_same]
    · rw [if_neg q]
      refine ⟨?_, fun v' hv => ?_⟩
      · by_cases z : m' = m
        · subst z
          rw [I_same, bt_set _ hk hk', decide_eq_false (by omega), Bool.or_false]; exact r1
        · rw [I_ne (Or.inr z), I_ne (Or.inl q01.symm)]; exact r1
      · rw [I_ne (Or.inl q01), I_ne (Or.inr q)]; exact r2 v' hv
  · rw [t2, hg]
    exact Only.trans (on_wI (by simp)) (Only.trans (on_wI (by simp)) (on_wI (by simp)))
theorem p_erase {h : Hp} {p a0 a1 m k : Nat} {now : Nat → Option Int32} {tl tm : Nat → Bool} (N : PN h p a0 a1 now) (T : PT h p tl tm) (hm : m < 4) (hk : k < 32) :
    ∃ h', f_P_erase p (nI m) (nI k) h = some h' ∧ PN h' p a0 a1 (va_up now (32 * m + k) none) ∧ PT h' p (va_up tl (4 * m + k / 8) true) tm ∧ Only [p, a0, a1] h h' ∧ hpN h' = hpN h ∧ hpS h' = hpS h := by
  obtain ⟨⟨n1, n2, n3, n4, n5, n6, n7, n8, n9, n10⟩, n11⟩ := N
  have q01 : a0 ≠ a1 := ne_T (h := h) (by rw [n4, n8]; decide)
  have qp0 : p ≠ a0 := ne_T (h := h) (by rw [n1, n4]; decide)
  have qp1 : p ≠ a1 := ne_T (h := h) (by rw [n1, n8]; decide)
  obtain ⟨g, hg⟩ : ∃ g, g = wI h a1 m (hpI h a1 m &&& (((1 : Int32) <<< (nI k &&& 31)) ^^^ (-1))) := ⟨_, rfl⟩
  have Tg : PT g p tl tm := fun i hi => by
    rw [hg, I_ne (Or.inl qp1), I_ne (Or.inl qp1)]
    exact T i hi
  obtain ⟨h', t1, t2, t3⟩ := p_touch (h := g) (m := m) (j := k / 8) (by rw [hg]; exact n1) Tg hm (by omega)
  refine ⟨h', ?_, ?_, t3, ?_, by rw [t2, hg]; rfl, by rw [t2, hg]; rfl⟩
  · unfold f_P_erase
    simp only [nm_v, R_wI, L_wI, K_wI]
    rw [gd_t (isK_of n1), dr_s n7, gd_t (isK_of n8), gd_t (inb_n (by omega) (by omega)), nI_clamp (by omega), ← hg, ix_d8 (by omega), cv_s t1]
  · refine ⟨by rw [t2, hg]; exact ⟨n1, n2, n3, n4, n5, n6, n7, n8, n9, n10⟩, fun m' k' hm' hk' => ?_⟩
    obtain ⟨r1, r2⟩ := n11 m' k' hm' hk'
    rw [t2, I_ne (Or.inl qp1.symm), I_ne (Or.inl qp0.symm), hg]
    unfold va_up
    by_cases q : 32 * m' + k' = 32 * m + k
    · obtain ⟨rfl, rfl⟩ := idx_inj hk hk' q
      rw [if_pos rfl]
      refine ⟨?_, fun v' hv => by cases hv⟩
      rw [I_same, bt_clr _ hk hk, decide_eq_true rfl, Bool.not_true, Bool.and_false]; rfl
    · rw [if_neg q]
      refine ⟨?_, fun v' hv => ?_⟩
      · by_cases z : m' = m
        · subst z
          rw [I_same, bt_clr _ hk hk', decide_eq_false (by omega), Bool.not_false, Bool.and_true]; exact r1
        · rw [I_ne (Or.inr z)]; exact r1
      · rw [I_ne (Or.inl q01)]; exact r2 v' hv
  · rw [t2, hg]
    exact Only.trans (on_wI (by simp)) (on_wI (by simp))
/-- the class's object: its parts -/
def XO (h : Hp) (x p F cs vs : Nat) : Prop := hpT h x = 0 ∧ x < hpN h ∧ hpR h x 0 = some p ∧ hpR h x 1 = some F ∧ hpR h x 2 = some cs ∧ hpR h x 3 = some vs
theorem x_put {h : Hp} {x p F cs vs a0 a1 m k : Nat} {now : Nat → Option Int32} {tl tm : Nat → Bool} {v : Int32} (X : XO h x p F cs vs) (N : PN h p a0 a1 now) (T : PT h p tl tm) (hm : m < 4) (hk : k < 32) :
    ∃ h', f_X_put x (nI m) (nI k) v h = some (b01 (now (32 * m + k)).isSome, h') ∧ PN h' p a0 a1 (va_up now (32 * m + k) (some v)) ∧ PT h' p (va_up tl (4 * m + k / 8) true) tm ∧ Only [p, a0, a1] h h' ∧ hpN h' = hpN h ∧ hpS h' = hpS h := by
  obtain ⟨h', f1, f2⟩ := p_assign (v := v) N T hm hk
  refine ⟨h', ?_, f2⟩
  unfold f_X_put
  rw [cl_s (key_ok hm hk h), if_neg (by decide), gd_t (isK_of X.1), dr_s X.2.2.1, gd_t (isK_of N.1.1), cl_s (p_has N hm hk), gd_t (isK_of X.1), dr_s X.2.2.1, gd_t (isK_of N.1.1), cv_s f1]
  cases (now (32 * m + k)).isSome with
  | false => rw [if_pos (by decide)]; rfl
  | true => rw [if_neg (by decide)]; rfl
theorem x_put_out {h : Hp} {x : Nat} {a b v : Int32} (hx : (a < 0 ∨ nI 4 ≤ a) ∨ (b < 0 ∨ nI 32 ≤ b)) : f_X_put x a b v h = some (-1, h) := by
  unfold f_X_put
  rw [cl_s (key_out hx h), if_pos rfl]
theorem m_two_out {a b : Int32} (hx : (a < 0 ∨ nI 4 ≤ a) ∨ (b < 0 ∨ nI 32 ≤ b)) (h : Hp) : f_M_in a (nI 4) h = some (0, h) ∨ (f_M_in a (nI 4) h = some (1, h) ∧ f_M_in b (nI 32) h = some (0, h)) := by
  rcases hx with q | q
  · exact Or.inl (in_out q h)
  · rcases pk_ix a (n := 4) (by decide) with z | z | ⟨j, hj, rfl⟩
    · exact Or.inl (in_out (Or.inl z) h)
    · exact Or.inl (in_out (Or.inr z) h)
    · exact Or.inr ⟨in_ok hj (by decide) h, in_out q h⟩
theorem m_put_out {h : Hp} {y : Nat} {a b v : Int32} (hx : (a < 0 ∨ nI 4 ≤ a) ∨ (b < 0 ∨ nI 32 ≤ b)) : f_M_put y a b v h = some (-1, h) := by
  unfold f_M_put
  rcases m_two_out hx h with q | ⟨q1, q2⟩
  · rw [cl_s q, if_pos rfl]
  · rw [cl_s q1, if_neg (by decide), cl_s q2, if_pos rfl]
theorem x_remove {h : Hp} {x p F cs vs a0 a1 m k : Nat} {now : Nat → Option Int32} {tl tm : Nat → Bool} (X : XO h x p F cs vs) (N : PN h p a0 a1 now) (T : PT h p tl tm) (hm : m < 4) (hk : k < 32) :
    (now (32 * m + k) = none → f_X_remove x (nI m) (nI k) h = some (0, h)) ∧ ((now (32 * m + k)).isSome = true → ∃ h', f_X_remove x (nI m) (nI k) h = some (1, h') ∧ PN h' p a0 a1 (va_up now (32 * m + k) none) ∧ PT h' p (va_up tl (4 * m + k / 8) true) tm ∧ Only [p, a0, a1] h h' ∧ hpN h' = hpN h ∧ hpS h' = hpS h) := by
  have e : f_X_remove x (nI m) (nI k) h = if b01 (now (32 * m + k)).isSome = 0 then some (0, h) else cv (f_P_erase p (nI m) (nI k) h) fun h19 => some (1, h19) := by
    unfold f_X_remove
    rw [cl_s (key_ok hm hk h), if_neg (by decide), gd_t (isK_of X.1), dr_s X.2.2.1, gd_t (isK_of N.1.1), cl_s (p_has N hm hk), gd_t (isK_of X.1), dr_s X.2.2.1, gd_t (isK_of N.1.1)]
  refine ⟨fun q => ?_, fun q => ?_⟩
  · rw [e, q]; rfl
  · obtain ⟨h', f1, f2⟩ := p_erase N T hm hk
    refine ⟨h', ?_, f2⟩
    rw [e, q, if_neg (by decide), cv_s f1]
theorem x_remove_out {h : Hp} {x : Nat} {a b : Int32} (hx : (a < 0 ∨ nI 4 ≤ a) ∨ (b < 0 ∨ nI 32 ≤ b)) : f_X_remove x a b h = some (-1, h) := by
  unfold f_X_remove
  rw [cl_s (key_out hx h), if_pos rfl]
def gv (o : Option Int32) : Int64 := match o with
  | none => 1099511627776
  | some v => v.toInt64
theorem x_get {h : Hp} {x p F cs vs a0 a1 m k : Nat} {now : Nat → Option Int32} (X : XO h x p F cs vs) (N : PN h p a0 a1 now) (hm : m < 4) (hk : k < 32) : f_X_get x (nI m) (nI k) h = some (gv (now (32 * m + k)), h) := by
  unfold f_X_get
  rw [cl_s (key_ok hm hk h), if_neg (by decide), gd_t (isK_of X.1), dr_s X.2.2.1, gd_t (isK_of N.1.1), cl_s (p_has N hm hk)]
  cases hv : now (32 * m + k) with
  | none => rfl
  | some v =>
    have e : f_P_valueOf p (nI m) (nI k) h = some (v, h) := by
      obtain ⟨⟨n1, n2, n3, n4, n5, n6, n7, n8, n9, n10⟩, n11⟩ := N
      unfold f_P_valueOf
      rw [gd_t (isK_of n1), dr_s n3, gd_t (isK_of n4), ix_32, gd_t (inb_n (by omega) (by omega)), nI_clamp (by omega), (n11 m k hm hk).2 v hv]
    rw [if_neg (show ¬ b01 (some v).isSome = 0 from fun q => by cases q), gd_t (isK_of X.1), dr_s X.2.2.1, gd_t (isK_of N.1.1), cl_s e]
    rfl
theorem x_get_out {h : Hp} {x : Nat} {a b : Int32} (hx : (a < 0 ∨ nI 4 ≤ a) ∨ (b < 0 ∨ nI 32 ≤ b)) : f_X_get x a b h = some (2199023255552, h) := by
  unfold f_X_get
  rw [cl_s (key_out hx h), if_pos rfl]

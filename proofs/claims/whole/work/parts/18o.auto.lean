/-! STEPPING BY simp: the combinators at known values -/
theorem gd_T {α : Type} (k : Option α) : gd true k = k := rfl
theorem dr_S {α : Type} (a : Nat) (f : Nat → Option α) : dr (some a) f = f a := rfl
theorem cl_S {α β : Type} (v : α) (h : Hp) (f : α → Hp → Option β) : cl (some (v, h)) f = f v h := rfl
theorem cv_S {β : Type} (h : Hp) (f : Hp → Option β) : cv (some h) f = f h := rfl
theorem bd_S {α β : Type} (x : α) (f : α → Option β) : bd (some x) f = f x := rfl
theorem lk_L {α β γ : Type} (x : α) (f : α → Option γ) (g : β → Option γ) : lk (some (Sum.inl x)) f g = f x := rfl
theorem lk_R {α β γ : Type} (x : β) (f : α → Option γ) (g : β → Option γ) : lk (some (Sum.inr x)) f g = g x := rfl
theorem zbw_b (b : Bool) (h : Hp) : zbw (some (b01 b, h)) = some (b01 b, h) := zbw_s rfl (zb_b b)
theorem isK_e (h : Hp) (a κ : Nat) : isK h a κ = (hpT h a == κ) := rfl
theorem isPg_3 {h : Hp} {a : Nat} (e : hpT h a = 3) : isPg h a = true := by unfold isPg; rw [e]; rfl
theorem isPg_4 {h : Hp} {a : Nat} (e : hpT h a = 4) : isPg h a = true := by unfold isPg; rw [e]; rfl
theorem isPg_6 {h : Hp} {a : Nat} (e : hpT h a = 6) : isPg h a = true := by unfold isPg; rw [e]; rfl
theorem asV_n (h : Hp) (a : Nat) : asV h none a = true := rfl
theorem inb_N {k n : Nat} (hk : k < n) (hn : n < 2 ^ 31) : inb (nI k) n = true := inb_n hk hn
theorem inb_0 {n : Nat} (hk : 0 < n) (hn : n < 2 ^ 31) : inb 0 n = true := inb_n (k := 0) hk hn
theorem le_T {a b : Nat} (h : a ≤ b) (hb : b < 2 ^ 31) : (nI a ≤ nI b) = True := eq_true (nI_le h hb)
theorem le_F {a b : Nat} (h : b < a) (ha : a < 2 ^ 31) : (nI a ≤ nI b) = False := eq_false (nI_ge h ha)
theorem lt_T {a b : Nat} (h : a < b) (hb : b < 2 ^ 31) : (nI a < nI b) = True := eq_true (nI_lt h hb)
theorem lt_F {a b : Nat} (h : b ≤ a) (ha : a < 2 ^ 31) : (nI a < nI b) = False := eq_false (nI_nlt h ha)
theorem eq_F {a b : Nat} (h : a ≠ b) (ha : a < 2 ^ 31) (hb : b < 2 ^ 31) : (nI a = nI b) = False := eq_false (fun q => h ((nI_eq ha hb).mp q))
theorem le_0T {a : Nat} (ha : a < 2 ^ 31) : ((0 : Int32) ≤ nI a) = True := eq_true (nI_le (a := 0) (Nat.zero_le _) ha)
theorem lt_0F {a : Nat} (ha : a < 2 ^ 31) : (nI a < (0 : Int32)) = False := eq_false (nI_pos ha)
theorem le_0F {a : Nat} (h : 0 < a) (ha : a < 2 ^ 31) : (nI a ≤ (0 : Int32)) = False := eq_false (nI_nle h ha)
theorem eq_0F {a : Nat} (h : 0 < a) (ha : a < 2 ^ 31) : (nI a = (0 : Int32)) = False := eq_false (nI_ne0 h ha)
theorem cl_0 : (0 : Int32).toNatClampNeg = 0 := rfl
theorem of_nI (n : Nat) : Int32.ofNat n = nI n := rfl
theorem N_wI (h : Hp) (a k : Nat) (v : Int32) : hpN (wI h a k v) = hpN h := rfl
theorem S_wI (h : Hp) (a k : Nat) (v : Int32) : hpS (wI h a k v) = hpS h := rfl
theorem N_wR (h : Hp) (a k : Nat) (v : Option Nat) : hpN (wR h a k v) = hpN h := rfl
theorem S_wR (h : Hp) (a k : Nat) (v : Option Nat) : hpS (wR h a k v) = hpS h := rfl
theorem R_same {h : Hp} {a k : Nat} {v : Option Nat} : hpR (wR h a k v) a k = v := if_pos ⟨rfl, rfl⟩
theorem I_wIn {h : Hp} {a k b j : Nat} {v : Int32} (q : b ≠ a) : hpI (wI h a k v) b j = hpI h b j := if_neg (fun z => q z.1)
theorem I_wIk {h : Hp} {a k b j : Nat} {v : Int32} (q : j ≠ k) : hpI (wI h a k v) b j = hpI h b j := if_neg (fun z => q z.2)
theorem R_wRn {h : Hp} {a k b j : Nat} {v : Option Nat} (q : b ≠ a) : hpR (wR h a k v) b j = hpR h b j := if_neg (fun z => q z.1)
theorem R_wRk {h : Hp} {a k b j : Nat} {v : Option Nat} (q : j ≠ k) : hpR (wR h a k v) b j = hpR h b j := if_neg (fun z => q z.2)
theorem T_nwo {h : Hp} {κ n w b : Nat} (q : b < hpN h) : hpT (nw h κ n w) b = hpT h b := if_neg (by omega)
theorem L_nwo {h : Hp} {κ n w b : Nat} (q : b < hpN h) : hpL (nw h κ n w) b = hpL h b := if_neg (by omega)
theorem I_nwo {h : Hp} {κ n w b j : Nat} (q : b < hpN h) : hpI (nw h κ n w) b j = hpI h b j := if_neg (by omega)
theorem R_nwo {h : Hp} {κ n w b j : Nat} (q : b < hpN h) : hpR (nw h κ n w) b j = hpR h b j := if_neg (by omega)
theorem T_nwn {h : Hp} {κ n w b : Nat} (q : b = hpN h) : hpT (nw h κ n w) b = κ := if_pos q
theorem L_nwn {h : Hp} {κ n w b : Nat} (q : b = hpN h) : hpL (nw h κ n w) b = n := if_pos q
theorem I_nwn {h : Hp} {κ n w b j : Nat} (q : b = hpN h) : hpI (nw h κ n w) b j = 0 := if_pos q
theorem R_nwn {h : Hp} {κ n w b j : Nat} (q : b = hpN h) : hpR (nw h κ n w) b j = none := if_pos q
theorem N_nw (h : Hp) (κ n w : Nat) : hpN (nw h κ n w) = hpN h + 1 := rfl
theorem S_nw (h : Hp) (κ n w : Nat) : hpS (nw h κ n w) = hpS h + w := rfl
theorem nar_1 : vp_nar .boolean (1 : Int32) = 1 := rfl
theorem nar_0 : vp_nar .boolean (0 : Int32) = 0 := rfl
theorem b01_t0 : (b01 true = (0 : Int32)) = False := eq_false (by decide)
theorem b01_f0 : (b01 false = (0 : Int32)) = True := eq_true rfl
theorem b01_t1 : (b01 true = (1 : Int32)) = True := eq_true rfl
theorem b01_f1 : (b01 false = (1 : Int32)) = False := eq_false (by decide)
theorem ne_sn (a : Nat) : (some a = (none : Option Nat)) = False := eq_false (fun q => by cases q)
theorem eq_sn : ((none : Option Nat) = none) = True := eq_true rfl
theorem sn_inj (a b : Nat) : (some a = some b) = (a = b) := propext ⟨fun q => by cases q; rfl, fun q => by rw [q]⟩
/-- a loop whose states are known: x 0, x 1, .., x N -/
theorem lp_tr {S R : Type} {b : S → Option (S ⊕ R)} (x : Nat → S) (N : Nat) (r : R) (hN : N < 4096) (hs : ∀ j, j < N → b (x j) = some (.inl (x (j + 1)))) (he : b (x N) = some (.inr r)) : lp b FU (x 0) = some r := by
  obtain ⟨r', e, q⟩ := lp_up (b := b) (fun j s => s = x j) (fun q => q = r) N hN (s := x 0) rfl (fun j s hj hs' => by subst hs'; exact Or.inl ⟨_, hs j hj, rfl⟩) (fun s hs' => by subst hs'; exact ⟨_, he, rfl⟩)
  rw [e, q]
/-- how many below n -/
def cn (f : Nat → Bool) : Nat → Nat
  | 0 => 0
  | n + 1 => cn f n + (bif f n then 1 else 0)
theorem cn_le (f : Nat → Bool) (n : Nat) : cn f n ≤ n := by
  induction n with
  | zero => exact Nat.le_refl _
  | succ n ih =>
    show cn f n + _ ≤ _
    cases f n
    · show cn f n + 0 ≤ _; omega
    · show cn f n + 1 ≤ _; omega
theorem cn_t {f : Nat → Bool} {n : Nat} (h : f n = true) : cn f (n + 1) = cn f n + 1 := by show cn f n + _ = _; rw [h]; rfl
theorem cn_f {f : Nat → Bool} {n : Nat} (h : f n = false) : cn f (n + 1) = cn f n := by show cn f n + _ = _; rw [h]; rfl
theorem cn_ext {f g : Nat → Bool} {n : Nat} (h : ∀ i, i < n → f i = g i) : cn f n = cn g n := by
  induction n with
  | zero => rfl
  | succ n ih => show cn f n + _ = cn g n + _; rw [ih (fun i hi => h i (by omega)), h n (by omega)]
/-- a loop that counts: state (n, i, h) -/
theorem lp_cn {b : Int32 × Int32 × Hp → Option ((Int32 × Int32 × Hp) ⊕ (Int32 × Hp))} (h : Hp) (f : Nat → Bool) (c N : Nat) (hN : N < 4096) (h1 : ∀ (n j : Nat), j < N → f j = true → b (nI n, nI j, h) = some (.inl (nI (n + 1), nI (j + 1), h))) (h0 : ∀ (n j : Nat), j < N → f j = false → b (nI n, nI j, h) = some (.inl (nI n, nI (j + 1), h))) (he : ∀ n, b (nI n, nI N, h) = some (.inr (nI n, h))) :
    lp b FU (nI c, (0 : Int32), h) = some (nI (c + cn f N), h) := by
  refine lp_tr (fun j => (nI (c + cn f j), nI j, h)) N _ hN (fun j hj => ?_) (he _)
  cases hf : f j with
  | true => rw [h1 _ j hj hf, cn_t hf, Nat.add_assoc]
  | false => rw [h0 _ j hj hf, cn_f hf]
/-! THE CLASS: what is touched -/
theorem bt_nz {x : Int32} {i : Nat} (h : bt x i = true) : ¬ x = 0 := fun e => by rw [e, b_0] at h; cases h
theorem bt_z {x : Int32} (h : ∀ i, i < 32 → bt x i = false) : x = 0 := b_ext (fun i hi => by rw [h i hi, b_0])
theorem sshr_1 (x : Int32) {k : Nat} (hk : k < 31) : (x >>> (nI k &&& 31)) &&& 1 = b01 (bt x k) := by
  apply b_ext
  intro i hi
  rw [b_and, bt_b01 hi, bt_1 i hi, b_sshr k (by omega) x hi]
  by_cases q : i = 0
  · subst q
    rw [decide_eq_true rfl, Bool.and_true, Bool.true_and, Nat.add_zero, if_pos (by omega)]
  · rw [decide_eq_false q, Bool.and_false, Bool.false_and]
theorem b_15 : ∀ i, i < 32 → bt (nI 15) i = decide (i < 4) := by decide +kernel
theorem p_isLeafTouched {h : Hp} {p m j : Nat} {tl tm : Nat → Bool} (hp : hpT h p = 5) (T : PT h p tl tm) (hm : m < 4) (hj : j < 4) : f_P_isLeafTouched p (nI m) (nI j) h = some (b01 (tl (4 * m + j)), h) := by
  have e : bt (hpI h p 2) (4 * m + j) = tl (4 * m + j) := by rw [(T _ (by omega)).1, decide_eq_true (by omega), Bool.true_and]
  refine zbw_s ?_ (zb_b _)
  unfold f0_P_isLeafTouched
  simp (disch := omega) only [gd_T, dr_S, nm_v, cl_S, cv_S, bd_S, lk_L, lk_R, zbw_b, isK_e, isPg_3, isPg_4, isPg_6, asV_n, beq_self_eq_true, inb_N, inb_0, le_T, le_F, lt_T, lt_F, eq_F, le_0T, lt_0F, le_0F, eq_0F, nI_1, nI_add, pk_mul, nI_clamp, cl_0, if_true, if_false, of_nI, T_wI, L_wI, R_wI, N_wI, S_wI, T_wR, L_wR, I_wR, N_wR, S_wR, I_same, R_same, I_wIn, I_wIk, R_wRn, R_wRk, T_nwo, T_nwn, L_nwo, L_nwn, I_nwo, I_nwn, R_nwo, R_nwn, N_nw, S_nw, nar_1, nar_0, nar_01, b01_t0, b01_f0, b01_t1, b01_f1, ne_sn, eq_sn, sn_inj, hp, sshr_1, e]
  cases tl (4 * m + j) <;> rfl
theorem p_isMapChanged {h : Hp} {p m : Nat} {tl tm : Nat → Bool} (hp : hpT h p = 5) (T : PT h p tl tm) (hm : m < 4) : f_P_isMapChanged p (nI m) h = some (b01 (mc tl tm m), h) := by
  have e : bt (hpI h p 3) m = tm m := by rw [(T _ (by omega)).2, decide_eq_true (by omega), Bool.true_and]
  have e4 : ∀ j, j < 4 → bt ((hpI h p 2 >>> (nI (4 * m) &&& 31)) &&& nI 15) j = tl (4 * m + j) := fun j hj => by
    rw [b_and, b_15 j (by omega), decide_eq_true hj, Bool.and_true, b_sshr _ (by omega) _ (by omega), if_pos (by omega), (T _ (by omega)).1, decide_eq_true (by omega), Bool.true_and]
  refine zbw_s ?_ (zb_b _)
  unfold f0_P_isMapChanged
  simp (disch := omega) only [gd_T, dr_S, nm_v, cl_S, cv_S, bd_S, lk_L, lk_R, zbw_b, isK_e, isPg_3, isPg_4, isPg_6, asV_n, beq_self_eq_true, inb_N, inb_0, le_T, le_F, lt_T, lt_F, eq_F, le_0T, lt_0F, le_0F, eq_0F, nI_1, nI_add, pk_mul, nI_clamp, cl_0, if_true, if_false, of_nI, T_wI, L_wI, R_wI, N_wI, S_wI, T_wR, L_wR, I_wR, N_wR, S_wR, I_same, R_same, I_wIn, I_wIk, R_wRn, R_wRk, T_nwo, T_nwn, L_nwo, L_nwn, I_nwo, I_nwn, R_nwo, R_nwn, N_nw, S_nw, nar_1, nar_0, nar_01, b01_t0, b01_f0, b01_t1, b01_f1, ne_sn, eq_sn, sn_inj, hp, sshr_1, e]
  cases ht : tm m with
  | true =>
    simp (disch := omega) only [gd_T, dr_S, nm_v, cl_S, cv_S, bd_S, lk_L, lk_R, zbw_b, isK_e, isPg_3, isPg_4, isPg_6, asV_n, beq_self_eq_true, inb_N, inb_0, le_T, le_F, lt_T, lt_F, eq_F, le_0T, lt_0F, le_0F, eq_0F, nI_1, nI_add, pk_mul, nI_clamp, cl_0, if_true, if_false, of_nI, T_wI, L_wI, R_wI, N_wI, S_wI, T_wR, L_wR, I_wR, N_wR, S_wR, I_same, R_same, I_wIn, I_wIk, R_wRn, R_wRk, T_nwo, T_nwn, L_nwo, L_nwn, I_nwo, I_nwn, R_nwo, R_nwn, N_nw, S_nw, nar_1, nar_0, nar_01, b01_t0, b01_f0, b01_t1, b01_f1, ne_sn, eq_sn, sn_inj, mc, ht, Bool.true_or]
    rfl
  | false =>
    simp (disch := omega) only [gd_T, dr_S, nm_v, cl_S, cv_S, bd_S, lk_L, lk_R, zbw_b, isK_e, isPg_3, isPg_4, isPg_6, asV_n, beq_self_eq_true, inb_N, inb_0, le_T, le_F, lt_T, lt_F, eq_F, le_0T, lt_0F, le_0F, eq_0F, nI_1, nI_add, pk_mul, nI_clamp, cl_0, if_true, if_false, of_nI, T_wI, L_wI, R_wI, N_wI, S_wI, T_wR, L_wR, I_wR, N_wR, S_wR, I_same, R_same, I_wIn, I_wIk, R_wRn, R_wRk, T_nwo, T_nwn, L_nwo, L_nwn, I_nwo, I_nwn, R_nwo, R_nwn, N_nw, S_nw, nar_1, nar_0, nar_01, b01_t0, b01_f0, b01_t1, b01_f1, ne_sn, eq_sn, sn_inj, mc, ht, Bool.false_or]
    have e0 := e4 0 (by omega)
    have e1 := e4 1 (by omega)
    have e2 := e4 2 (by omega)
    have e3 := e4 3 (by omega)
    rw [Nat.add_zero] at e0
    by_cases z : (hpI h p 2 >>> (nI (4 * m) &&& 31)) &&& nI 15 = 0
    · rw [if_pos z]
      rw [z, b_0] at e0 e1 e2 e3
      rw [← e0, ← e1, ← e2, ← e3]; rfl
    · rw [if_neg z]
      cases q : (tl (4 * m) || (tl (4 * m + 1) || (tl (4 * m + 2) || tl (4 * m + 3)))) with
      | true => rfl
      | false =>
        simp only [Bool.or_eq_false_iff] at q
        refine absurd (bt_z (fun i hi => ?_)) z
        rcases Nat.lt_or_ge i 4 with c | c
        · have : i = 0 ∨ i = 1 ∨ i = 2 ∨ i = 3 := by omega
          rcases this with c | c | c | c <;> subst c
          · rw [e0]; exact q.1
          · rw [e1]; exact q.2.1
          · rw [e2]; exact q.2.2.1
          · rw [e3]; exact q.2.2.2
        · rw [b_and, b_15 i hi, decide_eq_false (by omega), Bool.and_false]
theorem p_leafKeys {h : Hp} {p a0 a1 m j : Nat} {now : Nat → Option Int32} (N : PN h p a0 a1 now) (hm : m < 4) (hj : j < 4) : ∃ v, f_P_leafKeys p (nI m) (nI j) h = some (v, h) ∧ (∀ x, x < 8 → bt v x = (now (32 * m + (8 * j + x))).isSome) ∧ ∀ x, 8 ≤ x → bt v x = false := by
  obtain ⟨⟨n1, n2, n3, n4, n5, n6, n7, n8, n9, n10⟩, n11⟩ := N
  refine ⟨ushr (hpI h a1 m) (nI (8 * j)) &&& nI 255, ?_, fun x hx => ?_, fun x hx => ?_⟩
  · unfold f_P_leafKeys
    simp (disch := omega) only [gd_T, dr_S, nm_v, cl_S, cv_S, bd_S, lk_L, lk_R, zbw_b, isK_e, isPg_3, isPg_4, isPg_6, asV_n, beq_self_eq_true, inb_N, inb_0, le_T, le_F, lt_T, lt_F, eq_F, le_0T, lt_0F, le_0F, eq_0F, nI_1, nI_add, pk_mul, nI_clamp, cl_0, if_true, if_false, of_nI, T_wI, L_wI, R_wI, N_wI, S_wI, T_wR, L_wR, I_wR, N_wR, S_wR, I_same, R_same, I_wIn, I_wIk, R_wRn, R_wRk, T_nwo, T_nwn, L_nwo, L_nwn, I_nwo, I_nwn, R_nwo, R_nwn, N_nw, S_nw, nar_1, nar_0, nar_01, b01_t0, b01_f0, b01_t1, b01_f1, ne_sn, eq_sn, sn_inj, n1, n7, n8, n9]
  · show bt (ushr (hpI h a1 m) (nI (8 * j)) &&& 255) x = _
    rw [b_and, b_255, decide_eq_true hx, Bool.and_true]
    unfold ushr
    rw [b_ushr _ (by omega)]
    exact (n11 m (8 * j + x) hm (by omega)).1
  · show bt (ushr (hpI h a1 m) (nI (8 * j)) &&& 255) x = _
    rw [b_and, b_255, decide_eq_false (by omega), Bool.and_false]
theorem p_needsLeaf {h : Hp} {p a0 a1 m j : Nat} {now : Nat → Option Int32} {tl tm : Nat → Bool} (N : PN h p a0 a1 now) (T : PT h p tl tm) (hm : m < 4) (hj : j < 4) : f_P_needsLeaf p (nI m) (nI j) h = some (b01 (tl (4 * m + j) && lh now m j), h) := by
  obtain ⟨v, v1, v2, v3⟩ := p_leafKeys N hm hj
  refine zbw_s ?_ (zb_b _)
  unfold f0_P_needsLeaf
  simp (disch := omega) only [gd_T, dr_S, nm_v, cl_S, cv_S, bd_S, lk_L, lk_R, zbw_b, isK_e, isPg_3, isPg_4, isPg_6, asV_n, beq_self_eq_true, inb_N, inb_0, le_T, le_F, lt_T, lt_F, eq_F, le_0T, lt_0F, le_0F, eq_0F, nI_1, nI_add, pk_mul, nI_clamp, cl_0, if_true, if_false, of_nI, T_wI, L_wI, R_wI, N_wI, S_wI, T_wR, L_wR, I_wR, N_wR, S_wR, I_same, R_same, I_wIn, I_wIk, R_wRn, R_wRk, T_nwo, T_nwn, L_nwo, L_nwn, I_nwo, I_nwn, R_nwo, R_nwn, N_nw, S_nw, nar_1, nar_0, nar_01, b01_t0, b01_f0, b01_t1, b01_f1, ne_sn, eq_sn, sn_inj, N.1.1, p_isLeafTouched N.1.1 T hm hj, v1]
  cases tl (4 * m + j) with
  | false => simp (disch := omega) only [gd_T, dr_S, nm_v, cl_S, cv_S, bd_S, lk_L, lk_R, zbw_b, isK_e, isPg_3, isPg_4, isPg_6, asV_n, beq_self_eq_true, inb_N, inb_0, le_T, le_F, lt_T, lt_F, eq_F, le_0T, lt_0F, le_0F, eq_0F, nI_1, nI_add, pk_mul, nI_clamp, cl_0, if_true, if_false, of_nI, T_wI, L_wI, R_wI, N_wI, S_wI, T_wR, L_wR, I_wR, N_wR, S_wR, I_same, R_same, I_wIn, I_wIk, R_wRn, R_wRk, T_nwo, T_nwn, L_nwo, L_nwn, I_nwo, I_nwn, R_nwo, R_nwn, N_nw, S_nw, nar_1, nar_0, nar_01, b01_t0, b01_f0, b01_t1, b01_f1, ne_sn, eq_sn, sn_inj, Bool.false_and]; rfl
  | true =>
    simp (disch := omega) only [gd_T, dr_S, nm_v, cl_S, cv_S, bd_S, lk_L, lk_R, zbw_b, isK_e, isPg_3, isPg_4, isPg_6, asV_n, beq_self_eq_true, inb_N, inb_0, le_T, le_F, lt_T, lt_F, eq_F, le_0T, lt_0F, le_0F, eq_0F, nI_1, nI_add, pk_mul, nI_clamp, cl_0, if_true, if_false, of_nI, T_wI, L_wI, R_wI, N_wI, S_wI, T_wR, L_wR, I_wR, N_wR, S_wR, I_same, R_same, I_wIn, I_wIk, R_wRn, R_wRk, T_nwo, T_nwn, L_nwo, L_nwn, I_nwo, I_nwn, R_nwo, R_nwn, N_nw, S_nw, nar_1, nar_0, nar_01, b01_t0, b01_f0, b01_t1, b01_f1, ne_sn, eq_sn, sn_inj, Bool.true_and]
    by_cases z : v = 0
    · rw [if_pos z, show lh now m j = false from any_f (fun x hx => by rw [← v2 x hx, z, b_0])]; rfl
    · rw [if_neg z, show lh now m j = true from ts_nf (fun q => z (bt_z (fun i hi => ?_)))]; rfl
      rcases Nat.lt_or_ge i 8 with c | c
      · rw [v2 i c]
        cases e : (now (32 * m + (8 * j + i))).isSome with
        | false => rfl
        | true => rw [show lh now m j = true from any_t.mpr ⟨i, c, e⟩] at q; cases q
      · exact v3 i c
theorem p_needsRoot {h : Hp} {p a0 a1 m : Nat} {now : Nat → Option Int32} {tl tm : Nat → Bool} (N : PN h p a0 a1 now) (T : PT h p tl tm) (hm : m < 4) : f_P_needsRoot p (nI m) h = some (b01 (mc tl tm m && mh now m), h) := by
  refine zbw_s ?_ (zb_b _)
  unfold f0_P_needsRoot
  simp (disch := omega) only [gd_T, dr_S, nm_v, cl_S, cv_S, bd_S, lk_L, lk_R, zbw_b, isK_e, isPg_3, isPg_4, isPg_6, asV_n, beq_self_eq_true, inb_N, inb_0, le_T, le_F, lt_T, lt_F, eq_F, le_0T, lt_0F, le_0F, eq_0F, nI_1, nI_add, pk_mul, nI_clamp, cl_0, if_true, if_false, of_nI, T_wI, L_wI, R_wI, N_wI, S_wI, T_wR, L_wR, I_wR, N_wR, S_wR, I_same, R_same, I_wIn, I_wIk, R_wRn, R_wRk, T_nwo, T_nwn, L_nwo, L_nwn, I_nwo, I_nwn, R_nwo, R_nwn, N_nw, S_nw, nar_1, nar_0, nar_01, b01_t0, b01_f0, b01_t1, b01_f1, ne_sn, eq_sn, sn_inj, N.1.1, p_isMapChanged N.1.1 T hm]
  obtain ⟨⟨n1, n2, n3, n4, n5, n6, n7, n8, n9, n10⟩, n11⟩ := N
  cases mc tl tm m with
  | false => simp (disch := omega) only [gd_T, dr_S, nm_v, cl_S, cv_S, bd_S, lk_L, lk_R, zbw_b, isK_e, isPg_3, isPg_4, isPg_6, asV_n, beq_self_eq_true, inb_N, inb_0, le_T, le_F, lt_T, lt_F, eq_F, le_0T, lt_0F, le_0F, eq_0F, nI_1, nI_add, pk_mul, nI_clamp, cl_0, if_true, if_false, of_nI, T_wI, L_wI, R_wI, N_wI, S_wI, T_wR, L_wR, I_wR, N_wR, S_wR, I_same, R_same, I_wIn, I_wIk, R_wRn, R_wRk, T_nwo, T_nwn, L_nwo, L_nwn, I_nwo, I_nwn, R_nwo, R_nwn, N_nw, S_nw, nar_1, nar_0, nar_01, b01_t0, b01_f0, b01_t1, b01_f1, ne_sn, eq_sn, sn_inj, Bool.false_and]; rfl
  | true =>
    simp (disch := omega) only [gd_T, dr_S, nm_v, cl_S, cv_S, bd_S, lk_L, lk_R, zbw_b, isK_e, isPg_3, isPg_4, isPg_6, asV_n, beq_self_eq_true, inb_N, inb_0, le_T, le_F, lt_T, lt_F, eq_F, le_0T, lt_0F, le_0F, eq_0F, nI_1, nI_add, pk_mul, nI_clamp, cl_0, if_true, if_false, of_nI, T_wI, L_wI, R_wI, N_wI, S_wI, T_wR, L_wR, I_wR, N_wR, S_wR, I_same, R_same, I_wIn, I_wIk, R_wRn, R_wRk, T_nwo, T_nwn, L_nwo, L_nwn, I_nwo, I_nwn, R_nwo, R_nwn, N_nw, S_nw, nar_1, nar_0, nar_01, b01_t0, b01_f0, b01_t1, b01_f1, ne_sn, eq_sn, sn_inj, Bool.true_and, n7, n8, n9]
    by_cases z : hpI h a1 m = 0
    · rw [if_pos z, show mh now m = false from any_f (fun j hj => any_f (fun x hx => by rw [← (n11 m (8 * j + x) hm (by omega)).1, z, b_0]))]; rfl
    · rw [if_neg z, show mh now m = true from ts_nf (fun q => z (bt_z (fun i hi => ?_)))]; rfl
      rw [(n11 m i hm hi).1]
      cases e : (now (32 * m + i)).isSome with
      | false => rfl
      | true => rw [show mh now m = true from any_t.mpr ⟨i / 8, by omega, any_t.mpr ⟨i % 8, by omega, by rw [show 8 * (i / 8) + i % 8 = i by omega]; exact e⟩⟩] at q; cases q

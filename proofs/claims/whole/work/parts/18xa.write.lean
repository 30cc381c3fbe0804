/-! what a commit writes -/
def lpg (now : Nat → Option Int32) (m j : Nat) : Pg := (0, fun _ => 0, fun x => now (32 * m + (8 * j + x)), m, j)
def nl (now : Nat → Option Int32) (tl : Nat → Bool) (m j : Nat) : Bool := tl (4 * m + j) && lh now m j
def wls (now : Nat → Option Int32) (tl : Nat → Bool) (m : Nat) (L : List Pg) : Nat → List Pg
  | 0 => L
  | n + 1 => wls now tl m L n ++ (bif nl now tl m n then [lpg now m n] else [])
def rld (now : Nat → Option Int32) (tl : Nat → Bool) (st : Nat → Pg) (bm id m : Nat) (L : List Pg) (j : Nat) : Nat := bif tl (4 * m + j) then (bif lh now m j then 32 * id + (wls now tl m L j).length else 0) else (if bm = 0 then 0 else lk2 st bm m j)
def rpg (now : Nat → Option Int32) (tl : Nat → Bool) (st : Nat → Pg) (bm id m : Nat) (L : List Pg) : Pg := (1, rld now tl st bm id m L, fun _ => none, m, 0)
def wmL (now : Nat → Option Int32) (tl tm : Nat → Bool) (st : Nat → Pg) (bm id m : Nat) (L : List Pg) : List Pg := bif mc tl tm m && mh now m then wls now tl m L 4 ++ [rpg now tl st bm id m L] else L
def wmk (now : Nat → Option Int32) (tl tm : Nat → Bool) (st : Nat → Pg) (bm id m : Nat) (L : List Pg) : Nat := bif mc tl tm m then (bif mh now m then 32 * id + (wls now tl m L 4).length else 0) else (if bm = 0 then 0 else ld st bm m)
def wms (now : Nat → Option Int32) (tl tm : Nat → Bool) (st : Nat → Pg) (bm id : Nat) : Nat → List Pg
  | 0 => []
  | m + 1 => wmL now tl tm st bm id m (wms now tl tm st bm id m)
def mpg (now : Nat → Option Int32) (tl tm : Nat → Bool) (st : Nat → Pg) (bm id ver : Nat) : Pg := (2, fun m => wmk now tl tm st bm id m (wms now tl tm st bm id m), fun _ => none, 0, ver)
def wal (now : Nat → Option Int32) (tl tm : Nat → Bool) (st : Nat → Pg) (bm id ver : Nat) : List Pg := wms now tl tm st bm id 4 ++ [mpg now tl tm st bm id ver]
theorem wls_len (now : Nat → Option Int32) (tl : Nat → Bool) (m : Nat) (L : List Pg) (n : Nat) : (wls now tl m L n).length = L.length + cn (nl now tl m) n := by
  induction n with
  | zero => rfl
  | succ n ih =>
    show (wls now tl m L n ++ _).length = L.length + (cn (nl now tl m) n + _)
    rw [List.length_append, ih]
    cases nl now tl m n
    · rfl
    · simp only [cond, List.length_cons, List.length_nil]; omega
theorem wmL_len (now : Nat → Option Int32) (tl tm : Nat → Bool) (st : Nat → Pg) (bm id m : Nat) (L : List Pg) : (wmL now tl tm st bm id m L).length = L.length + pm now tl tm m := by
  unfold wmL pm
  cases c : mc tl tm m && mh now m with
  | true =>
    show (wls now tl m L 4 ++ _).length = _
    rw [List.length_append, wls_len, List.length_singleton]
    show _ = _ + (cn (nl now tl m) 4 + 1)
    omega
  | false =>
    show L.length = L.length + (cn (nl now tl m) 4 + 0)
    rw [cn_z (fun j hj => ?_)]
    · rfl
    · unfold nl
      cases c1 : tl (4 * m + j) with
      | false => rfl
      | true =>
        cases c2 : lh now m j with
        | false => rfl
        | true =>
          exfalso
          have h1 : mc tl tm m = true := by
            unfold mc
            have : j = 0 ∨ j = 1 ∨ j = 2 ∨ j = 3 := by omega
            rcases this with q | q | q | q <;> subst q <;> (try simp only [Nat.add_zero] at c1) <;> rw [c1] <;> simp
          have h2 : mh now m = true := by unfold mh; exact any_t.mpr ⟨j, hj, c2⟩
          rw [h1, h2] at c; cases c
theorem wms_len (now : Nat → Option Int32) (tl tm : Nat → Bool) (st : Nat → Pg) (bm id n : Nat) : (wms now tl tm st bm id n).length = sm (pm now tl tm) n := by
  induction n with
  | zero => rfl
  | succ n ih =>
    show (wmL now tl tm st bm id n (wms now tl tm st bm id n)).length = _
    rw [wmL_len, ih]; rfl
theorem wal_len (now : Nat → Option Int32) (tl tm : Nat → Bool) (st : Nat → Pg) (bm id ver : Nat) : (wal now tl tm st bm id ver).length = pw now tl tm := by
  unfold wal pw
  rw [List.length_append, wms_len, List.length_singleton, Nat.add_comm]
/-! new pages, class -/
theorem T_cI (h : Hp) (a sp b dp n : Nat) : hpT (cpI h a sp b dp n) = hpT h := rfl
theorem L_cI (h : Hp) (a sp b dp n : Nat) : hpL (cpI h a sp b dp n) = hpL h := rfl
theorem R_cI (h : Hp) (a sp b dp n : Nat) : hpR (cpI h a sp b dp n) = hpR h := rfl
theorem N_cI (h : Hp) (a sp b dp n : Nat) : hpN (cpI h a sp b dp n) = hpN h := rfl
theorem I_cIn {h : Hp} {a sp b dp n c z : Nat} (q : c ≠ b) : hpI (cpI h a sp b dp n) c z = hpI h c z := if_neg (fun w => q w.1)
theorem I_cIb {h : Hp} {a sp b dp n z : Nat} (q1 : dp ≤ z) (q2 : z < dp + n) : hpI (cpI h a sp b dp n) b z = hpI h a (sp + (z - dp)) := if_pos ⟨rfl, q1, q2⟩
theorem cp_T {h : Hp} {a b sp dp n : Nat} (h1 : sp + n ≤ hpL h a) (h2 : dp + n ≤ hpL h b) (h3 : hpL h a < 2 ^ 31) (h4 : hpL h b < 2 ^ 31) : cpB h a b (nI sp) (nI dp) (nI n) = true := by
  unfold cpB
  rw [decide_eq_false (nI_pos (by omega)), decide_eq_false (nI_pos (by omega)), decide_eq_false (nI_pos (by omega)), nI_clamp (by omega), nI_clamp (by omega), nI_clamp (by omega), Nat.ble_eq_true_of_le h1, Nat.ble_eq_true_of_le h2]
  rfl
theorem Only.tr {L L' : List Nat} {h h1 h2 : Hp} (a : Only L h h1) (b : Only L' h1 h2) (m : ∀ x ∈ L', x < hpN h → x ∈ L) : Only L h h2 := by
  obtain ⟨a1, a2, a3, a4⟩ := a
  obtain ⟨b1, b2, b3, b4⟩ := b
  refine ⟨Nat.le_trans a1 b1, Nat.le_trans a2 b2, fun x hx => ?_, fun x hx n => ?_⟩
  · have q := b3 x (Nat.lt_of_lt_of_le hx a1)
    rw [q.1, q.2]; exact a3 x hx
  · have q := b4 x (Nat.lt_of_lt_of_le hx a1) (fun z => n (m x z hx))
    rw [q.1, q.2]; exact a4 x hx n
theorem Only.wI {L : List Nat} {h g : Hp} {a k : Nat} {v : Int32} (o : Only L h g) (q : hpN h ≤ a ∨ a ∈ L) : Only L h (wI g a k v) := o.tr (on_wI (L := [a]) List.mem_cons_self) (fun x hx hl => by
  rcases List.mem_cons.mp hx with e | e
  · subst e; rcases q with q | q; omega; exact q
  · cases e)
theorem Only.wR {L : List Nat} {h g : Hp} {a k : Nat} {v : Option Nat} (o : Only L h g) (q : hpN h ≤ a ∨ a ∈ L) : Only L h (wR g a k v) := o.tr (on_wR (L := [a]) List.mem_cons_self) (fun x hx hl => by
  rcases List.mem_cons.mp hx with e | e
  · subst e; rcases q with q | q; omega; exact q
  · cases e)
theorem on_cI {L : List Nat} {h : Hp} {a sp b dp n : Nat} (m : b ∈ L) : Only L h (cpI h a sp b dp n) := ⟨Nat.le_refl _, Nat.le_refl _, fun _ _ => ⟨rfl, rfl⟩, fun x _ hn => ⟨by funext j; exact if_neg (fun q => hn (by rw [q.1]; exact m)), rfl⟩⟩
theorem Only.cI {L : List Nat} {h g : Hp} {a sp b dp n : Nat} (o : Only L h g) (q : hpN h ≤ b ∨ b ∈ L) : Only L h (cpI g a sp b dp n) := o.tr (on_cI (L := [b]) List.mem_cons_self) (fun x hx hl => by
  rcases List.mem_cons.mp hx with e | e
  · subst e; rcases q with q | q; omega; exact q
  · cases e)
theorem Only.nw {L : List Nat} {h g : Hp} {κ n w : Nat} (o : Only L h g) : Only L h (nw g κ n w) := o.tr (on_nw (L := [])) (fun x hx => by cases hx)
theorem Only.at {L : List Nat} {h h' : Hp} {x : Nat} (o : Only L h h') (hx : x < hpN h) (n : x ∉ L) : hpT h' x = hpT h x ∧ hpL h' x = hpL h x ∧ hpI h' x = hpI h x ∧ hpR h' x = hpR h x := ⟨(o.2.2.1 x hx).1, (o.2.2.1 x hx).2, (o.2.2.2 x hx n).1, (o.2.2.2 x hx n).2⟩
theorem PN.o {L : List Nat} {h h' : Hp} {p a0 a1 : Nat} {now : Nat → Option Int32} (N : PN h p a0 a1 now) (o : Only L h h') (n : ∀ x ∈ L, hpT h x ≠ 5 ∧ hpT h x ≠ 66 ∧ hpT h x ≠ 67) : PN h' p a0 a1 now := by
  obtain ⟨⟨n1, n2, n3, n4, n5, n6, n7, n8, n9, n10⟩, n11⟩ := N
  obtain ⟨p1, p2, p3, p4⟩ := o.at n2 (fun z => (n p z).1 n1)
  obtain ⟨q1, q2, q3, q4⟩ := o.at n6 (fun z => (n a0 z).2.1 n4)
  obtain ⟨r1, r2, r3, r4⟩ := o.at n10 (fun z => (n a1 z).2.2 n8)
  have l := o.1
  unfold PN
  rw [p1, p4, q1, q2, q3, r1, r2, r3]
  exact ⟨⟨n1, by omega, n3, n4, n5, by omega, n7, n8, n9, by omega⟩, n11⟩
theorem PT.o {L : List Nat} {h h' : Hp} {p : Nat} {tl tm : Nat → Bool} (T : PT h p tl tm) (o : Only L h h') (hp : p < hpN h) (n : p ∉ L) : PT h' p tl tm := by
  unfold PT
  rw [(o.at hp n).2.2.1]; exact T
theorem l_init (h : Hp) : ∃ g, f_L_init (hpN h) (nw h 3 0 5) = some g ∧ Only [] h g ∧ hpN g = hpN h + 2 ∧ hpS g = hpS h + 13 ∧ hpT g (hpN h) = 3 ∧ hpR g (hpN h) 0 = none ∧ hpI g (hpN h) 1 = 0 ∧ hpI g (hpN h) 2 = 0 ∧ hpR g (hpN h) 3 = some (hpN h + 1) ∧ hpT g (hpN h + 1) = 106 ∧ hpL g (hpN h + 1) = 8 := by
  refine ⟨wI (wR (nw (wI (wI (wR (nw h 3 0 5) (hpN h) 0 none) (hpN h) 1 0) (hpN h) 2 0) 106 8 8) (hpN h) 3 (some (hpN h + 1))) (hpN h) 4 0, ?_, ?_, rfl, rfl, ?_, ?_, ?_, ?_, ?_, ?_, ?_⟩
  · have pg : isPg (nw h 3 0 5) (hpN h) = true := isPg_3 (T_nwn rfl)
    unfold f_L_init f_G_init
    simp (disch := first | omega | (simp only [N_wI, N_wR, N_nw, N_cI] <;> omega) | fail) only [gd_T, dr_S, nm_v, cl_S, cv_S, bd_S, lk_L, lk_R, zbw_b, isK_e, isPg_3, isPg_4, isPg_6, asV_n, beq_self_eq_true, inb_N, inb_0, le_T, le_F, lt_T, lt_F, eq_F, le_0T, lt_0F, le_0F, eq_0F, nI_1, nI_add, pk_mul, nI_clamp, cl_0, if_true, if_false, of_nI, T_wI, L_wI, R_wI, N_wI, S_wI, T_wR, L_wR, I_wR, N_wR, S_wR, I_same, R_same, I_wIn, I_wIk, R_wRn, R_wRk, T_nwo, T_nwn, L_nwo, L_nwn, I_nwo, I_nwn, R_nwo, R_nwn, N_nw, S_nw, nar_1, nar_0, nar_01, b01_t0, b01_f0, b01_t1, b01_f1, ne_sn, eq_sn, sn_inj, N_cI, T_cI, L_cI, R_cI, pg]
  · exact (((((((Only.refl [] h).nw).wR (Or.inl (Nat.le_refl _))).wI (Or.inl (Nat.le_refl _))).wI (Or.inl (Nat.le_refl _))).nw).wR (Or.inl (Nat.le_refl _))).wI (Or.inl (Nat.le_refl _))
  · simp (disch := first | omega | (simp only [N_wI, N_wR, N_nw, N_cI] <;> omega) | fail) only [gd_T, dr_S, nm_v, cl_S, cv_S, bd_S, lk_L, lk_R, zbw_b, isK_e, isPg_3, isPg_4, isPg_6, asV_n, beq_self_eq_true, inb_N, inb_0, le_T, le_F, lt_T, lt_F, eq_F, le_0T, lt_0F, le_0F, eq_0F, nI_1, nI_add, pk_mul, nI_clamp, cl_0, if_true, if_false, of_nI, T_wI, L_wI, R_wI, N_wI, S_wI, T_wR, L_wR, I_wR, N_wR, S_wR, I_same, R_same, I_wIn, I_wIk, R_wRn, R_wRk, T_nwo, T_nwn, L_nwo, L_nwn, I_nwo, I_nwn, R_nwo, R_nwn, N_nw, S_nw, nar_1, nar_0, nar_01, b01_t0, b01_f0, b01_t1, b01_f1, ne_sn, eq_sn, sn_inj, N_cI, T_cI, L_cI, R_cI, ]
  · simp (disch := first | omega | (simp only [N_wI, N_wR, N_nw, N_cI] <;> omega) | fail) only [gd_T, dr_S, nm_v, cl_S, cv_S, bd_S, lk_L, lk_R, zbw_b, isK_e, isPg_3, isPg_4, isPg_6, asV_n, beq_self_eq_true, inb_N, inb_0, le_T, le_F, lt_T, lt_F, eq_F, le_0T, lt_0F, le_0F, eq_0F, nI_1, nI_add, pk_mul, nI_clamp, cl_0, if_true, if_false, of_nI, T_wI, L_wI, R_wI, N_wI, S_wI, T_wR, L_wR, I_wR, N_wR, S_wR, I_same, R_same, I_wIn, I_wIk, R_wRn, R_wRk, T_nwo, T_nwn, L_nwo, L_nwn, I_nwo, I_nwn, R_nwo, R_nwn, N_nw, S_nw, nar_1, nar_0, nar_01, b01_t0, b01_f0, b01_t1, b01_f1, ne_sn, eq_sn, sn_inj, N_cI, T_cI, L_cI, R_cI, ]
  · simp (disch := first | omega | (simp only [N_wI, N_wR, N_nw, N_cI] <;> omega) | fail) only [gd_T, dr_S, nm_v, cl_S, cv_S, bd_S, lk_L, lk_R, zbw_b, isK_e, isPg_3, isPg_4, isPg_6, asV_n, beq_self_eq_true, inb_N, inb_0, le_T, le_F, lt_T, lt_F, eq_F, le_0T, lt_0F, le_0F, eq_0F, nI_1, nI_add, pk_mul, nI_clamp, cl_0, if_true, if_false, of_nI, T_wI, L_wI, R_wI, N_wI, S_wI, T_wR, L_wR, I_wR, N_wR, S_wR, I_same, R_same, I_wIn, I_wIk, R_wRn, R_wRk, T_nwo, T_nwn, L_nwo, L_nwn, I_nwo, I_nwn, R_nwo, R_nwn, N_nw, S_nw, nar_1, nar_0, nar_01, b01_t0, b01_f0, b01_t1, b01_f1, ne_sn, eq_sn, sn_inj, N_cI, T_cI, L_cI, R_cI, ]
  · simp (disch := first | omega | (simp only [N_wI, N_wR, N_nw, N_cI] <;> omega) | fail) only [gd_T, dr_S, nm_v, cl_S, cv_S, bd_S, lk_L, lk_R, zbw_b, isK_e, isPg_3, isPg_4, isPg_6, asV_n, beq_self_eq_true, inb_N, inb_0, le_T, le_F, lt_T, lt_F, eq_F, le_0T, lt_0F, le_0F, eq_0F, nI_1, nI_add, pk_mul, nI_clamp, cl_0, if_true, if_false, of_nI, T_wI, L_wI, R_wI, N_wI, S_wI, T_wR, L_wR, I_wR, N_wR, S_wR, I_same, R_same, I_wIn, I_wIk, R_wRn, R_wRk, T_nwo, T_nwn, L_nwo, L_nwn, I_nwo, I_nwn, R_nwo, R_nwn, N_nw, S_nw, nar_1, nar_0, nar_01, b01_t0, b01_f0, b01_t1, b01_f1, ne_sn, eq_sn, sn_inj, N_cI, T_cI, L_cI, R_cI, ]
  · simp (disch := first | omega | (simp only [N_wI, N_wR, N_nw, N_cI] <;> omega) | fail) only [gd_T, dr_S, nm_v, cl_S, cv_S, bd_S, lk_L, lk_R, zbw_b, isK_e, isPg_3, isPg_4, isPg_6, asV_n, beq_self_eq_true, inb_N, inb_0, le_T, le_F, lt_T, lt_F, eq_F, le_0T, lt_0F, le_0F, eq_0F, nI_1, nI_add, pk_mul, nI_clamp, cl_0, if_true, if_false, of_nI, T_wI, L_wI, R_wI, N_wI, S_wI, T_wR, L_wR, I_wR, N_wR, S_wR, I_same, R_same, I_wIn, I_wIk, R_wRn, R_wRk, T_nwo, T_nwn, L_nwo, L_nwn, I_nwo, I_nwn, R_nwo, R_nwn, N_nw, S_nw, nar_1, nar_0, nar_01, b01_t0, b01_f0, b01_t1, b01_f1, ne_sn, eq_sn, sn_inj, N_cI, T_cI, L_cI, R_cI, ]
  · simp (disch := first | omega | (simp only [N_wI, N_wR, N_nw, N_cI] <;> omega) | fail) only [gd_T, dr_S, nm_v, cl_S, cv_S, bd_S, lk_L, lk_R, zbw_b, isK_e, isPg_3, isPg_4, isPg_6, asV_n, beq_self_eq_true, inb_N, inb_0, le_T, le_F, lt_T, lt_F, eq_F, le_0T, lt_0F, le_0F, eq_0F, nI_1, nI_add, pk_mul, nI_clamp, cl_0, if_true, if_false, of_nI, T_wI, L_wI, R_wI, N_wI, S_wI, T_wR, L_wR, I_wR, N_wR, S_wR, I_same, R_same, I_wIn, I_wIk, R_wRn, R_wRk, T_nwo, T_nwn, L_nwo, L_nwn, I_nwo, I_nwn, R_nwo, R_nwn, N_nw, S_nw, nar_1, nar_0, nar_01, b01_t0, b01_f0, b01_t1, b01_f1, ne_sn, eq_sn, sn_inj, N_cI, T_cI, L_cI, R_cI, ]; exact T_nwn rfl
  · simp (disch := first | omega | (simp only [N_wI, N_wR, N_nw, N_cI] <;> omega) | fail) only [gd_T, dr_S, nm_v, cl_S, cv_S, bd_S, lk_L, lk_R, zbw_b, isK_e, isPg_3, isPg_4, isPg_6, asV_n, beq_self_eq_true, inb_N, inb_0, le_T, le_F, lt_T, lt_F, eq_F, le_0T, lt_0F, le_0F, eq_0F, nI_1, nI_add, pk_mul, nI_clamp, cl_0, if_true, if_false, of_nI, T_wI, L_wI, R_wI, N_wI, S_wI, T_wR, L_wR, I_wR, N_wR, S_wR, I_same, R_same, I_wIn, I_wIk, R_wRn, R_wRk, T_nwo, T_nwn, L_nwo, L_nwn, I_nwo, I_nwn, R_nwo, R_nwn, N_nw, S_nw, nar_1, nar_0, nar_01, b01_t0, b01_f0, b01_t1, b01_f1, ne_sn, eq_sn, sn_inj, N_cI, T_cI, L_cI, R_cI, ]; exact L_nwn rfl
theorem o_init (h : Hp) : ∃ g, f_O_init (hpN h) (nw h 6 0 4) = some g ∧ Only [] h g ∧ hpN g = hpN h + 2 ∧ hpS g = hpS h + 8 ∧ hpT g (hpN h) = 6 ∧ hpR g (hpN h) 0 = none ∧ hpI g (hpN h) 1 = 0 ∧ hpI g (hpN h) 2 = 0 ∧ hpR g (hpN h) 3 = some (hpN h + 1) ∧ hpT g (hpN h + 1) = 105 ∧ hpL g (hpN h + 1) = 4 ∧ ∀ j, hpR g (hpN h + 1) j = none := by
  refine ⟨wR (nw (wI (wI (wR (nw h 6 0 4) (hpN h) 0 none) (hpN h) 1 0) (hpN h) 2 0) 105 4 4) (hpN h) 3 (some (hpN h + 1)), ?_, ?_, rfl, rfl, ?_, ?_, ?_, ?_, ?_, ?_, ?_, fun j => ?_⟩
  · have pg : isPg (nw h 6 0 4) (hpN h) = true := isPg_6 (T_nwn rfl)
    unfold f_O_init f_G_init
    simp (disch := first | omega | (simp only [N_wI, N_wR, N_nw, N_cI] <;> omega) | fail) only [gd_T, dr_S, nm_v, cl_S, cv_S, bd_S, lk_L, lk_R, zbw_b, isK_e, isPg_3, isPg_4, isPg_6, asV_n, beq_self_eq_true, inb_N, inb_0, le_T, le_F, lt_T, lt_F, eq_F, le_0T, lt_0F, le_0F, eq_0F, nI_1, nI_add, pk_mul, nI_clamp, cl_0, if_true, if_false, of_nI, T_wI, L_wI, R_wI, N_wI, S_wI, T_wR, L_wR, I_wR, N_wR, S_wR, I_same, R_same, I_wIn, I_wIk, R_wRn, R_wRk, T_nwo, T_nwn, L_nwo, L_nwn, I_nwo, I_nwn, R_nwo, R_nwn, N_nw, S_nw, nar_1, nar_0, nar_01, b01_t0, b01_f0, b01_t1, b01_f1, ne_sn, eq_sn, sn_inj, N_cI, T_cI, L_cI, R_cI, pg]
  · exact ((((((Only.refl [] h).nw).wR (Or.inl (Nat.le_refl _))).wI (Or.inl (Nat.le_refl _))).wI (Or.inl (Nat.le_refl _))).nw).wR (Or.inl (Nat.le_refl _))
  · simp (disch := first | omega | (simp only [N_wI, N_wR, N_nw, N_cI] <;> omega) | fail) only [gd_T, dr_S, nm_v, cl_S, cv_S, bd_S, lk_L, lk_R, zbw_b, isK_e, isPg_3, isPg_4, isPg_6, asV_n, beq_self_eq_true, inb_N, inb_0, le_T, le_F, lt_T, lt_F, eq_F, le_0T, lt_0F, le_0F, eq_0F, nI_1, nI_add, pk_mul, nI_clamp, cl_0, if_true, if_false, of_nI, T_wI, L_wI, R_wI, N_wI, S_wI, T_wR, L_wR, I_wR, N_wR, S_wR, I_same, R_same, I_wIn, I_wIk, R_wRn, R_wRk, T_nwo, T_nwn, L_nwo, L_nwn, I_nwo, I_nwn, R_nwo, R_nwn, N_nw, S_nw, nar_1, nar_0, nar_01, b01_t0, b01_f0, b01_t1, b01_f1, ne_sn, eq_sn, sn_inj, N_cI, T_cI, L_cI, R_cI, ]
  · simp (disch := first | omega | (simp only [N_wI, N_wR, N_nw, N_cI] <;> omega) | fail) only [gd_T, dr_S, nm_v, cl_S, cv_S, bd_S, lk_L, lk_R, zbw_b, isK_e, isPg_3, isPg_4, isPg_6, asV_n, beq_self_eq_true, inb_N, inb_0, le_T, le_F, lt_T, lt_F, eq_F, le_0T, lt_0F, le_0F, eq_0F, nI_1, nI_add, pk_mul, nI_clamp, cl_0, if_true, if_false, of_nI, T_wI, L_wI, R_wI, N_wI, S_wI, T_wR, L_wR, I_wR, N_wR, S_wR, I_same, R_same, I_wIn, I_wIk, R_wRn, R_wRk, T_nwo, T_nwn, L_nwo, L_nwn, I_nwo, I_nwn, R_nwo, R_nwn, N_nw, S_nw, nar_1, nar_0, nar_01, b01_t0, b01_f0, b01_t1, b01_f1, ne_sn, eq_sn, sn_inj, N_cI, T_cI, L_cI, R_cI, ]
  · simp (disch := first | omega | (simp only [N_wI, N_wR, N_nw, N_cI] <;> omega) | fail) only [gd_T, dr_S, nm_v, cl_S, cv_S, bd_S, lk_L, lk_R, zbw_b, isK_e, isPg_3, isPg_4, isPg_6, asV_n, beq_self_eq_true, inb_N, inb_0, le_T, le_F, lt_T, lt_F, eq_F, le_0T, lt_0F, le_0F, eq_0F, nI_1, nI_add, pk_mul, nI_clamp, cl_0, if_true, if_false, of_nI, T_wI, L_wI, R_wI, N_wI, S_wI, T_wR, L_wR, I_wR, N_wR, S_wR, I_same, R_same, I_wIn, I_wIk, R_wRn, R_wRk, T_nwo, T_nwn, L_nwo, L_nwn, I_nwo, I_nwn, R_nwo, R_nwn, N_nw, S_nw, nar_1, nar_0, nar_01, b01_t0, b01_f0, b01_t1, b01_f1, ne_sn, eq_sn, sn_inj, N_cI, T_cI, L_cI, R_cI, ]
  · simp (disch := first | omega | (simp only [N_wI, N_wR, N_nw, N_cI] <;> omega) | fail) only [gd_T, dr_S, nm_v, cl_S, cv_S, bd_S, lk_L, lk_R, zbw_b, isK_e, isPg_3, isPg_4, isPg_6, asV_n, beq_self_eq_true, inb_N, inb_0, le_T, le_F, lt_T, lt_F, eq_F, le_0T, lt_0F, le_0F, eq_0F, nI_1, nI_add, pk_mul, nI_clamp, cl_0, if_true, if_false, of_nI, T_wI, L_wI, R_wI, N_wI, S_wI, T_wR, L_wR, I_wR, N_wR, S_wR, I_same, R_same, I_wIn, I_wIk, R_wRn, R_wRk, T_nwo, T_nwn, L_nwo, L_nwn, I_nwo, I_nwn, R_nwo, R_nwn, N_nw, S_nw, nar_1, nar_0, nar_01, b01_t0, b01_f0, b01_t1, b01_f1, ne_sn, eq_sn, sn_inj, N_cI, T_cI, L_cI, R_cI, ]
  · simp (disch := first | omega | (simp only [N_wI, N_wR, N_nw, N_cI] <;> omega) | fail) only [gd_T, dr_S, nm_v, cl_S, cv_S, bd_S, lk_L, lk_R, zbw_b, isK_e, isPg_3, isPg_4, isPg_6, asV_n, beq_self_eq_true, inb_N, inb_0, le_T, le_F, lt_T, lt_F, eq_F, le_0T, lt_0F, le_0F, eq_0F, nI_1, nI_add, pk_mul, nI_clamp, cl_0, if_true, if_false, of_nI, T_wI, L_wI, R_wI, N_wI, S_wI, T_wR, L_wR, I_wR, N_wR, S_wR, I_same, R_same, I_wIn, I_wIk, R_wRn, R_wRk, T_nwo, T_nwn, L_nwo, L_nwn, I_nwo, I_nwn, R_nwo, R_nwn, N_nw, S_nw, nar_1, nar_0, nar_01, b01_t0, b01_f0, b01_t1, b01_f1, ne_sn, eq_sn, sn_inj, N_cI, T_cI, L_cI, R_cI, ]
  · simp (disch := first | omega | (simp only [N_wI, N_wR, N_nw, N_cI] <;> omega) | fail) only [gd_T, dr_S, nm_v, cl_S, cv_S, bd_S, lk_L, lk_R, zbw_b, isK_e, isPg_3, isPg_4, isPg_6, asV_n, beq_self_eq_true, inb_N, inb_0, le_T, le_F, lt_T, lt_F, eq_F, le_0T, lt_0F, le_0F, eq_0F, nI_1, nI_add, pk_mul, nI_clamp, cl_0, if_true, if_false, of_nI, T_wI, L_wI, R_wI, N_wI, S_wI, T_wR, L_wR, I_wR, N_wR, S_wR, I_same, R_same, I_wIn, I_wIk, R_wRn, R_wRk, T_nwo, T_nwn, L_nwo, L_nwn, I_nwo, I_nwn, R_nwo, R_nwn, N_nw, S_nw, nar_1, nar_0, nar_01, b01_t0, b01_f0, b01_t1, b01_f1, ne_sn, eq_sn, sn_inj, N_cI, T_cI, L_cI, R_cI, ]; exact T_nwn rfl
  · simp (disch := first | omega | (simp only [N_wI, N_wR, N_nw, N_cI] <;> omega) | fail) only [gd_T, dr_S, nm_v, cl_S, cv_S, bd_S, lk_L, lk_R, zbw_b, isK_e, isPg_3, isPg_4, isPg_6, asV_n, beq_self_eq_true, inb_N, inb_0, le_T, le_F, lt_T, lt_F, eq_F, le_0T, lt_0F, le_0F, eq_0F, nI_1, nI_add, pk_mul, nI_clamp, cl_0, if_true, if_false, of_nI, T_wI, L_wI, R_wI, N_wI, S_wI, T_wR, L_wR, I_wR, N_wR, S_wR, I_same, R_same, I_wIn, I_wIk, R_wRn, R_wRk, T_nwo, T_nwn, L_nwo, L_nwn, I_nwo, I_nwn, R_nwo, R_nwn, N_nw, S_nw, nar_1, nar_0, nar_01, b01_t0, b01_f0, b01_t1, b01_f1, ne_sn, eq_sn, sn_inj, N_cI, T_cI, L_cI, R_cI, ]; exact L_nwn rfl
  · simp (disch := first | omega | (simp only [N_wI, N_wR, N_nw, N_cI] <;> omega) | fail) only [gd_T, dr_S, nm_v, cl_S, cv_S, bd_S, lk_L, lk_R, zbw_b, isK_e, isPg_3, isPg_4, isPg_6, asV_n, beq_self_eq_true, inb_N, inb_0, le_T, le_F, lt_T, lt_F, eq_F, le_0T, lt_0F, le_0F, eq_0F, nI_1, nI_add, pk_mul, nI_clamp, cl_0, if_true, if_false, of_nI, T_wI, L_wI, R_wI, N_wI, S_wI, T_wR, L_wR, I_wR, N_wR, S_wR, I_same, R_same, I_wIn, I_wIk, R_wRn, R_wRk, T_nwo, T_nwn, L_nwo, L_nwn, I_nwo, I_nwn, R_nwo, R_nwn, N_nw, S_nw, nar_1, nar_0, nar_01, b01_t0, b01_f0, b01_t1, b01_f1, ne_sn, eq_sn, sn_inj, N_cI, T_cI, L_cI, R_cI, ]; exact R_nwn rfl
theorem e_init (h : Hp) (v : Int32) : ∃ g, f_E_init (hpN h) v (nw h 4 0 5) = some g ∧ Only [] h g ∧ hpN g = hpN h + 2 ∧ hpS g = hpS h + 9 ∧ hpT g (hpN h) = 4 ∧ hpR g (hpN h) 0 = none ∧ hpI g (hpN h) 1 = 0 ∧ hpI g (hpN h) 2 = 0 ∧ hpR g (hpN h) 4 = some (hpN h + 1) ∧ hpI g (hpN h) 3 = v ∧ hpT g (hpN h + 1) = 104 ∧ hpL g (hpN h + 1) = 4 ∧ ∀ j, hpR g (hpN h + 1) j = none := by
  refine ⟨wI (wR (nw (wI (wI (wR (nw h 4 0 5) (hpN h) 0 none) (hpN h) 1 0) (hpN h) 2 0) 104 4 4) (hpN h) 4 (some (hpN h + 1))) (hpN h) 3 v, ?_, ?_, rfl, rfl, ?_, ?_, ?_, ?_, ?_, ?_, ?_, ?_, fun j => ?_⟩
  · have pg : isPg (nw h 4 0 5) (hpN h) = true := isPg_4 (T_nwn rfl)
    unfold f_E_init f_G_init
    simp (disch := first | omega | (simp only [N_wI, N_wR, N_nw, N_cI] <;> omega) | fail) only [gd_T, dr_S, nm_v, cl_S, cv_S, bd_S, lk_L, lk_R, zbw_b, isK_e, isPg_3, isPg_4, isPg_6, asV_n, beq_self_eq_true, inb_N, inb_0, le_T, le_F, lt_T, lt_F, eq_F, le_0T, lt_0F, le_0F, eq_0F, nI_1, nI_add, pk_mul, nI_clamp, cl_0, if_true, if_false, of_nI, T_wI, L_wI, R_wI, N_wI, S_wI, T_wR, L_wR, I_wR, N_wR, S_wR, I_same, R_same, I_wIn, I_wIk, R_wRn, R_wRk, T_nwo, T_nwn, L_nwo, L_nwn, I_nwo, I_nwn, R_nwo, R_nwn, N_nw, S_nw, nar_1, nar_0, nar_01, b01_t0, b01_f0, b01_t1, b01_f1, ne_sn, eq_sn, sn_inj, N_cI, T_cI, L_cI, R_cI, pg]
  · exact (((((((Only.refl [] h).nw).wR (Or.inl (Nat.le_refl _))).wI (Or.inl (Nat.le_refl _))).wI (Or.inl (Nat.le_refl _))).nw).wR (Or.inl (Nat.le_refl _))).wI (Or.inl (Nat.le_refl _))
  · simp (disch := first | omega | (simp only [N_wI, N_wR, N_nw, N_cI] <;> omega) | fail) only [gd_T, dr_S, nm_v, cl_S, cv_S, bd_S, lk_L, lk_R, zbw_b, isK_e, isPg_3, isPg_4, isPg_6, asV_n, beq_self_eq_true, inb_N, inb_0, le_T, le_F, lt_T, lt_F, eq_F, le_0T, lt_0F, le_0F, eq_0F, nI_1, nI_add, pk_mul, nI_clamp, cl_0, if_true, if_false, of_nI, T_wI, L_wI, R_wI, N_wI, S_wI, T_wR, L_wR, I_wR, N_wR, S_wR, I_same, R_same, I_wIn, I_wIk, R_wRn, R_wRk, T_nwo, T_nwn, L_nwo, L_nwn, I_nwo, I_nwn, R_nwo, R_nwn, N_nw, S_nw, nar_1, nar_0, nar_01, b01_t0, b01_f0, b01_t1, b01_f1, ne_sn, eq_sn, sn_inj, N_cI, T_cI, L_cI, R_cI, ]
  · simp (disch := first | omega | (simp only [N_wI, N_wR, N_nw, N_cI] <;> omega) | fail) only [gd_T, dr_S, nm_v, cl_S, cv_S, bd_S, lk_L, lk_R, zbw_b, isK_e, isPg_3, isPg_4, isPg_6, asV_n, beq_self_eq_true, inb_N, inb_0, le_T, le_F, lt_T, lt_F, eq_F, le_0T, lt_0F, le_0F, eq_0F, nI_1, nI_add, pk_mul, nI_clamp, cl_0, if_true, if_false, of_nI, T_wI, L_wI, R_wI, N_wI, S_wI, T_wR, L_wR, I_wR, N_wR, S_wR, I_same, R_same, I_wIn, I_wIk, R_wRn, R_wRk, T_nwo, T_nwn, L_nwo, L_nwn, I_nwo, I_nwn, R_nwo, R_nwn, N_nw, S_nw, nar_1, nar_0, nar_01, b01_t0, b01_f0, b01_t1, b01_f1, ne_sn, eq_sn, sn_inj, N_cI, T_cI, L_cI, R_cI, ]
  · simp (disch := first | omega | (simp only [N_wI, N_wR, N_nw, N_cI] <;> omega) | fail) only [gd_T, dr_S, nm_v, cl_S, cv_S, bd_S, lk_L, lk_R, zbw_b, isK_e, isPg_3, isPg_4, isPg_6, asV_n, beq_self_eq_true, inb_N, inb_0, le_T, le_F, lt_T, lt_F, eq_F, le_0T, lt_0F, le_0F, eq_0F, nI_1, nI_add, pk_mul, nI_clamp, cl_0, if_true, if_false, of_nI, T_wI, L_wI, R_wI, N_wI, S_wI, T_wR, L_wR, I_wR, N_wR, S_wR, I_same, R_same, I_wIn, I_wIk, R_wRn, R_wRk, T_nwo, T_nwn, L_nwo, L_nwn, I_nwo, I_nwn, R_nwo, R_nwn, N_nw, S_nw, nar_1, nar_0, nar_01, b01_t0, b01_f0, b01_t1, b01_f1, ne_sn, eq_sn, sn_inj, N_cI, T_cI, L_cI, R_cI, ]
  · simp (disch := first | omega | (simp only [N_wI, N_wR, N_nw, N_cI] <;> omega) | fail) only [gd_T, dr_S, nm_v, cl_S, cv_S, bd_S, lk_L, lk_R, zbw_b, isK_e, isPg_3, isPg_4, isPg_6, asV_n, beq_self_eq_true, inb_N, inb_0, le_T, le_F, lt_T, lt_F, eq_F, le_0T, lt_0F, le_0F, eq_0F, nI_1, nI_add, pk_mul, nI_clamp, cl_0, if_true, if_false, of_nI, T_wI, L_wI, R_wI, N_wI, S_wI, T_wR, L_wR, I_wR, N_wR, S_wR, I_same, R_same, I_wIn, I_wIk, R_wRn, R_wRk, T_nwo, T_nwn, L_nwo, L_nwn, I_nwo, I_nwn, R_nwo, R_nwn, N_nw, S_nw, nar_1, nar_0, nar_01, b01_t0, b01_f0, b01_t1, b01_f1, ne_sn, eq_sn, sn_inj, N_cI, T_cI, L_cI, R_cI, ]
  · simp (disch := first | omega | (simp only [N_wI, N_wR, N_nw, N_cI] <;> omega) | fail) only [gd_T, dr_S, nm_v, cl_S, cv_S, bd_S, lk_L, lk_R, zbw_b, isK_e, isPg_3, isPg_4, isPg_6, asV_n, beq_self_eq_true, inb_N, inb_0, le_T, le_F, lt_T, lt_F, eq_F, le_0T, lt_0F, le_0F, eq_0F, nI_1, nI_add, pk_mul, nI_clamp, cl_0, if_true, if_false, of_nI, T_wI, L_wI, R_wI, N_wI, S_wI, T_wR, L_wR, I_wR, N_wR, S_wR, I_same, R_same, I_wIn, I_wIk, R_wRn, R_wRk, T_nwo, T_nwn, L_nwo, L_nwn, I_nwo, I_nwn, R_nwo, R_nwn, N_nw, S_nw, nar_1, nar_0, nar_01, b01_t0, b01_f0, b01_t1, b01_f1, ne_sn, eq_sn, sn_inj, N_cI, T_cI, L_cI, R_cI, ]
  · simp (disch := first | omega | (simp only [N_wI, N_wR, N_nw, N_cI] <;> omega) | fail) only [gd_T, dr_S, nm_v, cl_S, cv_S, bd_S, lk_L, lk_R, zbw_b, isK_e, isPg_3, isPg_4, isPg_6, asV_n, beq_self_eq_true, inb_N, inb_0, le_T, le_F, lt_T, lt_F, eq_F, le_0T, lt_0F, le_0F, eq_0F, nI_1, nI_add, pk_mul, nI_clamp, cl_0, if_true, if_false, of_nI, T_wI, L_wI, R_wI, N_wI, S_wI, T_wR, L_wR, I_wR, N_wR, S_wR, I_same, R_same, I_wIn, I_wIk, R_wRn, R_wRk, T_nwo, T_nwn, L_nwo, L_nwn, I_nwo, I_nwn, R_nwo, R_nwn, N_nw, S_nw, nar_1, nar_0, nar_01, b01_t0, b01_f0, b01_t1, b01_f1, ne_sn, eq_sn, sn_inj, N_cI, T_cI, L_cI, R_cI, ]
  · simp (disch := first | omega | (simp only [N_wI, N_wR, N_nw, N_cI] <;> omega) | fail) only [gd_T, dr_S, nm_v, cl_S, cv_S, bd_S, lk_L, lk_R, zbw_b, isK_e, isPg_3, isPg_4, isPg_6, asV_n, beq_self_eq_true, inb_N, inb_0, le_T, le_F, lt_T, lt_F, eq_F, le_0T, lt_0F, le_0F, eq_0F, nI_1, nI_add, pk_mul, nI_clamp, cl_0, if_true, if_false, of_nI, T_wI, L_wI, R_wI, N_wI, S_wI, T_wR, L_wR, I_wR, N_wR, S_wR, I_same, R_same, I_wIn, I_wIk, R_wRn, R_wRk, T_nwo, T_nwn, L_nwo, L_nwn, I_nwo, I_nwn, R_nwo, R_nwn, N_nw, S_nw, nar_1, nar_0, nar_01, b01_t0, b01_f0, b01_t1, b01_f1, ne_sn, eq_sn, sn_inj, N_cI, T_cI, L_cI, R_cI, ]; exact T_nwn rfl
  · simp (disch := first | omega | (simp only [N_wI, N_wR, N_nw, N_cI] <;> omega) | fail) only [gd_T, dr_S, nm_v, cl_S, cv_S, bd_S, lk_L, lk_R, zbw_b, isK_e, isPg_3, isPg_4, isPg_6, asV_n, beq_self_eq_true, inb_N, inb_0, le_T, le_F, lt_T, lt_F, eq_F, le_0T, lt_0F, le_0F, eq_0F, nI_1, nI_add, pk_mul, nI_clamp, cl_0, if_true, if_false, of_nI, T_wI, L_wI, R_wI, N_wI, S_wI, T_wR, L_wR, I_wR, N_wR, S_wR, I_same, R_same, I_wIn, I_wIk, R_wRn, R_wRk, T_nwo, T_nwn, L_nwo, L_nwn, I_nwo, I_nwn, R_nwo, R_nwn, N_nw, S_nw, nar_1, nar_0, nar_01, b01_t0, b01_f0, b01_t1, b01_f1, ne_sn, eq_sn, sn_inj, N_cI, T_cI, L_cI, R_cI, ]; exact L_nwn rfl
  · simp (disch := first | omega | (simp only [N_wI, N_wR, N_nw, N_cI] <;> omega) | fail) only [gd_T, dr_S, nm_v, cl_S, cv_S, bd_S, lk_L, lk_R, zbw_b, isK_e, isPg_3, isPg_4, isPg_6, asV_n, beq_self_eq_true, inb_N, inb_0, le_T, le_F, lt_T, lt_F, eq_F, le_0T, lt_0F, le_0F, eq_0F, nI_1, nI_add, pk_mul, nI_clamp, cl_0, if_true, if_false, of_nI, T_wI, L_wI, R_wI, N_wI, S_wI, T_wR, L_wR, I_wR, N_wR, S_wR, I_same, R_same, I_wIn, I_wIk, R_wRn, R_wRk, T_nwo, T_nwn, L_nwo, L_nwn, I_nwo, I_nwn, R_nwo, R_nwn, N_nw, S_nw, nar_1, nar_0, nar_01, b01_t0, b01_f0, b01_t1, b01_f1, ne_sn, eq_sn, sn_inj, N_cI, T_cI, L_cI, R_cI, ]; exact R_nwn rfl
theorem k_init {h : Hp} {n : Nat} (id f : Int32) (hn : n < 1000) : ∃ g, f_K_init (hpN h) id f (nI n) (nw h 2 0 5) = some g ∧ Only [] h g ∧ hpN g = hpN h + 2 ∧ hpS g = hpS h + 5 + n ∧ hpT g (hpN h) = 2 ∧ hpI g (hpN h) 0 = id ∧ hpI g (hpN h) 1 = f ∧ hpR g (hpN h) 2 = some (hpN h + 1) ∧ hpI g (hpN h) 3 = 0 ∧ hpR g (hpN h) 4 = none ∧ hpT g (hpN h + 1) = 103 ∧ hpL g (hpN h + 1) = n := by
  refine ⟨wR (nw (wI (wI (wR (wI (nw h 2 0 5) (hpN h) 3 0) (hpN h) 4 none) (hpN h) 0 id) (hpN h) 1 f) 103 n n) (hpN h) 2 (some (hpN h + 1)), ?_, ?_, rfl, rfl, ?_, ?_, ?_, ?_, ?_, ?_, ?_, ?_⟩
  · have ln : lnB (nI n) = true := by
      unfold lnB
      rw [decide_eq_false (nI_pos (by omega)), nI_clamp (by omega), Nat.ble_eq_true_of_le (by omega)]; rfl
    unfold f_K_init
    simp (disch := first | omega | (simp only [N_wI, N_wR, N_nw, N_cI] <;> omega) | fail) only [gd_T, dr_S, nm_v, cl_S, cv_S, bd_S, lk_L, lk_R, zbw_b, isK_e, isPg_3, isPg_4, isPg_6, asV_n, beq_self_eq_true, inb_N, inb_0, le_T, le_F, lt_T, lt_F, eq_F, le_0T, lt_0F, le_0F, eq_0F, nI_1, nI_add, pk_mul, nI_clamp, cl_0, if_true, if_false, of_nI, T_wI, L_wI, R_wI, N_wI, S_wI, T_wR, L_wR, I_wR, N_wR, S_wR, I_same, R_same, I_wIn, I_wIk, R_wRn, R_wRk, T_nwo, T_nwn, L_nwo, L_nwn, I_nwo, I_nwn, R_nwo, R_nwn, N_nw, S_nw, nar_1, nar_0, nar_01, b01_t0, b01_f0, b01_t1, b01_f1, ne_sn, eq_sn, sn_inj, N_cI, T_cI, L_cI, R_cI, ln]
  · exact (((((((Only.refl [] h).nw).wI (Or.inl (Nat.le_refl _))).wR (Or.inl (Nat.le_refl _))).wI (Or.inl (Nat.le_refl _))).wI (Or.inl (Nat.le_refl _))).nw).wR (Or.inl (Nat.le_refl _))
  · simp (disch := first | omega | (simp only [N_wI, N_wR, N_nw, N_cI] <;> omega) | fail) only [gd_T, dr_S, nm_v, cl_S, cv_S, bd_S, lk_L, lk_R, zbw_b, isK_e, isPg_3, isPg_4, isPg_6, asV_n, beq_self_eq_true, inb_N, inb_0, le_T, le_F, lt_T, lt_F, eq_F, le_0T, lt_0F, le_0F, eq_0F, nI_1, nI_add, pk_mul, nI_clamp, cl_0, if_true, if_false, of_nI, T_wI, L_wI, R_wI, N_wI, S_wI, T_wR, L_wR, I_wR, N_wR, S_wR, I_same, R_same, I_wIn, I_wIk, R_wRn, R_wRk, T_nwo, T_nwn, L_nwo, L_nwn, I_nwo, I_nwn, R_nwo, R_nwn, N_nw, S_nw, nar_1, nar_0, nar_01, b01_t0, b01_f0, b01_t1, b01_f1, ne_sn, eq_sn, sn_inj, N_cI, T_cI, L_cI, R_cI, ]
  · simp (disch := first | omega | (simp only [N_wI, N_wR, N_nw, N_cI] <;> omega) | fail) only [gd_T, dr_S, nm_v, cl_S, cv_S, bd_S, lk_L, lk_R, zbw_b, isK_e, isPg_3, isPg_4, isPg_6, asV_n, beq_self_eq_true, inb_N, inb_0, le_T, le_F, lt_T, lt_F, eq_F, le_0T, lt_0F, le_0F, eq_0F, nI_1, nI_add, pk_mul, nI_clamp, cl_0, if_true, if_false, of_nI, T_wI, L_wI, R_wI, N_wI, S_wI, T_wR, L_wR, I_wR, N_wR, S_wR, I_same, R_same, I_wIn, I_wIk, R_wRn, R_wRk, T_nwo, T_nwn, L_nwo, L_nwn, I_nwo, I_nwn, R_nwo, R_nwn, N_nw, S_nw, nar_1, nar_0, nar_01, b01_t0, b01_f0, b01_t1, b01_f1, ne_sn, eq_sn, sn_inj, N_cI, T_cI, L_cI, R_cI, ]
  · simp (disch := first | omega | (simp only [N_wI, N_wR, N_nw, N_cI] <;> omega) | fail) only [gd_T, dr_S, nm_v, cl_S, cv_S, bd_S, lk_L, lk_R, zbw_b, isK_e, isPg_3, isPg_4, isPg_6, asV_n, beq_self_eq_true, inb_N, inb_0, le_T, le_F, lt_T, lt_F, eq_F, le_0T, lt_0F, le_0F, eq_0F, nI_1, nI_add, pk_mul, nI_clamp, cl_0, if_true, if_false, of_nI, T_wI, L_wI, R_wI, N_wI, S_wI, T_wR, L_wR, I_wR, N_wR, S_wR, I_same, R_same, I_wIn, I_wIk, R_wRn, R_wRk, T_nwo, T_nwn, L_nwo, L_nwn, I_nwo, I_nwn, R_nwo, R_nwn, N_nw, S_nw, nar_1, nar_0, nar_01, b01_t0, b01_f0, b01_t1, b01_f1, ne_sn, eq_sn, sn_inj, N_cI, T_cI, L_cI, R_cI, ]
  · simp (disch := first | omega | (simp only [N_wI, N_wR, N_nw, N_cI] <;> omega) | fail) only [gd_T, dr_S, nm_v, cl_S, cv_S, bd_S, lk_L, lk_R, zbw_b, isK_e, isPg_3, isPg_4, isPg_6, asV_n, beq_self_eq_true, inb_N, inb_0, le_T, le_F, lt_T, lt_F, eq_F, le_0T, lt_0F, le_0F, eq_0F, nI_1, nI_add, pk_mul, nI_clamp, cl_0, if_true, if_false, of_nI, T_wI, L_wI, R_wI, N_wI, S_wI, T_wR, L_wR, I_wR, N_wR, S_wR, I_same, R_same, I_wIn, I_wIk, R_wRn, R_wRk, T_nwo, T_nwn, L_nwo, L_nwn, I_nwo, I_nwn, R_nwo, R_nwn, N_nw, S_nw, nar_1, nar_0, nar_01, b01_t0, b01_f0, b01_t1, b01_f1, ne_sn, eq_sn, sn_inj, N_cI, T_cI, L_cI, R_cI, ]
  · simp (disch := first | omega | (simp only [N_wI, N_wR, N_nw, N_cI] <;> omega) | fail) only [gd_T, dr_S, nm_v, cl_S, cv_S, bd_S, lk_L, lk_R, zbw_b, isK_e, isPg_3, isPg_4, isPg_6, asV_n, beq_self_eq_true, inb_N, inb_0, le_T, le_F, lt_T, lt_F, eq_F, le_0T, lt_0F, le_0F, eq_0F, nI_1, nI_add, pk_mul, nI_clamp, cl_0, if_true, if_false, of_nI, T_wI, L_wI, R_wI, N_wI, S_wI, T_wR, L_wR, I_wR, N_wR, S_wR, I_same, R_same, I_wIn, I_wIk, R_wRn, R_wRk, T_nwo, T_nwn, L_nwo, L_nwn, I_nwo, I_nwn, R_nwo, R_nwn, N_nw, S_nw, nar_1, nar_0, nar_01, b01_t0, b01_f0, b01_t1, b01_f1, ne_sn, eq_sn, sn_inj, N_cI, T_cI, L_cI, R_cI, ]
  · simp (disch := first | omega | (simp only [N_wI, N_wR, N_nw, N_cI] <;> omega) | fail) only [gd_T, dr_S, nm_v, cl_S, cv_S, bd_S, lk_L, lk_R, zbw_b, isK_e, isPg_3, isPg_4, isPg_6, asV_n, beq_self_eq_true, inb_N, inb_0, le_T, le_F, lt_T, lt_F, eq_F, le_0T, lt_0F, le_0F, eq_0F, nI_1, nI_add, pk_mul, nI_clamp, cl_0, if_true, if_false, of_nI, T_wI, L_wI, R_wI, N_wI, S_wI, T_wR, L_wR, I_wR, N_wR, S_wR, I_same, R_same, I_wIn, I_wIk, R_wRn, R_wRk, T_nwo, T_nwn, L_nwo, L_nwn, I_nwo, I_nwn, R_nwo, R_nwn, N_nw, S_nw, nar_1, nar_0, nar_01, b01_t0, b01_f0, b01_t1, b01_f1, ne_sn, eq_sn, sn_inj, N_cI, T_cI, L_cI, R_cI, ]
  · simp (disch := first | omega | (simp only [N_wI, N_wR, N_nw, N_cI] <;> omega) | fail) only [gd_T, dr_S, nm_v, cl_S, cv_S, bd_S, lk_L, lk_R, zbw_b, isK_e, isPg_3, isPg_4, isPg_6, asV_n, beq_self_eq_true, inb_N, inb_0, le_T, le_F, lt_T, lt_F, eq_F, le_0T, lt_0F, le_0F, eq_0F, nI_1, nI_add, pk_mul, nI_clamp, cl_0, if_true, if_false, of_nI, T_wI, L_wI, R_wI, N_wI, S_wI, T_wR, L_wR, I_wR, N_wR, S_wR, I_same, R_same, I_wIn, I_wIk, R_wRn, R_wRk, T_nwo, T_nwn, L_nwo, L_nwn, I_nwo, I_nwn, R_nwo, R_nwn, N_nw, S_nw, nar_1, nar_0, nar_01, b01_t0, b01_f0, b01_t1, b01_f1, ne_sn, eq_sn, sn_inj, N_cI, T_cI, L_cI, R_cI, ]; exact T_nwn rfl
  · simp (disch := first | omega | (simp only [N_wI, N_wR, N_nw, N_cI] <;> omega) | fail) only [gd_T, dr_S, nm_v, cl_S, cv_S, bd_S, lk_L, lk_R, zbw_b, isK_e, isPg_3, isPg_4, isPg_6, asV_n, beq_self_eq_true, inb_N, inb_0, le_T, le_F, lt_T, lt_F, eq_F, le_0T, lt_0F, le_0F, eq_0F, nI_1, nI_add, pk_mul, nI_clamp, cl_0, if_true, if_false, of_nI, T_wI, L_wI, R_wI, N_wI, S_wI, T_wR, L_wR, I_wR, N_wR, S_wR, I_same, R_same, I_wIn, I_wIk, R_wRn, R_wRk, T_nwo, T_nwn, L_nwo, L_nwn, I_nwo, I_nwn, R_nwo, R_nwn, N_nw, S_nw, nar_1, nar_0, nar_01, b01_t0, b01_f0, b01_t1, b01_f1, ne_sn, eq_sn, sn_inj, N_cI, T_cI, L_cI, R_cI, ]; exact L_nwn rfl
/-- the page's object by its key, with the new ones; the store with the new pages -/
def paN (pa : Nat → Nat) (id : Nat) (pn : Nat → Nat) (k : Nat) : Nat := if k / 32 = id then pn (k % 32) else pa k
def stN (st : Nat → Pg) (id : Nat) (L : List Pg) (k : Nat) : Pg := if k / 32 = id then (L[k % 32]?).getD (0, fun _ => 0, fun _ => none, 0, 0) else st k
theorem paN_n {pa pn : Nat → Nat} {id i : Nat} (hi : i < 32) : paN pa id pn (32 * id + i) = pn i := by
  unfold paN
  rw [if_pos (by omega), show (32 * id + i) % 32 = i by omega]
theorem paN_o {pa pn : Nat → Nat} {id k : Nat} (h : k / 32 ≠ id) : paN pa id pn k = pa k := if_neg h
theorem stN_n {st : Nat → Pg} {L : List Pg} {id i : Nat} {pg : Pg} (hi : i < 32) (h : L[i]? = some pg) : stN st id L (32 * id + i) = pg := by
  unfold stN
  rw [if_pos (by omega), show (32 * id + i) % 32 = i by omega, h]; rfl
theorem stN_o {st : Nat → Pg} {L : List Pg} {id k : Nat} (h : k / 32 ≠ id) : stN st id L k = st k := if_neg h
/-- the chunk that is being written, and the pages in it so far -/
def WP (h : Hp) (id k f pw : Nat) (pa : Nat → Nat) (L : List Pg) (pn : Nat → Nat) : Prop := KO h k (k + 1) id f pw ∧ hpI h k 3 = nI L.length ∧ L.length ≤ pw ∧ ∀ (i : Nat) (pg : Pg), L[i]? = some pg → hpR h (k + 1) i = some (pn i) ∧ pn i < hpN h ∧ hpR h (pn i) 0 = some k ∧ hpI h (pn i) 1 = nI i ∧ hpI h (pn i) 2 = 0 ∧ CO h (pn i) (paN pa id pn) pg ∧ ∀ j, j < 4 → pg.2.1 j ≠ 0 → pg.2.1 j / 32 = id → pg.2.1 j % 32 < L.length
theorem WP.o {M : List Nat} {h h' : Hp} {id k f pw : Nat} {pa pn : Nat → Nat} {L : List Pg} (W : WP h id k f pw pa L pn) (o : Only M h h') (n1 : k ∉ M) (n2 : k + 1 ∉ M) (n3 : ∀ (i : Nat) (pg : Pg), L[i]? = some pg → pn i ∉ M ∧ pn i + 1 ∉ M) : WP h' id k f pw pa L pn := by
  obtain ⟨K, w1, w2, w3⟩ := W
  obtain ⟨k1, k2, k3, k4, k5, k6, k7, k8⟩ := K
  obtain ⟨p1, p2, p3, p4⟩ := o.at k2 n1
  obtain ⟨q1, q2, q3, q4⟩ := o.at k8 n2
  have l := o.1
  refine ⟨⟨by rw [p1]; exact k1, by omega, by rw [p3]; exact k3, by rw [p3]; exact k4, by rw [p4]; exact k5, by rw [q1]; exact k6, by rw [q2]; exact k7, by omega⟩, by rw [p3]; exact w1, w2, fun i pg hi => ?_⟩
  obtain ⟨u1, u2, u3, u4, u5, u6, u7⟩ := w3 i pg hi
  obtain ⟨c1, c2, c3⟩ := u6.kk
  obtain ⟨r1, r2, r3, r4⟩ := o.at u2 (n3 i pg hi).1
  obtain ⟨s1, s2, s3, s4⟩ := o.at c3 (n3 i pg hi).2
  refine ⟨by rw [q4]; exact u1, by omega, by rw [r4]; exact u3, by rw [r3]; exact u4, by rw [r3]; exact u5, u6.at l r1 s1 s2 (fun j _ => by rw [r3, r4]; exact ⟨rfl, rfl⟩) ⟨s3, s4⟩ (fun _ _ _ _ => rfl), u7⟩
theorem asV_p {h : Hp} {a c : Nat} (hc : hpT h c = 103) (ha : hpT h a = 3 ∨ hpT h a = 4 ∨ hpT h a = 6) : asV h (some a) c = true := by
  show asK (hpT h a) (aty (hpT h c)) = true
  rw [hc]
  rcases ha with q | q | q <;> rw [q] <;> rfl
theorem asV_lf {h : Hp} {a c : Nat} (hc : hpT h c = 105) (ha : hpT h a = 3) : asV h (some a) c = true := by
  show asK (hpT h a) (aty (hpT h c)) = true
  rw [hc, ha]; rfl
theorem asV_rt {h : Hp} {a c : Nat} (hc : hpT h c = 104) (ha : hpT h a = 6) : asV h (some a) c = true := by
  show asK (hpT h a) (aty (hpT h c)) = true
  rw [hc, ha]; rfl
theorem appP_at {l : List Pg} {x a : Pg} {i : Nat} (h : (l ++ [x])[i]? = some a) : (i < l.length ∧ l[i]? = some a) ∨ (i = l.length ∧ a = x) := by
  rcases Nat.lt_or_ge i l.length with q | q
  · rw [List.getElem?_append_left q] at h; exact Or.inl ⟨q, h⟩
  · rw [List.getElem?_append_right q] at h
    rcases Nat.eq_zero_or_pos (i - l.length) with z | z
    · rw [z] at h; cases h; exact Or.inr ⟨by omega, rfl⟩
    · rw [List.getElem?_eq_none (by rw [List.length_singleton]; omega)] at h; cases h
theorem w_append {h : Hp} {id k f pw a : Nat} {pa pn : Nat → Nat} {L : List Pg} {pg : Pg} (W : WP h id k f pw pa L pn) (hl : L.length < pw) (hpw : pw ≤ 21) (C : CO h a (paN pa id pn) pg) (h0 : hpR h a 0 = none) (h2 : hpI h a 2 = 0) (hj : ∀ j, j < 4 → pg.2.1 j ≠ 0 → pg.2.1 j / 32 = id → pg.2.1 j % 32 < L.length) :
    ∃ h', f_K_append k (some a) h = some h' ∧ WP h' id k f pw pa (L ++ [pg]) (va_up pn L.length a) ∧ Only [k, k + 1, a] h h' ∧ hpN h' = hpN h ∧ hpS h' = hpS h ∧ hpT h' a = hpT h a ∧ hpR h' k 4 = hpR h k 4 := by
  obtain ⟨K, w1, w2, w3⟩ := W
  obtain ⟨k1, k2, k3, k4, k5, k6, k7, k8⟩ := K
  obtain ⟨c1, c2, c3⟩ := C.kk
  have pgt : isPg h a = true := by rcases c1 with q | q | q; exact isPg_3 q; exact isPg_4 q; exact isPg_6 q
  have as := asV_p (h := h) k6 c1
  have cA : 2 < hpT h a ∧ hpT h a < 103 := by omega
  clear c1
  have ak : a ≠ k := ne_T (h := h) (by omega)
  have ak1 : a ≠ k + 1 := ne_T (h := h) (by omega)
  have a1k : a + 1 ≠ k := ne_T (h := h) (by omega)
  have a1k1 : a + 1 ≠ k + 1 := by omega
  obtain ⟨g, hg⟩ : ∃ g, g = wI (wR (wI (wR h a 0 (some k)) a 1 (nI L.length)) (k + 1) L.length (some a)) k 3 (nI (L.length + 1)) := ⟨_, rfl⟩
  have gT : hpT g = hpT h := by rw [hg]; rfl
  have gL : hpL g = hpL h := by rw [hg]; rfl
  have gN : hpN g = hpN h := by rw [hg]; rfl
  have gS : hpS g = hpS h := by rw [hg]; rfl
  have gR : ∀ b j, (b ≠ a ∨ j ≠ 0) → (b ≠ k + 1 ∨ j ≠ L.length) → hpR g b j = hpR h b j := fun b j z1 z2 => by
    rw [hg, R_wI, R_wR, if_neg (fun q => z2.elim (fun n => n q.1) (fun n => n q.2)), R_wI, R_wR, if_neg (fun q => z1.elim (fun n => n q.1) (fun n => n q.2))]
  have gI : ∀ b j, (b ≠ k ∨ j ≠ 3) → (b ≠ a ∨ j ≠ 1) → hpI g b j = hpI h b j := fun b j z1 z2 => by
    rw [hg, I_wI, if_neg (fun q => z1.elim (fun n => n q.1) (fun n => n q.2)), I_wR, I_wI, if_neg (fun q => z2.elim (fun n => n q.1) (fun n => n q.2)), I_wR]
  have gRa : hpR g a 0 = some k := by rw [hg, R_wI, R_wRn ak1, R_wI, R_same]
  have gRk : hpR g (k + 1) L.length = some a := by rw [hg, R_wI, R_same]
  have gIa : hpI g a 1 = nI L.length := by rw [hg, I_wIn ak, I_wR, I_same]
  have gIk : hpI g k 3 = nI (L.length + 1) := by rw [hg, I_same]
  refine ⟨g, ?_, ⟨⟨by rw [gT]; exact k1, by rw [gN]; exact k2, by rw [gI _ _ (Or.inr (by decide)) (Or.inl (Ne.symm ak))]; exact k3, by rw [gI _ _ (Or.inr (by decide)) (Or.inl (Ne.symm ak))]; exact k4, by rw [gR _ _ (Or.inl (Ne.symm ak)) (Or.inl (by omega))]; exact k5, by rw [gT]; exact k6, by rw [gL]; exact k7, by rw [gN]; exact k8⟩, by rw [gIk, List.length_append]; rfl, by rw [List.length_append]; exact hl, fun i x hx => ?_⟩, ?_, gN, gS, by rw [gT], by rw [gR _ _ (Or.inl (Ne.symm ak)) (Or.inl (by omega))]⟩
  · have e2 : asV (wI (wR h a 0 (some k)) a 1 (nI L.length)) (some a) (k + 1) = true := as
    rw [hg]
    unfold f_K_append
    simp (disch := omega) only [gd_T, dr_S, nm_v, cl_S, cv_S, bd_S, lk_L, lk_R, zbw_b, isK_e, isPg_3, isPg_4, isPg_6, asV_n, beq_self_eq_true, inb_N, inb_0, le_T, le_F, lt_T, lt_F, eq_F, le_0T, lt_0F, le_0F, eq_0F, nI_1, nI_add, pk_mul, nI_clamp, cl_0, if_true, if_false, of_nI, T_wI, L_wI, R_wI, N_wI, S_wI, T_wR, L_wR, I_wR, N_wR, S_wR, I_same, R_same, I_wIn, I_wIk, R_wRn, R_wRk, T_nwo, T_nwn, L_nwo, L_nwn, I_nwo, I_nwn, R_nwo, R_nwn, N_nw, S_nw, nar_1, nar_0, nar_01, b01_t0, b01_f0, b01_t1, b01_f1, ne_sn, eq_sn, sn_inj, pgt, k1, w1, k5, k6, k7, e2]
  · rcases appP_at hx with ⟨z1, z2⟩ | ⟨z1, z2⟩
    · obtain ⟨u1, u2, u3, u4, u5, u6, u7⟩ := w3 i x z2
      obtain ⟨d1, d2, d3⟩ := u6.kk
      have na : pn i ≠ a := fun z => by rw [z, h0] at u3; cases u3
      have nk : pn i ≠ k := ne_T (h := h) (by omega)
      have nk1 : pn i ≠ k + 1 := ne_T (h := h) (by omega)
      have na1 : pn i + 1 ≠ a := ne_T (h := h) (by omega)
      have nk2 : pn i + 1 ≠ k := ne_T (h := h) (by omega)
      have nk3 : pn i + 1 ≠ k + 1 := ne_T (h := h) (by omega)
      have iL : i ≠ L.length := by omega
      have pi : va_up pn L.length a i = pn i := if_neg iL
      rw [pi]
      refine ⟨by rw [gR _ _ (Or.inl (Ne.symm ak1)) (Or.inr iL)]; exact u1, by rw [gN]; exact u2, by rw [gR _ _ (Or.inl na) (Or.inl nk1)]; exact u3, by rw [gI _ _ (Or.inl nk) (Or.inl na)]; exact u4, by rw [gI _ _ (Or.inl nk) (Or.inl na)]; exact u5, u6.at (Nat.le_of_eq gN.symm) (by rw [gT]) (by rw [gT]) (by rw [gL]) (fun j hj' => ⟨gI _ _ (Or.inl nk) (Or.inl na), gR _ _ (Or.inl na) (Or.inl nk1)⟩) ⟨funext fun z => gI _ _ (Or.inl nk2) (Or.inl na1), funext fun z => gR _ _ (Or.inl na1) (Or.inl nk3)⟩ (fun _ j hj' hz => ?_), fun j hj' hz he => ?_⟩
      · unfold paN
        by_cases e : x.2.1 j / 32 = id
        · rw [if_pos e, if_pos e]
          have := u7 j hj' hz e
          exact if_neg (by omega)
        · rw [if_neg e, if_neg e]
      · have := u7 j hj' hz he
        rw [List.length_append]
        show _ < L.length + 1
        omega
    · subst z1 z2
      have pi : va_up pn L.length a L.length = a := if_pos rfl
      rw [pi]
      refine ⟨gRk, by rw [gN]; exact Nat.lt_of_succ_lt c3, gRa, gIa, by rw [gI _ _ (Or.inl ak) (Or.inr (by decide))]; exact h2, C.at (Nat.le_of_eq gN.symm) (by rw [gT]) (by rw [gT]) (by rw [gL]) (fun j hj' => ⟨gI _ _ (Or.inl ak) (Or.inr (by omega)), gR _ _ (Or.inr (by omega)) (Or.inl ak1)⟩) ⟨funext fun z => gI _ _ (Or.inl a1k) (Or.inl (by omega)), funext fun z => gR _ _ (Or.inl (by omega)) (Or.inl a1k1)⟩ (fun _ j hj' hz => ?_), fun j hj' hz he => ?_⟩
      · unfold paN
        by_cases e : x.2.1 j / 32 = id
        · rw [if_pos e, if_pos e]
          have := hj j hj' hz e
          exact if_neg (by omega)
        · rw [if_neg e, if_neg e]
      · have := hj j hj' hz he
        rw [List.length_append]
        show _ < L.length + 1
        omega
  · rw [hg]
    exact (((Only.refl _ h).wR (Or.inr (by simp))).wI (Or.inr (by simp))).wR (Or.inr (by simp)) |>.wI (Or.inr (by simp))
theorem p_writeLeaf {h : Hp} {p a0 a1 m j id k f pw : Nat} {now : Nat → Option Int32} {pa pn : Nat → Nat} {L : List Pg} (N : PN h p a0 a1 now) (W : WP h id k f pw pa L pn) (hm : m < 4) (hj : j < 4) (hl : L.length < pw) (hpw : pw ≤ 21) :
    ∃ h', f_P_writeLeaf p (some k) (nI m) (nI j) h = some (some (hpN h), h') ∧ WP h' id k f pw pa (L ++ [lpg now m j]) (va_up pn L.length (hpN h)) ∧ Only [k, k + 1] h h' ∧ hpN h' = hpN h + 2 ∧ hpS h' = hpS h + 13 ∧ hpT h' (hpN h) = 3 ∧ hpR h' k 4 = hpR h k 4 := by
  obtain ⟨g, i1, i2, i3, i4, i5, i6, i7, i8, i9, i10, i11⟩ := l_init h
  obtain ⟨v, v1, v2, v3⟩ := p_leafKeys (N.o i2 (fun x hx => by cases hx)) hm hj
  obtain ⟨⟨n1, n2, n3, n4, n5, n6, n7, n8, n9, n10⟩, n11⟩ := N
  obtain ⟨p1, p2, p3, p4⟩ := i2.at n2 List.not_mem_nil
  obtain ⟨q1, q2, q3, q4⟩ := i2.at n6 List.not_mem_nil
  have kb := W.1.2.1
  have k8 := W.1.2.2.2.2.2.2.2
  have o2 : Only [] h (cpI (wI g (hpN h) 4 v) a0 (32 * m + 8 * j) (hpN h + 1) 0 8) := (i2.wI (Or.inl (Nat.le_refl _))).cI (Or.inl (Nat.le_succ _))
  have W2 := W.o o2 List.not_mem_nil List.not_mem_nil (fun _ _ _ => ⟨List.not_mem_nil, List.not_mem_nil⟩)
  have C2 : CO (cpI (wI g (hpN h) 4 v) a0 (32 * m + 8 * j) (hpN h + 1) 0 8) (hpN h) (paN pa id pn) (lpg now m j) := by
    refine Or.inl ⟨rfl, i5, i9, i10, i11, ?_, fun x hx => ⟨?_, fun w hw => ?_⟩, fun x hx => ?_⟩
    · show _ < hpN g
      omega
    · rw [I_cIn (by omega), I_same, v2 x hx]; rfl
    · rw [I_cIb (by omega) (by omega), I_wIn (by omega), q3, Nat.sub_zero]
      have := (n11 m (8 * j + x) hm (by omega)).2 w hw
      rw [← Nat.add_assoc] at this
      exact this
    · rw [I_cIn (by omega), I_same]; exact v3 x hx
  obtain ⟨h', a1', a2, a3, a4, a5, a6, a7⟩ := w_append W2 hl hpw C2 i6 (by rw [I_cIn (by omega), I_wIk (by decide)]; exact i8) (fun j hj hz => absurd rfl hz)
  refine ⟨h', ?_, a2, (o2.mono (fun x hx => by cases hx)).tr a3 (fun x hx hl => ?_), by rw [a4]; exact i3, by rw [a5]; exact i4, by rw [a6]; exact i5, ?_⟩
  · have cb : cpB (wI g (hpN h) 4 v) a0 (hpN h + 1) (nI (32 * m + 8 * j)) (nI 0) (nI 8) = true := cp_T (by show _ ≤ hpL g a0; rw [q2, n5]; omega) (by show _ ≤ hpL g _; rw [i11]; omega) (by show hpL g a0 < _; rw [q2, n5]; decide) (by show hpL g _ < _; rw [i11]; decide)
    have k1 := W2.1.1
    unfold f_P_writeLeaf
    simp (disch := omega) only [gd_T, dr_S, nm_v, cl_S, cv_S, bd_S, lk_L, lk_R, zbw_b, isK_e, isPg_3, isPg_4, isPg_6, asV_n, beq_self_eq_true, inb_N, inb_0, le_T, le_F, lt_T, lt_F, eq_F, le_0T, lt_0F, le_0F, eq_0F, nI_1, nI_add, pk_mul, nI_clamp, cl_0, if_true, if_false, of_nI, T_wI, L_wI, R_wI, N_wI, S_wI, T_wR, L_wR, I_wR, N_wR, S_wR, I_same, R_same, I_wIn, I_wIk, R_wRn, R_wRk, T_nwo, T_nwn, L_nwo, L_nwn, I_nwo, I_nwn, R_nwo, R_nwn, N_nw, S_nw, nar_1, nar_0, nar_01, b01_t0, b01_f0, b01_t1, b01_f1, ne_sn, eq_sn, sn_inj, i1, p1, n1, v1, i5, p4, n3, i9, q1, n4, i10]
    rw [show ((0 : Int32)) = nI 0 from rfl, gd_t cb]
    simp (disch := omega) only [gd_T, dr_S, nm_v, cl_S, cv_S, bd_S, lk_L, lk_R, zbw_b, isK_e, isPg_3, isPg_4, isPg_6, asV_n, beq_self_eq_true, inb_N, inb_0, le_T, le_F, lt_T, lt_F, eq_F, le_0T, lt_0F, le_0F, eq_0F, nI_1, nI_add, pk_mul, nI_clamp, cl_0, if_true, if_false, of_nI, T_wI, L_wI, R_wI, N_wI, S_wI, T_wR, L_wR, I_wR, N_wR, S_wR, I_same, R_same, I_wIn, I_wIk, R_wRn, R_wRk, T_nwo, T_nwn, L_nwo, L_nwn, I_nwo, I_nwn, R_nwo, R_nwn, N_nw, S_nw, nar_1, nar_0, nar_01, b01_t0, b01_f0, b01_t1, b01_f1, ne_sn, eq_sn, sn_inj, k1, a1']
  · simp only [List.mem_cons, List.not_mem_nil, or_false] at hx ⊢
    omega
  · rw [a7]
    show hpR g k 4 = _
    rw [(i2.at kb List.not_mem_nil).2.2.2]

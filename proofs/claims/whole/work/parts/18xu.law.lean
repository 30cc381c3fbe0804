/-! THE LAW -/
def Sc (h : Hp) (b n : Nat) : Prop := hpT h b = 65 ∧ hpL h b = n ∧ b < hpN h
theorem Sc.k {w : Wl} {h h' : Hp} {b n : Nat} (S : Sc h b n) (K : Keep w h h') (q : nW w 65 = true) : Sc h' b n ∧ ∀ k, hpI h' b k = hpI h b k := ⟨⟨(K.2.2.1 b S.2.2).1.trans S.1, (K.2.2.1 b S.2.2).2.trans S.2.1, Nat.lt_of_lt_of_le S.2.2 K.1⟩, fun k => (K.J S.2.2 S.1 q k).1⟩
theorem Sc.a {h : Hp} {b n : Nat} (S : Sc h b n) : isA h b 0 = true := by
  unfold isA
  rw [S.1]; rfl
theorem Sc.i {h : Hp} {b n : Nat} (S : Sc h b n) (hn : n ≤ 2048) {i : Nat} (hi : i < n) : inb (nI i) (hpL h b) = true := inb_n (by rw [S.2.1]; exact hi) (by rw [S.2.1]; omega)
abbrev LwRs : Type := (Int32 × Hp) ⊕ (Hp ⊕ (Int32 × Hp))
theorem lw0 {h h1 h2 : Hp} {x y i : Nat} {r : Int32} {fx fm : Nat → Hp → Option (Int32 × Hp)} (tx : hpT h x = 0) (ty : hpT h1 y = 8) (e1 : fx x h = some (r, h1)) (e2 : fm y h1 = some (r, h2)) :
    (dr (some x) fun a128 => gd (isK h a128 0) (cl (fx a128 h) fun v133 h131 => dr (some y) fun a135 => gd (isK h131 a135 8) (cl (fm a135 h131) fun v140 h138 => if v133 = v140 then (some (.inl ((nI i + (nI 4)), h138))) else (some (.inr (.inr ((0 : Int32), h138))))))) = (some (.inl (nI (i + 4), h2)) : Option LwRs) := by
  rw [dr_s rfl, gd_t (isK_of tx), cl_s e1, dr_s rfl, gd_t (isK_of ty), cl_s e2, if_pos rfl, nI_add]
theorem lw1 {h h1 h2 : Hp} {b x y i n : Nat} {r : Int32} {fx fm : Nat → Int32 → Hp → Option (Int32 × Hp)} (S : Sc h b n) (S1 : Sc h1 b n) (ei : ∀ k, hpI h1 b k = hpI h b k) (hi : i + 4 ≤ n) (hn : n ≤ 2048) (tx : hpT h x = 0) (ty : hpT h1 y = 8) (e1 : fx x (hpI h b (i + 1)) h = some (r, h1)) (e2 : fm y (hpI h b (i + 1)) h1 = some (r, h2)) :
    (gd (inb (nI i + (1 : Int32)) (hpL h b)) (dr (some x) fun a145 => gd (isK h a145 0) (cl (fx a145 (hpI h b (nI i + (1 : Int32)).toNatClampNeg) h) fun v150 h148 => gd (isA h148 b 0) (gd (inb (nI i + (1 : Int32)) (hpL h148 b)) (dr (some y) fun a154 => gd (isK h148 a154 8) (cl (fm a154 (hpI h148 b (nI i + (1 : Int32)).toNatClampNeg) h148) fun v159 h157 => if v150 = v159 then (some (.inl ((nI i + (nI 4)), h157))) else (some (.inr (.inr ((0 : Int32), h157)))))))))) = (some (.inl (nI (i + 4), h2)) : Option LwRs) := by
  rw [nI_s, gd_t (S.i hn (by omega)), dr_s rfl, gd_t (isK_of tx), nI_clamp (by omega), cl_s e1, gd_t S1.a, gd_t (S1.i hn (by omega)), dr_s rfl, gd_t (isK_of ty), ei, cl_s e2, if_pos rfl, nI_add]
theorem lw2 {h h1 h2 : Hp} {b x y i n : Nat} {r : Int32} {fx fm : Nat → Int32 → Int32 → Hp → Option (Int32 × Hp)} (S : Sc h b n) (S1 : Sc h1 b n) (ei : ∀ k, hpI h1 b k = hpI h b k) (hi : i + 4 ≤ n) (hn : n ≤ 2048) (tx : hpT h x = 0) (ty : hpT h1 y = 8) (e1 : fx x (hpI h b (i + 1)) (hpI h b (i + 2)) h = some (r, h1)) (e2 : fm y (hpI h b (i + 1)) (hpI h b (i + 2)) h1 = some (r, h2)) :
    (gd (inb (nI i + (1 : Int32)) (hpL h b)) (gd (inb (nI i + (nI 2)) (hpL h b)) (dr (some x) fun a44 => gd (isK h a44 0) (cl (fx a44 (hpI h b (nI i + (1 : Int32)).toNatClampNeg) (hpI h b (nI i + (nI 2)).toNatClampNeg) h) fun v49 h47 => gd (isA h47 b 0) (gd (inb (nI i + (1 : Int32)) (hpL h47 b)) (gd (inb (nI i + (nI 2)) (hpL h47 b)) (dr (some y) fun a54 => gd (isK h47 a54 8) (cl (fm a54 (hpI h47 b (nI i + (1 : Int32)).toNatClampNeg) (hpI h47 b (nI i + (nI 2)).toNatClampNeg) h47) fun v59 h57 => if v49 = v59 then (some (.inl ((nI i + (nI 4)), h57))) else (some (.inr (.inr ((0 : Int32), h57)))))))))))) = (some (.inl (nI (i + 4), h2)) : Option LwRs) := by
  rw [nI_s, nI_add i 2, gd_t (S.i hn (by omega)), gd_t (S.i hn (by omega)), dr_s rfl, gd_t (isK_of tx), nI_clamp (n := i + 1) (by omega), nI_clamp (n := i + 2) (by omega), cl_s e1, gd_t S1.a, gd_t (S1.i hn (by omega)), gd_t (S1.i hn (by omega)), dr_s rfl, gd_t (isK_of ty), ei, ei, cl_s e2, if_pos rfl, nI_add]
theorem lw2L {h h1 h2 : Hp} {b x y i n : Nat} {r : Int64} {fx fm : Nat → Int32 → Int32 → Hp → Option (Int64 × Hp)} (S : Sc h b n) (S1 : Sc h1 b n) (ei : ∀ k, hpI h1 b k = hpI h b k) (hi : i + 4 ≤ n) (hn : n ≤ 2048) (tx : hpT h x = 0) (ty : hpT h1 y = 8) (e1 : fx x (hpI h b (i + 1)) (hpI h b (i + 2)) h = some (r, h1)) (e2 : fm y (hpI h b (i + 1)) (hpI h b (i + 2)) h1 = some (r, h2)) :
    (gd (inb (nI i + (1 : Int32)) (hpL h b)) (gd (inb (nI i + (nI 2)) (hpL h b)) (dr (some x) fun a44 => gd (isK h a44 0) (cl (fx a44 (hpI h b (nI i + (1 : Int32)).toNatClampNeg) (hpI h b (nI i + (nI 2)).toNatClampNeg) h) fun v49 h47 => gd (isA h47 b 0) (gd (inb (nI i + (1 : Int32)) (hpL h47 b)) (gd (inb (nI i + (nI 2)) (hpL h47 b)) (dr (some y) fun a54 => gd (isK h47 a54 8) (cl (fm a54 (hpI h47 b (nI i + (1 : Int32)).toNatClampNeg) (hpI h47 b (nI i + (nI 2)).toNatClampNeg) h47) fun v59 h57 => if lg_cmp v49 v59 = 0 then (some (.inl ((nI i + (nI 4)), h57))) else (some (.inr (.inr ((0 : Int32), h57)))))))))))) = (some (.inl (nI (i + 4), h2)) : Option LwRs) := by
  rw [nI_s, nI_add i 2, gd_t (S.i hn (by omega)), gd_t (S.i hn (by omega)), dr_s rfl, gd_t (isK_of tx), nI_clamp (n := i + 1) (by omega), nI_clamp (n := i + 2) (by omega), cl_s e1, gd_t S1.a, gd_t (S1.i hn (by omega)), gd_t (S1.i hn (by omega)), dr_s rfl, gd_t (isK_of ty), ei, ei, cl_s e2, if_pos ((lgc0 _ _).mpr rfl), nI_add]
theorem lw3 {h h1 h2 : Hp} {b x y i n : Nat} {r : Int32} {fx fm : Nat → Int32 → Int32 → Int32 → Hp → Option (Int32 × Hp)} (S : Sc h b n) (S1 : Sc h1 b n) (ei : ∀ k, hpI h1 b k = hpI h b k) (hi : i + 4 ≤ n) (hn : n ≤ 2048) (tx : hpT h x = 0) (ty : hpT h1 y = 8) (e1 : fx x (hpI h b (i + 1)) (hpI h b (i + 2)) (hpI h b (i + 3)) h = some (r, h1)) (e2 : fm y (hpI h b (i + 1)) (hpI h b (i + 2)) (hpI h b (i + 3)) h1 = some (r, h2)) :
    (gd (inb (nI i + (1 : Int32)) (hpL h b)) (gd (inb (nI i + (nI 2)) (hpL h b)) (gd (inb (nI i + (nI 3)) (hpL h b)) (dr (some x) fun a22 => gd (isK h a22 0) (cl (fx a22 (hpI h b (nI i + (1 : Int32)).toNatClampNeg) (hpI h b (nI i + (nI 2)).toNatClampNeg) (hpI h b (nI i + (nI 3)).toNatClampNeg) h) fun v27 h25 => gd (isA h25 b 0) (gd (inb (nI i + (1 : Int32)) (hpL h25 b)) (gd (inb (nI i + (nI 2)) (hpL h25 b)) (gd (inb (nI i + (nI 3)) (hpL h25 b)) (dr (some y) fun a33 => gd (isK h25 a33 8) (cl (fm a33 (hpI h25 b (nI i + (1 : Int32)).toNatClampNeg) (hpI h25 b (nI i + (nI 2)).toNatClampNeg) (hpI h25 b (nI i + (nI 3)).toNatClampNeg) h25) fun v38 h36 => if v27 = v38 then (some (.inl ((nI i + (nI 4)), h36))) else (some (.inr (.inr ((0 : Int32), h36)))))))))))))) = (some (.inl (nI (i + 4), h2)) : Option LwRs) := by
  rw [nI_s, nI_add i 2, nI_add i 3, gd_t (S.i hn (by omega)), gd_t (S.i hn (by omega)), gd_t (S.i hn (by omega)), dr_s rfl, gd_t (isK_of tx), nI_clamp (n := i + 1) (by omega), nI_clamp (n := i + 2) (by omega), nI_clamp (n := i + 3) (by omega), cl_s e1, gd_t S1.a, gd_t (S1.i hn (by omega)), gd_t (S1.i hn (by omega)), gd_t (S1.i hn (by omega)), dr_s rfl, gd_t (isK_of ty), ei, ei, ei, cl_s e2, if_pos rfl, nI_add]
theorem lw3L {h h1 h2 : Hp} {b x y i n : Nat} {r : Int64} {fx fm : Nat → Int32 → Int32 → Int32 → Hp → Option (Int64 × Hp)} (S : Sc h b n) (S1 : Sc h1 b n) (ei : ∀ k, hpI h1 b k = hpI h b k) (hi : i + 4 ≤ n) (hn : n ≤ 2048) (tx : hpT h x = 0) (ty : hpT h1 y = 8) (e1 : fx x (hpI h b (i + 1)) (hpI h b (i + 2)) (hpI h b (i + 3)) h = some (r, h1)) (e2 : fm y (hpI h b (i + 1)) (hpI h b (i + 2)) (hpI h b (i + 3)) h1 = some (r, h2)) :
    (gd (inb (nI i + (1 : Int32)) (hpL h b)) (gd (inb (nI i + (nI 2)) (hpL h b)) (gd (inb (nI i + (nI 3)) (hpL h b)) (dr (some x) fun a22 => gd (isK h a22 0) (cl (fx a22 (hpI h b (nI i + (1 : Int32)).toNatClampNeg) (hpI h b (nI i + (nI 2)).toNatClampNeg) (hpI h b (nI i + (nI 3)).toNatClampNeg) h) fun v27 h25 => gd (isA h25 b 0) (gd (inb (nI i + (1 : Int32)) (hpL h25 b)) (gd (inb (nI i + (nI 2)) (hpL h25 b)) (gd (inb (nI i + (nI 3)) (hpL h25 b)) (dr (some y) fun a33 => gd (isK h25 a33 8) (cl (fm a33 (hpI h25 b (nI i + (1 : Int32)).toNatClampNeg) (hpI h25 b (nI i + (nI 2)).toNatClampNeg) (hpI h25 b (nI i + (nI 3)).toNatClampNeg) h25) fun v38 h36 => if lg_cmp v27 v38 = 0 then (some (.inl ((nI i + (nI 4)), h36))) else (some (.inr (.inr ((0 : Int32), h36)))))))))))))) = (some (.inl (nI (i + 4), h2)) : Option LwRs) := by
  rw [nI_s, nI_add i 2, nI_add i 3, gd_t (S.i hn (by omega)), gd_t (S.i hn (by omega)), gd_t (S.i hn (by omega)), dr_s rfl, gd_t (isK_of tx), nI_clamp (n := i + 1) (by omega), nI_clamp (n := i + 2) (by omega), nI_clamp (n := i + 3) (by omega), cl_s e1, gd_t S1.a, gd_t (S1.i hn (by omega)), gd_t (S1.i hn (by omega)), gd_t (S1.i hn (by omega)), dr_s rfl, gd_t (isK_of ty), ei, ei, ei, cl_s e2, if_pos ((lgc0 _ _).mpr rfl), nI_add]
theorem Ok.xy {E : Nat × Nat} {h : Hp} {x y : Nat} {A : Nat → Nat} {j : Nat} (K : Ok E h x y A j) : (hpT h x = 0 ∧ x < hpN h) ∧ hpT h y = 8 ∧ y < hpN h := by
  obtain ⟨B, va, ca, ka, pa, rd, pid, pat, s, base, gen, R, Q, -⟩ := K
  exact ⟨⟨R.2.1.1, R.2.1.2.1⟩, Q.1.1, Q.1.2.1⟩
theorem sub4 {n : Nat} (h : 4 ≤ n) : Int32.ofNat n - nI 4 = nI (n - 4) := by
  obtain ⟨m, rfl⟩ : ∃ m, n = m + 4 := ⟨n - 4, by omega⟩
  show nI (m + 4) - nI 4 = _
  rw [← nI_add, Nat.add_sub_cancel]
  exact Int32.add_sub_cancel _ _
set_option maxRecDepth 100000 in
theorem law_step {E : Nat × Nat} {h : Hp} {x y : Nat} {A : Nat → Nat} {j b n i : Nat} (K : Ok E h x y A j) (hj : j < 600) (S : Sc h b n) (hn : n ≤ 2048) (hi : i + 4 ≤ n) : ∃ h2, b_law_18 E (some b) (some x) (some y) (nI i) h = some (.inl (nI (i + 4), h2)) ∧ Ok E h2 x y A (j + 1) ∧ Rm h h2 ∧ Sc h2 b n := by
  obtain ⟨⟨tx, xl⟩, ty, yl⟩ := K.xy
  have lt : ¬ (Int32.ofNat (hpL h b) - nI 4 < nI i) := by
    rw [S.2.1, sub4 (by omega)]
    exact nI_nlt (by omega) (by omega)
  obtain ⟨z, hz⟩ : ∃ z, z = hpI h b i &&& nI 31 := ⟨_, rfl⟩
  have tk : ∀ {w : Wl} {h1 : Hp}, Keep w h h1 → hpT h1 y = 8 := fun q => (q.2.2.1 y yl).1.trans ty
  unfold b_law_18
  rw [dr_s rfl, gd_t S.a, if_neg lt, gd_t (S.i hn (by omega)), nI_clamp (by omega), ← hz]
  by_cases c : z = 0
  · obtain ⟨r, h1, h2, e1, e2, k', rm⟩ := c_put K (hpI h b (i + 1)) (hpI h b (i + 2)) (hpI h b (i + 3))
    have k1 := fr_X_put (C := cT) (mi := 0) e1
    obtain ⟨S1, ei⟩ := S.k k1 (by decide)
    refine ⟨h2, ?_, k', rm, (S1.k (fr_M_put (C := cT) (mi := 0) e2) (by decide)).1⟩
    rw [if_pos c]
    exact lw3 (fx := f_X_put) (fm := f_M_put) S S1 ei hi hn tx (tk k1) e1 e2
  rw [if_neg c]
  clear c
  by_cases c : z = 1
  · obtain ⟨r, h1, h2, e1, e2, k', rm⟩ := c_remove K (hpI h b (i + 1)) (hpI h b (i + 2))
    have k1 := fr_X_remove (C := cT) (mi := 0) e1
    obtain ⟨S1, ei⟩ := S.k k1 (by decide)
    refine ⟨h2, ?_, k', rm, (S1.k (fr_M_remove (C := cT) (mi := 0) e2) (by decide)).1⟩
    rw [if_pos c]
    exact lw2 (fx := f_X_remove) (fm := f_M_remove) S S1 ei hi hn tx (tk k1) e1 e2
  rw [if_neg c]
  clear c
  by_cases c : z = nI 2
  · obtain ⟨r, e1, e2⟩ := c_get K (hpI h b (i + 1)) (hpI h b (i + 2))
    refine ⟨h, ?_, K.mono, Rm.refl h, S⟩
    rw [if_pos c]
    exact lw2L (fx := f_X_get) (fm := f_M_get) S S (fun _ => rfl) hi hn tx ty e1 e2
  rw [if_neg c]
  clear c
  by_cases c : z = nI 3
  · obtain ⟨r, e1, e2⟩ := c_at K (hpI h b (i + 1)) (hpI h b (i + 2)) (hpI h b (i + 3))
    refine ⟨h, ?_, K.mono, Rm.refl h, S⟩
    rw [if_pos c]
    exact lw3L (fx := f_X_at) (fm := f_M_at) S S (fun _ => rfl) hi hn tx ty e1 e2
  rw [if_neg c]
  clear c
  by_cases c : z = nI 4
  · obtain ⟨r, e1, e2⟩ := c_next K (hpI h b (i + 1)) (hpI h b (i + 2))
    refine ⟨h, ?_, K.mono, Rm.refl h, S⟩
    rw [if_pos c]
    exact lw2 (fx := f_X_next) (fm := f_M_next) S S (fun _ => rfl) hi hn tx ty e1 e2
  rw [if_neg c]
  clear c
  by_cases c : z = nI 5
  · obtain ⟨r, h1, h2, e1, e2, k', rm⟩ := c_commit K hj
    have k1 := fr_X_commit (C := cTe E.1) (mi := E.2) e1
    obtain ⟨S1, ei⟩ := S.k k1 (by decide)
    refine ⟨h2, ?_, k', rm, (S1.k (fr_M_commit (C := cT) (mi := 0) e2) (by decide)).1⟩
    rw [if_pos c]
    exact lw0 (fx := f_X_commit E) (fm := f_M_commit) tx (tk k1) e1 e2
  rw [if_neg c]
  clear c
  by_cases c : z = nI 6
  · obtain ⟨r, h1, h2, e1, e2, k', rm⟩ := c_rollback K hj (hpI h b (i + 1))
    have k1 := fr_X_rollback (C := cTe E.1) (mi := E.2) e1
    obtain ⟨S1, ei⟩ := S.k k1 (by decide)
    refine ⟨h2, ?_, k', rm, (S1.k (fr_M_rollback (C := cT) (mi := 0) e2) (by decide)).1⟩
    rw [if_pos c]
    exact lw1 (fx := f_X_rollback E) (fm := f_M_rollback) S S1 ei hi hn tx (tk k1) e1 e2
  rw [if_neg c]
  clear c
  by_cases c : z = nI 7
  · obtain ⟨r, h1, h2, e1, e2, k', rm⟩ := c_pin K (hpI h b (i + 1))
    have k1 := fr_X_pin (C := cT) (mi := 0) e1
    obtain ⟨S1, ei⟩ := S.k k1 (by decide)
    refine ⟨h2, ?_, k', rm, (S1.k (fr_M_pin (C := cT) (mi := 0) e2) (by decide)).1⟩
    rw [if_pos c]
    exact lw1 (fx := f_X_pin) (fm := f_M_pin) S S1 ei hi hn tx (tk k1) e1 e2
  rw [if_neg c]
  clear c
  by_cases c : z = nI 8
  · obtain ⟨r, h1, h2, e1, e2, k', rm⟩ := c_unpin K hj (hpI h b (i + 1))
    have k1 := fr_X_unpin (C := cT) (mi := 0) e1
    obtain ⟨S1, ei⟩ := S.k k1 (by decide)
    refine ⟨h2, ?_, k', rm, (S1.k (fr_M_unpin (C := cT) (mi := 0) e2) (by decide)).1⟩
    rw [if_pos c]
    exact lw1 (fx := f_X_unpin) (fm := f_M_unpin) S S1 ei hi hn tx (tk k1) e1 e2
  rw [if_neg c]
  clear c
  by_cases c : z = nI 9
  · obtain ⟨r, h1, h2, e1, e2, k', rm⟩ := c_hold K hj (hpI h b (i + 1))
    have k1 := fr_X_hold (C := cT) (mi := 0) e1
    obtain ⟨S1, ei⟩ := S.k k1 (by decide)
    refine ⟨h2, ?_, k', rm, (S1.k (fr_M_hold (C := cT) (mi := 0) e2) (by decide)).1⟩
    rw [if_pos c]
    exact lw1 (fx := f_X_hold) (fm := f_M_hold) S S1 ei hi hn tx (tk k1) e1 e2
  rw [if_neg c]
  clear c
  by_cases c : z = nI 10
  · obtain ⟨r, h1, h2, e1, e2, k', rm⟩ := c_sync K
    have k1 := fr_X_sync (C := cT) (mi := 0) e1
    obtain ⟨S1, ei⟩ := S.k k1 (by decide)
    refine ⟨h2, ?_, k', rm, (S1.k (fr_M_sync (C := cT) (mi := 0) e2) (by decide)).1⟩
    rw [if_pos c]
    exact lw0 (fx := f_X_sync) (fm := f_M_sync) tx (tk k1) e1 e2
  rw [if_neg c]
  clear c
  by_cases c : z = nI 11
  · obtain ⟨r, h1, h2, e1, e2, k', rm⟩ := c_compact K (hpI h b (i + 1))
    have k1 := fr_X_compact (C := cT) (mi := 0) e1
    obtain ⟨S1, ei⟩ := S.k k1 (by decide)
    refine ⟨h2, ?_, k', rm, (S1.k (fr_M_compact (C := cT) (mi := 0) e2) (by decide)).1⟩
    rw [if_pos c]
    exact lw1 (fx := f_X_compact) (fm := f_M_compact) S S1 ei hi hn tx (tk k1) e1 e2
  rw [if_neg c]
  clear c
  by_cases c : z = nI 12
  · obtain ⟨r, h1, h2, e1, e2, k', rm⟩ := c_crash K hj (hpI h b (i + 1)) (hpI h b (i + 2))
    have k1 := fr_X_crash (C := cTe E.1) (mi := E.2) e1
    obtain ⟨S1, ei⟩ := S.k k1 (by decide)
    refine ⟨h2, ?_, k', rm, (S1.k (fr_M_crash (C := cT) (mi := 0) e2) (by decide)).1⟩
    rw [if_pos c]
    exact lw2 (fx := f_X_crash E) (fm := f_M_crash) S S1 ei hi hn tx (tk k1) e1 e2
  rw [if_neg c]
  clear c
  by_cases c : z = nI 13
  · obtain ⟨r, h2, e1, e2, k', rm⟩ := c_chunk K (hpI h b (i + 1)) (hpI h b (i + 2))
    refine ⟨h2, ?_, k', rm, (S.k (fr_M_chunk (C := cT) (mi := 0) e2) (by decide)).1⟩
    rw [if_pos c]
    exact lw2 (fx := f_X_chunk) (fm := f_M_chunk) S S (fun _ => rfl) hi hn tx ty e1 e2
  rw [if_neg c]
  clear c
  by_cases c : z = nI 14
  · obtain ⟨r, e1, e2⟩ := c_block K (hpI h b (i + 1)) (hpI h b (i + 2))
    refine ⟨h, ?_, K.mono, Rm.refl h, S⟩
    rw [if_pos c]
    exact lw2 (fx := f_X_block) (fm := f_M_block) S S (fun _ => rfl) hi hn tx ty e1 e2
  rw [if_neg c]
  clear c
  by_cases c : z = nI 15
  · obtain ⟨r, e1, e2⟩ := c_kept K (hpI h b (i + 1))
    refine ⟨h, ?_, K.mono, Rm.refl h, S⟩
    rw [if_pos c]
    exact lw1 (fx := f_X_kept) (fm := f_M_kept) S S (fun _ => rfl) hi hn tx ty e1 e2
  rw [if_neg c]
  clear c
  by_cases c : z = nI 16
  · obtain ⟨r, h2, e1, e2, k', rm⟩ := c_count K (hpI h b (i + 1))
    refine ⟨h2, ?_, k', rm, (S.k (fr_M_count (C := cT) (mi := 0) e2) (by decide)).1⟩
    rw [if_pos c]
    exact lw1 (fx := f_X_count) (fm := f_M_count) S S (fun _ => rfl) hi hn tx ty e1 e2
  rw [if_neg c, nI_add]
  exact ⟨h, rfl, K.mono, Rm.refl h, S⟩
set_option maxRecDepth 100000 in
theorem law_end {E : Nat × Nat} {h : Hp} {b n i : Nat} {o o' : Option Nat} (S : Sc h b n) (hn : n ≤ 2048) (hi : n < i + 4) (hb : i ≤ 2048) : b_law_18 E (some b) o o' (nI i) h = some (.inr (.inl h)) := by
  unfold b_law_18
  rw [dr_s rfl, gd_t S.a, if_pos]
  rw [S.2.1]
  rcases Nat.lt_or_ge n 4 with q | q
  · have i0 : ∀ m, m < 4 → Int32.ofNat m - nI 4 < 0 := by decide
    exact Int32.lt_of_lt_of_le (i0 n q) (nI_pos' (by omega))
  · rw [sub4 q]
    exact nI_lt (by omega) (by omega)
set_option maxRecDepth 100000 in
theorem law_run {E : Nat × Nat} {b : Nat} {h : Hp} (eT : hpT h E.1 = 64) (bT : hpT h b = 65) (eL : hpL h E.1 = 0) (bL : hpL h b ≤ 2048) (eN : E.1 < hpN h) (bN : b < hpN h) : ∃ h', f_law E b h = some (1, h') ∧ hpN h' ≤ hpN h + 600000 ∧ hpS h' ≤ hpS h + 7302250 := by
  obtain ⟨n, hn⟩ : ∃ n, n = hpL h b := ⟨_, rfl⟩
  rw [← hn] at bL
  obtain ⟨h1, hh1⟩ : ∃ g, g = nw h 0 0 8 := ⟨_, rfl⟩
  have n1 : hpN h1 = hpN h + 1 := by rw [hh1]; rfl
  have s1 : hpS h1 = hpS h + 8 := by rw [hh1]; rfl
  have S1 : Sc h1 b n := by rw [hh1]; exact ⟨(T_nwo bN).trans bT, (L_nwo bN).trans hn.symm, Nat.lt_succ_of_lt bN⟩
  obtain ⟨h4, B, va, e4, R4, n4, n4', s4⟩ := x_init (E := E) (h := h1) (x := hpN h) (by rw [hh1]; exact T_nwn rfl) (by omega) (by rw [hh1]; exact (T_nwo eN).trans eT) (by rw [hh1]; exact (L_nwo eN).trans eL) (by omega)
  obtain ⟨S4, -⟩ := S1.k (fr_X_init (C := cTe E.1) (mi := E.2) e4) (by decide)
  obtain ⟨h10, A, e10, O10, n10, s10, Q10⟩ := m_init h4
  have K10 : Keep ([], []) h4 h10 := O10.kp
  obtain ⟨S10, -⟩ := S4.k K10 (by decide)
  have K0 : Ok E h10 (hpN h) (hpN h4) A 0 := ⟨B, va, _, _, _, 0, _, _, s00, 0, 1, R4.k K10 (by decide), Q10, iv_init, Nat.le_refl _, Nat.le_refl _, Nat.le_refl _, fun k v => (vk_1 v).elim⟩
  have key : ∃ r, l_law_18 E (some b) (some (hpN h)) (some (hpN h4)) ((0 : Int32), h10) = some r ∧ ∃ h', r = .inl h' ∧ hpN h' ≤ hpN h10 + 100 * 512 ∧ hpS h' ≤ hpS h10 + 1000 * 512 := by
    refine lp_up (b := fun s => b_law_18 E (some b) (some (hpN h)) (some (hpN h4)) s.1 s.2) (fun j z => z.1 = nI (4 * j) ∧ Ok E z.2 (hpN h) (hpN h4) A j ∧ Sc z.2 b n ∧ hpN z.2 ≤ hpN h10 + 100 * j ∧ hpS z.2 ≤ hpS h10 + 1000 * j) _ (n / 4) (by omega) ⟨rfl, K0, S10, Nat.le_refl _, Nat.le_refl _⟩ (fun j z hj hz => Or.inl ?_) (fun z hz => ⟨.inl z.2, ?_, z.2, rfl, ?_, ?_⟩)
    · obtain ⟨a, q⟩ := z
      obtain ⟨b1, b2, b3, b4, b5⟩ := hz
      dsimp only at b1 b2 b3 b4 b5
      subst b1
      obtain ⟨h2, e, k', rm, S'⟩ := law_step b2 (by omega) b3 bL (i := 4 * j) (by omega)
      refine ⟨(nI (4 * j + 4), h2), e, rfl, k', S', ?_, ?_⟩
      · have := rm.2.1
        show hpN h2 ≤ _
        omega
      · have := rm.2.2
        show hpS h2 ≤ _
        omega
    · obtain ⟨a, q⟩ := z
      obtain ⟨b1, b2, b3, b4, b5⟩ := hz
      dsimp only at b1 b2 b3 b4 b5
      subst b1
      exact law_end b3 bL (by omega) (by omega)
    · have := hz.2.2.2.1
      omega
    · have := hz.2.2.2.2
      omega
  obtain ⟨r, er, h', rfl, n', s'⟩ := key
  refine ⟨h', ?_, by omega, by omega⟩
  unfold f_law
  rw [nm_v, ← hh1, cv_s e4, nm_v, cv_s e10, er]
  rfl

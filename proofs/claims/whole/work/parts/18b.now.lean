/-! SMALL TESTS of both sides -/
theorem in_out {x : Int32} {n : Nat} (hx : x < 0 ∨ nI n ≤ x) (h : Hp) : f_M_in x (nI n) h = some (0, h) := by
  refine zbw_s ?_ zb_0
  unfold f0_M_in
  rcases hx with q | q
  · rw [if_pos q]
  · by_cases q2 : x < 0
    · rw [if_pos q2]
    · rw [if_neg q2, if_pos q]
theorem in_ok {j n : Nat} (hj : j < n) (hn : n < 2 ^ 31) (h : Hp) : f_M_in (nI j) (nI n) h = some (1, h) := by
  refine zbw_s ?_ zb_1
  unfold f0_M_in
  rw [if_neg (nI_pos (by omega)), if_neg (nI_ge hj hn)]
theorem map_out {x : Int32} (hx : x < 0 ∨ nI 4 ≤ x) (h : Hp) : f_X_isMap x h = some (0, h) := by
  refine zbw_s ?_ zb_0
  unfold f0_X_isMap
  rcases hx with q | q
  · rw [if_pos q]
  · by_cases q2 : x < 0
    · rw [if_pos q2]
    · rw [if_neg q2, if_pos q]
theorem map_ok {j : Nat} (hj : j < 4) (h : Hp) : f_X_isMap (nI j) h = some (1, h) := by
  refine zbw_s ?_ zb_1
  unfold f0_X_isMap
  rw [if_neg (nI_pos (by omega)), if_neg (nI_ge hj (by omega))]
theorem key_out {x y : Int32} (hx : (x < 0 ∨ nI 4 ≤ x) ∨ (y < 0 ∨ nI 32 ≤ y)) (h : Hp) : f_X_isKey x y h = some (0, h) := by
  refine zbw_s ?_ zb_0
  unfold f0_X_isKey
  rcases pk_ix x (n := 4) (by decide) with q | q | ⟨j, hj, rfl⟩
  · rw [cl_s (map_out (Or.inl q) h), if_pos rfl]
  · rw [cl_s (map_out (Or.inr q) h), if_pos rfl]
  · rw [cl_s (map_ok hj h), if_neg (by decide)]
    rcases hx with q | q
    · rcases q with q | q
      · exact absurd q (nI_pos (by omega))
      · exact absurd q (nI_ge hj (by omega))
    · rcases q with q | q
      · rw [if_pos q]
      · by_cases q2 : y < 0
        · rw [if_pos q2]
        · rw [if_neg q2, if_pos q]
theorem key_ok {m k : Nat} (hm : m < 4) (hk : k < 32) (h : Hp) : f_X_isKey (nI m) (nI k) h = some (1, h) := by
  refine zbw_s ?_ zb_1
  unfold f0_X_isKey
  rw [cl_s (map_ok hm h), if_neg (by decide), if_neg (nI_pos (by omega)), if_neg (nI_ge hk (by omega))]
/-! indices -/
theorem ix_32 {m k : Nat} : nI 32 * nI m + nI k = nI (32 * m + k) := by rw [pk_mul, nI_add]
theorem ix_4 {m k : Nat} : nI 4 * nI m + nI k = nI (4 * m + k) := by rw [pk_mul, nI_add]
theorem ix_d8 {k : Nat} (hk : k < 2 ^ 31) : nI k / nI 8 = nI (k / 8) := pk_div hk (by decide) (by decide)
/-! WHAT THE REFERENCE HOLDS NOW -/
def b01 (b : Bool) : Int32 := bif b then 1 else 0
theorem b01_0 {b : Bool} : b01 b = 0 ↔ b = false := by cases b <;> decide
theorem nar_01 (b : Bool) : vp_nar .boolean (b01 b) = b01 b := by cases b <;> rfl
def MNow (h : Hp) (A : Nat → Nat) (now : Nat → Option Int32) : Prop := ∀ i, i < 128 → hpI h (A 0) i = b01 (now i).isSome ∧ ∀ v, now i = some v → hpI h (A 3) i = v
def MTl (h : Hp) (A : Nat → Nat) (tl : Nat → Bool) : Prop := ∀ i, i < 16 → hpI h (A 1) i = b01 (tl i)
def MTm (h : Hp) (A : Nat → Nat) (tm : Nat → Bool) : Prop := ∀ i, i < 4 → hpI h (A 2) i = b01 (tm i)
theorem m_put {h : Hp} {y : Nat} {A : Nat → Nat} {now : Nat → Option Int32} {tl : Nat → Bool} {m k : Nat} {v : Int32} (M : MOK h y A) (N : MNow h A now) (T : MTl h A tl) (hm : m < 4) (hk : k < 32) :
    ∃ h', f_M_put y (nI m) (nI k) v h = some (b01 (now (32 * m + k)).isSome, h') ∧ MOK h' y A ∧ MNow h' A (va_up now (32 * m + k) (some v)) ∧ MTl h' A (va_up tl (4 * m + k / 8) true) ∧ hpN h' = hpN h ∧ hpS h' = hpS h := by
  have r0 := M.a0
  have r1 := M.a1
  have r3 := M.a3
  have n01 := M.ne (i := 0) (j := 1) (by decide) (by decide) (by decide)
  have n03 := M.ne (i := 0) (j := 3) (by decide) (by decide) (by decide)
  have n13 := M.ne (i := 1) (j := 3) (by decide) (by decide) (by decide)
  have hi : 32 * m + k < 128 := by omega
  have hq : 4 * m + k / 8 < 16 := by omega
  have hc : (nI (32 * m + k)).toNatClampNeg = 32 * m + k := nI_clamp (by omega)
  have hc2 : (nI (4 * m + k / 8)).toNatClampNeg = 4 * m + k / 8 := nI_clamp (by omega)
  have tail : ∀ w : Int32, ∃ h', j_M_put_38_M y (nI m) (nI k) v w h = some (w, h') ∧ MOK h' y A ∧ MNow h' A (va_up now (32 * m + k) (some v)) ∧ MTl h' A (va_up tl (4 * m + k / 8) true) ∧ hpN h' = hpN h ∧ hpS h' = hpS h := by
    intro w
    refine ⟨wI (wI (wI h (A 0) (32 * m + k) 1) (A 3) (32 * m + k) v) (A 1) (4 * m + k / 8) 1, ?_, M, ?_, ?_, rfl, rfl⟩
    · unfold j_M_put_38_M
      simp only [nm_v, R_wI, L_wI, K_wI]
      rw [gd_t (isK_of M.1), dr_s r0.1, gd_t (isK_of r0.2.1), ix_32, gd_t (inb_n (by rw [r0.2.2.1]; exact hi) (by rw [r0.2.2.1]; decide)), hc]
      rw [dr_s r3.1, gd_t (isK_of r3.2.1), gd_t (inb_n (by rw [r3.2.2.1]; exact hi) (by rw [r3.2.2.1]; decide)), ix_d8 (by omega), ix_4]
      rw [dr_s r1.1, gd_t (isK_of r1.2.1), gd_t (inb_n (by rw [r1.2.2.1]; exact hq) (by rw [r1.2.2.1]; decide)), hc2]
      rfl
    · intro i hi2
      obtain ⟨q1, q2⟩ := N i hi2
      unfold va_up
      by_cases e : i = 32 * m + k
      · subst e
        rw [if_pos rfl]
        refine ⟨?_, fun v' hv => ?_⟩
        · rw [I_ne (Or.inl n01), I_ne (Or.inl n03), I_same]; rfl
        · cases hv
          rw [I_ne (Or.inl n13.symm), I_same]
      · rw [if_neg e]
        refine ⟨?_, fun v' hv => ?_⟩
        · rw [I_ne (Or.inl n01), I_ne (Or.inl n03), I_ne (Or.inr e)]; exact q1
        · rw [I_ne (Or.inl n13.symm), I_ne (Or.inr e), I_ne (Or.inl n03.symm)]; exact q2 v' hv
    · intro i hi2
      have q1 := T i hi2
      unfold va_up
      by_cases e : i = 4 * m + k / 8
      · subst e
        rw [if_pos rfl, I_same]; rfl
      · rw [if_neg e, I_ne (Or.inr e), I_ne (Or.inl n13), I_ne (Or.inl n01.symm)]; exact q1
  unfold f_M_put
  rw [cl_s (in_ok (n := 4) hm (by decide) h), if_neg (by decide), cl_s (in_ok (n := 32) hk (by decide) h), if_neg (by decide), gd_t (isK_of M.1), dr_s r0.1, gd_t (isK_of r0.2.1), ix_32, gd_t (inb_n (by rw [r0.2.2.1]; exact hi) (by rw [r0.2.2.1]; decide)), hc, (N _ hi).1]
  cases hs : (now (32 * m + k)).isSome with
  | false => rw [if_pos (by decide)]; exact tail _
  | true => rw [if_neg (by decide)]; exact tail _

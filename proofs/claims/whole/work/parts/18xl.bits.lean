/-! counting bits by bytes -/
theorem and256 (a b c d : Nat) (hb : b < 256) (hd : d < 256) : (256 * a + b) &&& (256 * c + d) = 256 * (a &&& c) + (b &&& d) := by
  have h1 : ((256 * a + b) &&& (256 * c + d)) / 2 ^ 8 = a &&& c := by
    rw [Nat.and_div_two_pow, show (256 * a + b) / 2 ^ 8 = a by omega, show (256 * c + d) / 2 ^ 8 = c by omega]
  have h2 : ((256 * a + b) &&& (256 * c + d)) % 2 ^ 8 = b &&& d := by
    rw [Nat.and_mod_two_pow, show (256 * a + b) % 2 ^ 8 = b by omega, show (256 * c + d) % 2 ^ 8 = d by omega]
  omega
def bU (b : Nat) : Nat := (b / 2) &&& 85
def bC (b : Nat) : Nat := b - bU b
def bD (b : Nat) : Nat := (bC b &&& 51) + ((bC b / 4) &&& 51)
def bP (b : Nat) : Nat := cn (fun j => b.testBit j) 8
theorem bU1 : ∀ b, b < 256 → ∀ e, e < 2 → (128 * e + b / 2) &&& 85 = bU b := by decide +kernel
theorem bU2 : ∀ b, b < 256 → bU b ≤ b := by decide +kernel
theorem bC1 : ∀ b, b < 256 → ∀ e, e < 4 → (64 * e + bC b / 4) &&& 51 = (bC b / 4) &&& 51 := by decide +kernel
theorem bC2 : ∀ b, b < 256 → (bC b &&& 51) ≤ 51 ∧ ((bC b / 4) &&& 51) ≤ 51 := by decide +kernel
theorem bD1 : ∀ b, b < 256 → bD b % 16 ≤ 4 ∧ bD b / 16 ≤ 4 := by decide +kernel
theorem bD2 : ∀ b, b < 256 → ∀ e, e < 5 → (bD b + (16 * e + bD b / 16)) &&& 15 = bP b := by decide +kernel
theorem bP1 : ∀ b, b < 256 → bP b ≤ 8 := by decide +kernel
def pcN (n : Nat) : Nat :=
  let n1 := n - ((n / 2) &&& 1431655765)
  let n3 := (n1 &&& 858993459) + ((n1 / 4) &&& 858993459)
  let n5 := (n3 + n3 / 16) &&& 252645135
  let n6 := n5 + n5 / 256
  (n6 + n6 / 65536) &&& 63
theorem b4a (a b c d e f g h : Nat) (h0 : a < 256) (h1 : b < 256) (h2 : c < 256) (k0 : e < 256) (k1 : f < 256) (k2 : g < 256) : (a + 256 * (b + 256 * (c + 256 * d))) &&& (e + 256 * (f + 256 * (g + 256 * h))) = (a &&& e) + 256 * ((b &&& f) + 256 * ((c &&& g) + 256 * (d &&& h))) := by
  rw [Nat.add_comm a, Nat.add_comm e, and256 _ _ _ _ h0 k0, Nat.add_comm b, Nat.add_comm f, and256 _ _ _ _ h1 k1, Nat.add_comm c, Nat.add_comm g, and256 _ _ _ _ h2 k2]
  omega
theorem pcN_eq (a b c d : Nat) (h0 : a < 256) (h1 : b < 256) (h2 : c < 256) (h3 : d < 256) : (a + 256 * (b + 256 * (c + 256 * d))) < 2 ^ 32 ∧ ((a + 256 * (b + 256 * (c + 256 * d))) / 2 &&& 1431655765) ≤ a + 256 * (b + 256 * (c + 256 * d)) ∧ (a + 256 * (b + 256 * (c + 256 * d))) - ((a + 256 * (b + 256 * (c + 256 * d))) / 2 &&& 1431655765) = bC a + 256 * (bC b + 256 * (bC c + 256 * bC d)) := by
  have u : (a + 256 * (b + 256 * (c + 256 * d))) / 2 &&& 1431655765 = bU a + 256 * (bU b + 256 * (bU c + 256 * bU d)) := by
    rw [show (a + 256 * (b + 256 * (c + 256 * d))) / 2 = (128 * (b % 2) + a / 2) + 256 * ((128 * (c % 2) + b / 2) + 256 * ((128 * (d % 2) + c / 2) + 256 * (d / 2))) by omega, show (1431655765 : Nat) = 85 + 256 * (85 + 256 * (85 + 256 * 85)) from rfl, b4a _ _ _ _ _ _ _ _ (by omega) (by omega) (by omega) (by omega) (by omega) (by omega), bU1 a h0 _ (by omega), bU1 b h1 _ (by omega), bU1 c h2 _ (by omega)]
    rfl
  have l0 := bU2 a h0
  have l1 := bU2 b h1
  have l2 := bU2 c h2
  have l3 := bU2 d h3
  rw [u]
  unfold bC
  omega
theorem pcN_eq2 (a b c d : Nat) (h0 : a < 256) (h1 : b < 256) (h2 : c < 256) (h3 : d < 256) : ((bC a + 256 * (bC b + 256 * (bC c + 256 * bC d))) &&& 858993459) + ((bC a + 256 * (bC b + 256 * (bC c + 256 * bC d))) / 4 &&& 858993459) = bD a + 256 * (bD b + 256 * (bD c + 256 * bD d)) ∧ bD a + 256 * (bD b + 256 * (bD c + 256 * bD d)) < 2 ^ 31 := by
  have c0 : bC a < 256 := by unfold bC; omega
  have c1 : bC b < 256 := by unfold bC; omega
  have c2 : bC c < 256 := by unfold bC; omega
  have c3 : bC d < 256 := by unfold bC; omega
  have e1 : (bC a + 256 * (bC b + 256 * (bC c + 256 * bC d))) &&& 858993459 = (bC a &&& 51) + 256 * ((bC b &&& 51) + 256 * ((bC c &&& 51) + 256 * (bC d &&& 51))) := by
    rw [show (858993459 : Nat) = 51 + 256 * (51 + 256 * (51 + 256 * 51)) from rfl, b4a _ _ _ _ _ _ _ _ c0 c1 c2 (by omega) (by omega) (by omega)]
  have e2 : (bC a + 256 * (bC b + 256 * (bC c + 256 * bC d))) / 4 &&& 858993459 = (bC a / 4 &&& 51) + 256 * ((bC b / 4 &&& 51) + 256 * ((bC c / 4 &&& 51) + 256 * (bC d / 4 &&& 51))) := by
    rw [show (bC a + 256 * (bC b + 256 * (bC c + 256 * bC d))) / 4 = (64 * (bC b % 4) + bC a / 4) + 256 * ((64 * (bC c % 4) + bC b / 4) + 256 * ((64 * (bC d % 4) + bC c / 4) + 256 * (bC d / 4))) by omega, show (858993459 : Nat) = 51 + 256 * (51 + 256 * (51 + 256 * 51)) from rfl, b4a _ _ _ _ _ _ _ _ (by omega) (by omega) (by omega) (by omega) (by omega) (by omega), bC1 a h0 _ (by omega), bC1 b h1 _ (by omega), bC1 c h2 _ (by omega)]
  rw [e1, e2]
  have l0 := bC2 a h0
  have l1 := bC2 b h1
  have l2 := bC2 c h2
  have l3 := bC2 d h3
  unfold bD
  omega
theorem pcN_eq3 (a b c d : Nat) (h0 : a < 256) (h1 : b < 256) (h2 : c < 256) (h3 : d < 256) : ((bD a + 256 * (bD b + 256 * (bD c + 256 * bD d))) + (bD a + 256 * (bD b + 256 * (bD c + 256 * bD d))) / 16) &&& 252645135 = bP a + 256 * (bP b + 256 * (bP c + 256 * bP d)) := by
  have l0 := bD1 a h0
  have l1 := bD1 b h1
  have l2 := bD1 c h2
  have l3 := bD1 d h3
  rw [show (bD a + 256 * (bD b + 256 * (bD c + 256 * bD d))) + (bD a + 256 * (bD b + 256 * (bD c + 256 * bD d))) / 16 = (bD a + (16 * (bD b % 16) + bD a / 16)) + 256 * ((bD b + (16 * (bD c % 16) + bD b / 16)) + 256 * ((bD c + (16 * (bD d % 16) + bD c / 16)) + 256 * (bD d + (16 * 0 + bD d / 16)))) by omega, show (252645135 : Nat) = 15 + 256 * (15 + 256 * (15 + 256 * 15)) from rfl, b4a _ _ _ _ _ _ _ _ (by omega) (by omega) (by omega) (by omega) (by omega) (by omega), bD2 a h0 _ (by omega), bD2 b h1 _ (by omega), bD2 c h2 _ (by omega), bD2 d h3 _ (by omega)]
theorem i_and (x y : Int32) : (x &&& y).toBitVec.toNat = x.toBitVec.toNat &&& y.toBitVec.toNat := by rw [Int32.toBitVec_and, BitVec.toNat_and]
theorem i_add {x y : Int32} (h : x.toBitVec.toNat + y.toBitVec.toNat < 2 ^ 32) : (x + y).toBitVec.toNat = x.toBitVec.toNat + y.toBitVec.toNat := by rw [Int32.toBitVec_add, BitVec.toNat_add, Nat.mod_eq_of_lt h]
theorem i_sub {x y : Int32} (h : y.toBitVec.toNat ≤ x.toBitVec.toNat) : (x - y).toBitVec.toNat = x.toBitVec.toNat - y.toBitVec.toNat := by
  rw [Int32.toBitVec_sub, BitVec.toNat_sub]
  have := x.toBitVec.isLt
  have := y.toBitVec.isLt
  omega
theorem i_shr (k : Nat) (hk : k < 32) (x : Int32) : (ushr x (nI k)).toBitVec.toNat = x.toBitVec.toNat / 2 ^ k := by
  have e : ∀ n, n < 32 → (((nI n).toUInt32 &&& Int32.toUInt32 31).toBitVec % 32).toNat = n := s_u
  unfold ushr
  show ((x.toUInt32 >>> ((nI k).toUInt32 &&& Int32.toUInt32 31)).toBitVec).toNat = _
  rw [UInt32.toBitVec_shiftRight, BitVec.ushiftRight_eq', BitVec.toNat_ushiftRight, e k hk, Nat.shiftRight_eq_div_pow]
  rfl
theorem bitCount_eq (x : Int32) (h : Hp) : f_In_bitCount x h = some (nI (cn (bt x) 32), h) := by
  obtain ⟨n, hn⟩ : ∃ n, n = x.toBitVec.toNat := ⟨_, rfl⟩
  have nl : n < 2 ^ 32 := by rw [hn]; exact x.toBitVec.isLt
  obtain ⟨a, b, c, d, h0, h1, h2, h3, en⟩ : ∃ a b c d, a < 256 ∧ b < 256 ∧ c < 256 ∧ d < 256 ∧ n = a + 256 * (b + 256 * (c + 256 * d)) := ⟨n % 256, n / 256 % 256, n / 65536 % 256, n / 16777216, by omega, by omega, by omega, by omega, by omega⟩
  obtain ⟨-, p2, p3⟩ := pcN_eq a b c d h0 h1 h2 h3
  obtain ⟨q1, q2⟩ := pcN_eq2 a b c d h0 h1 h2 h3
  have r1 := pcN_eq3 a b c d h0 h1 h2 h3
  rw [← en] at p2 p3
  have k1 : (nI 1431655765).toBitVec.toNat = 1431655765 := by decide
  have k2 : (nI 858993459).toBitVec.toNat = 858993459 := by decide
  have k3 : (nI 252645135).toBitVec.toNat = 252645135 := by decide
  have k4 : (nI 63).toBitVec.toNat = 63 := by decide
  unfold f_In_bitCount
  rw [nm_v, nm_v, nm_v]
  congr 2
  have s1 : (x - (ushr x (1 : Int32) &&& nI 1431655765)).toBitVec.toNat = bC a + 256 * (bC b + 256 * (bC c + 256 * bC d)) := by
    have e : (ushr x (1 : Int32) &&& nI 1431655765).toBitVec.toNat = n / 2 &&& 1431655765 := by
      rw [i_and, k1, show (1 : Int32) = nI 1 from rfl, i_shr 1 (by decide), ← hn]
    rw [i_sub (by rw [e, ← hn]; exact p2), e, ← hn]; exact p3
  obtain ⟨x1, hx1⟩ : ∃ x1, x1 = x - (ushr x (1 : Int32) &&& nI 1431655765) := ⟨_, rfl⟩
  rw [← hx1] at s1 ⊢
  have s2 : ((x1 &&& nI 858993459) + (ushr x1 (nI 2) &&& nI 858993459)).toBitVec.toNat = bD a + 256 * (bD b + 256 * (bD c + 256 * bD d)) := by
    have e1 : (x1 &&& nI 858993459).toBitVec.toNat = (bC a + 256 * (bC b + 256 * (bC c + 256 * bC d))) &&& 858993459 := by rw [i_and, k2, s1]
    have e2 : (ushr x1 (nI 2) &&& nI 858993459).toBitVec.toNat = (bC a + 256 * (bC b + 256 * (bC c + 256 * bC d))) / 4 &&& 858993459 := by
      rw [i_and, k2, i_shr 2 (by decide), s1]
    rw [i_add (by rw [e1, e2]; omega), e1, e2]; exact q1
  obtain ⟨x2, hx2⟩ : ∃ x2, x2 = (x1 &&& nI 858993459) + (ushr x1 (nI 2) &&& nI 858993459) := ⟨_, rfl⟩
  rw [← hx2] at s2 ⊢
  have s3 : ((x2 + ushr x2 (nI 4)) &&& nI 252645135).toBitVec.toNat = bP a + 256 * (bP b + 256 * (bP c + 256 * bP d)) := by
    have e1 : (ushr x2 (nI 4)).toBitVec.toNat = (bD a + 256 * (bD b + 256 * (bD c + 256 * bD d))) / 16 := by rw [i_shr 4 (by decide), s2]
    rw [i_and, k3, i_add (by rw [e1, s2]; omega), e1, s2]; exact r1
  obtain ⟨x3, hx3⟩ : ∃ x3, x3 = (x2 + ushr x2 (nI 4)) &&& nI 252645135 := ⟨_, rfl⟩
  rw [← hx3] at s3 ⊢
  have l0 := bP1 a h0
  have l1 := bP1 b h1
  have l2 := bP1 c h2
  have l3 := bP1 d h3
  have s4 : (x3 + ushr x3 (nI 8)).toBitVec.toNat = (bP a + bP b) + 256 * ((bP b + bP c) + 256 * ((bP c + bP d) + 256 * bP d)) := by
    have e1 : (ushr x3 (nI 8)).toBitVec.toNat = bP b + 256 * (bP c + 256 * bP d) := by rw [i_shr 8 (by decide), s3]; omega
    rw [i_add (by rw [e1, s3]; omega), e1, s3]; omega
  obtain ⟨x4, hx4⟩ : ∃ x4, x4 = x3 + ushr x3 (nI 8) := ⟨_, rfl⟩
  rw [← hx4] at s4 ⊢
  have s5 : ((x4 + ushr x4 (nI 16)) &&& nI 63).toBitVec.toNat = bP a + bP b + bP c + bP d := by
    have e1 : (ushr x4 (nI 16)).toBitVec.toNat = (bP c + bP d) + 256 * bP d := by rw [i_shr 16 (by decide), s4]; omega
    rw [i_and, k4, i_add (by rw [e1, s4]; omega), e1, s4, show (63 : Nat) = 2 ^ 6 - 1 from rfl, Nat.and_two_pow_sub_one_eq_mod]
    omega
  have cnt : cn (bt x) 32 = bP a + bP b + bP c + bP d := by
    have tb : ∀ i, bt x i = n.testBit i := fun i => by rw [hn]; rfl
    have by8 : ∀ (k y : Nat), n / 2 ^ k % 2 ^ 8 = y → cn (fun i => bt x (k + i)) 8 = bP y := fun k y hy => by
      unfold bP
      refine cn_ext fun i hi => ?_
      rw [tb, ← hy, Nat.testBit_mod_two_pow, decide_eq_true hi, Bool.true_and, Nat.testBit_div_two_pow, Nat.add_comm]
    have t0 := by8 0 a (by omega)
    have t1 := by8 8 b (by omega)
    have t2 := by8 16 c (by omega)
    have t3 := by8 24 d (by omega)
    rw [show (32 : Nat) = 24 + 8 from rfl, cn_add, t3, show (24 : Nat) = 16 + 8 from rfl, cn_add, t2, show (16 : Nat) = 8 + 8 from rfl, cn_add, t1]
    have : cn (bt x) 8 = bP a := by
      rw [← t0]
      refine cn_ext fun i _ => ?_
      rw [Nat.zero_add]
    rw [this]
  refine Int32.toBitVec_inj.mp (BitVec.eq_of_toNat_eq ?_)
  rw [s5, cnt]
  have : bP a + bP b + bP c + bP d < 33 := by omega
  have e : ∀ m, m < 33 → m = (nI m).toBitVec.toNat := by decide +kernel
  exact e _ this

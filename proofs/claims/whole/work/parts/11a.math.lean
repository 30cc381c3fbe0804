section MathR
variable {l : Launch} {C : Ct} {mi : Nat} {M : Mi} {d pc : Nat} {ls : List (Nat × Tv)} {st : List Tv} {h h' : Hp} {r : Option Tv}
theorem mm_w1 : Cond.static Lib.Math.max.name ∈ lw_w := by decide +kernel
theorem mm_w2 : Cond.code Lib.Math.max.name Lib.Math.max.code 2 (some .int) ∈ lw_w := by decide +kernel
theorem mm_w3 : Cond.static Lib.Math.min.name ∈ lw_w := by decide +kernel
theorem mm_w4 : Cond.code Lib.Math.min.name Lib.Math.min.code 2 (some .int) ∈ lw_w := by decide +kernel
theorem mm_w5 : Cond.initialized "java/lang/Math" ∈ lw_w := by decide +kernel
theorem z_mmax {x y : Int32} {idx : Nat} (hd : decode M.2.1 pc = .ok (.invokestatic idx, 3)) (hl : Cond.methodLink M.1.cls idx Lib.Math.max.name ∈ lw_w) (hd1 : 1 ≤ d) (hst : (st.map fun t => bif cat2 t then 2 else 1).sum ≤ 8) (k : Z l C mi M d (pc + 3) ls (vi (if x < y then y else x) :: st) h r h') : Z l C mi M d pc ls (vi y :: vi x :: st) h r h' :=
  ⟨k.1, k.2.1, fun p e R s m args below meth c H locs lv Q n0 s0 X P S z1 z2 L a1 a2 a3 a4 hend => by
    have b1 := k.1
    have b2 := k.2.1
    have K := X.2.2.2.2.1.1
    have hfr := X.2.2.2.2.2.1
    have hlo := X.2.2.2.2.2.2.1
    exact va_mmax X.1 X.2.1 (by rw [X.2.2.1]; exact L.1.symm) X.2.2.2.1 (K.use _ hl) (K.use _ mm_w1) (K.use _ mm_w5) (K.use _ mm_w2) (by omega) (by rw [st_cat]; omega) (by omega) (by omega) hd (k.2.2 p e R s m args below meth c H locs lv Q n0 s0 X P S z1 z2 L a1 a2 a3 a4 hend)⟩
theorem z_mmin {x y : Int32} {idx : Nat} (hd : decode M.2.1 pc = .ok (.invokestatic idx, 3)) (hl : Cond.methodLink M.1.cls idx Lib.Math.min.name ∈ lw_w) (hd1 : 1 ≤ d) (hst : (st.map fun t => bif cat2 t then 2 else 1).sum ≤ 8) (k : Z l C mi M d (pc + 3) ls (vi (if y < x then y else x) :: st) h r h') : Z l C mi M d pc ls (vi y :: vi x :: st) h r h' :=
  ⟨k.1, k.2.1, fun p e R s m args below meth c H locs lv Q n0 s0 X P S z1 z2 L a1 a2 a3 a4 hend => by
    have b1 := k.1
    have b2 := k.2.1
    have K := X.2.2.2.2.1.1
    have hfr := X.2.2.2.2.2.1
    have hlo := X.2.2.2.2.2.2.1
    exact va_mmin X.1 X.2.1 (by rw [X.2.2.1]; exact L.1.symm) X.2.2.2.1 (K.use _ hl) (K.use _ mm_w3) (K.use _ mm_w5) (K.use _ mm_w4) (by omega) (by rw [st_cat]; omega) (by omega) (by omega) hd (k.2.2 p e R s m args below meth c H locs lv Q n0 s0 X P S z1 z2 L a1 a2 a3 a4 hend)⟩
theorem z_ldcw {i : Nat} {v : Int32} (hd : decode M.2.1 pc = .ok (.ldc_w i, 3)) (hw : Cond.constant M.1.cls i v ∈ lw_w) (k : Z l C mi M d (pc + 3) ls (vi v :: st) h r h') : Z l C mi M d pc ls st h r h' :=
  z_of k fun p e R s m args below meth c H locs cells slots lv Q X P S L kk => lv_ldcw X.1 X.2.1 X.2.2.2.1 (X.2.2.2.2.1.1.use _ hw) hd (kk lv L)
end MathR

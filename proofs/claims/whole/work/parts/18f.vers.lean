/-! VERSIONS: (number, pins, key of the meta) -/
abbrev Vt : Type := Nat × Nat × Nat
def VO (h : Hp) (a : Nat) (t : Vt) (pk : Nat → Option Nat) : Prop := hpT h a = 7 ∧ a < hpN h ∧ hpI h a 0 = nI t.1 ∧ hpR h a 1 = pk t.2.2 ∧ hpI h a 2 = nI t.2.1
def XV (e0 : Nat) (h : Hp) (vs ev : Nat) (va : List Nat) (vers : List Vt) (pk : Nat → Option Nat) : Prop := AL e0 h vs ev va ∧ va.length = vers.length ∧ ∀ (i a : Nat) (t : Vt), va[i]? = some a → vers[i]? = some t → VO h a t pk
def MV (h : Hp) (y : Nat) (A : Nat → Nat) (vers : List Vt) : Prop := hpI h y 30 = nI vers.length ∧ vers.length ≤ 48 ∧ ∀ (i : Nat) (t : Vt), vers[i]? = some t → hpI h (A 27) i = nI t.1 ∧ hpI h (A 28) i = nI t.2.1 ∧ hpI h (A 29) i = nI t.2.2
/-- which one has this number -/
def FV (vers : List Vt) (v : Int32) (o : Option Nat) : Prop := (o = none ∧ ∀ (i : Nat) (t : Vt), vers[i]? = some t → nI t.1 ≠ v) ∨ ∃ (i : Nat) (t : Vt), o = some i ∧ vers[i]? = some t ∧ nI t.1 = v ∧ ∀ (j : Nat) (t' : Vt), j < i → vers[j]? = some t' → nI t'.1 ≠ v
theorem FV.uniq {vers : List Vt} {v : Int32} {o o' : Option Nat} (a : FV vers v o) (b : FV vers v o') : o = o' := by
  rcases a with ⟨a1, a2⟩ | ⟨i, t, a1, a2, a3, a4⟩ <;> rcases b with ⟨b1, b2⟩ | ⟨j, u, b1, b2, b3, b4⟩
  · rw [a1, b1]
  · exact absurd b3 (a2 j u b2)
  · exact absurd a3 (b2 i t a2)
  · rcases Nat.lt_trichotomy i j with q | q | q
    · exact absurd a3 (b4 i t q a2)
    · rw [a1, b1, q]
    · exact absurd b3 (a4 j u q b2)
theorem caB_s {h : Hp} {a κ : Nat} (e : hpT h a = κ) : caB h (some a) κ = true := by
  show (hpT h a == κ) = true
  rw [e]; exact beq_self_eq_true κ
theorem x_find {e0 : Nat} {h : Hp} {x p F cs vs ev : Nat} {va : List Nat} {vers : List Vt} {pk : Nat → Option Nat} {v : Int32} (X : XO h x p F cs vs) (V : XV e0 h vs ev va vers pk) :
    ∃ o, FV vers v o ∧ f_X_findVersion x v h = some (o.bind (fun i => va[i]?), h) := by
  obtain ⟨L, hlen, hV⟩ := V
  have h60 := L.2.2.2.2.2.1
  have key : ∃ r, l_X_findVersion_2 x v ((0 : Int32), h) = some r ∧ ((r = .inl h ∧ FV vers v none) ∨ ∃ i a, r = .inr (some a, h) ∧ va[i]? = some a ∧ FV vers v (some i)) := by
    unfold l_X_findVersion_2
    refine lp_up (fun j s => s = (nI j, h) ∧ ∀ (i : Nat) (t : Vt), i < j → vers[i]? = some t → nI t.1 ≠ v) _ va.length (by omega) ⟨rfl, fun i t hi => absurd hi (Nat.not_lt_zero _)⟩ (fun j s hj hs => ?_) (fun s hs => ?_)
    · obtain ⟨rfl, hs⟩ := hs
      obtain ⟨a, ha⟩ : ∃ a, va[j]? = some a := ⟨_, List.getElem?_eq_getElem hj⟩
      obtain ⟨t, ht⟩ : ∃ t, vers[j]? = some t := ⟨_, List.getElem?_eq_getElem (by omega)⟩
      have O := hV j a t ha ht
      have eb : b_X_findVersion_2 x v (nI j) h = if nI t.1 = v then some (.inr (.inr (some a, h))) else some (.inl (nI (j + 1), h)) := by
        unfold b_X_findVersion_2
        rw [gd_t (isK_of X.1), dr_s X.2.2.2.2.2, gd_t (isK_of L.1), cl_s (al_size L), if_neg (nI_ge hj (by omega)), gd_t (isK_of X.1), dr_s X.2.2.2.2.2, gd_t (isK_of L.1), cl_s (al_get L hj), ha, gd_t (caB_s O.1), dr_s rfl, gd_t (isK_of O.1), O.2.2.1, gd_t (isK_of X.1), dr_s X.2.2.2.2.2, gd_t (isK_of L.1), cl_s (al_get L hj), ha, gd_t (caB_s O.1), nI_1]
      show (∃ s', b_X_findVersion_2 x v (nI j) h = some (.inl s') ∧ _) ∨ ∃ r, b_X_findVersion_2 x v (nI j) h = some (.inr r) ∧ _
      rw [eb]
      by_cases c : nI t.1 = v
      · rw [if_pos c]
        exact Or.inr ⟨_, rfl, Or.inr ⟨j, a, rfl, ha, Or.inr ⟨j, t, rfl, ht, c, hs⟩⟩⟩
      · rw [if_neg c]
        refine Or.inl ⟨_, rfl, rfl, fun i t' hi hit => ?_⟩
        by_cases e : i = j
        · subst e
          cases ht.symm.trans hit
          exact c
        · exact hs i t' (by omega) hit
    · obtain ⟨rfl, hs⟩ := hs
      refine ⟨.inl h, ?_, Or.inl ⟨rfl, Or.inl ⟨rfl, fun i t hit => hs i t ?_ hit⟩⟩⟩
      · show b_X_findVersion_2 x v (nI va.length) h = _
        unfold b_X_findVersion_2
        rw [gd_t (isK_of X.1), dr_s X.2.2.2.2.2, gd_t (isK_of L.1), cl_s (al_size L), if_pos (nI_le (Nat.le_refl _) (by omega))]
      · have := (List.getElem?_eq_some_iff.mp hit).1
        omega
  obtain ⟨r, e, q⟩ := key
  rcases q with ⟨rfl, q⟩ | ⟨i, a, rfl, ha, q⟩
  · refine ⟨none, q, ?_⟩
    unfold f_X_findVersion
    rw [lk_l e]; rfl
  · refine ⟨some i, q, ?_⟩
    unfold f_X_findVersion
    rw [lk_r e]
    show _ = some (va[i]?, h)
    rw [ha]
def fi (o : Option Nat) : Int32 := match o with
  | none => -1
  | some i => nI i
theorem m_find {h : Hp} {y : Nat} {A : Nat → Nat} {vers : List Vt} {v : Int32} (M : MOK h y A) (V : MV h y A vers) : ∃ o, FV vers v o ∧ f_M_find y v h = some (fi o, h) := by
  obtain ⟨V1, V2, V3⟩ := V
  have r27 := M.a27
  have key : ∃ r, l_M_find_2 y v ((0 : Int32), h) = some r ∧ ((r = .inl h ∧ FV vers v none) ∨ ∃ i, r = .inr (nI i, h) ∧ FV vers v (some i)) := by
    unfold l_M_find_2
    refine lp_up (fun j s => s = (nI j, h) ∧ ∀ (i : Nat) (t : Vt), i < j → vers[i]? = some t → nI t.1 ≠ v) _ vers.length (by omega) ⟨rfl, fun i t hi => absurd hi (Nat.not_lt_zero _)⟩ (fun j s hj hs => ?_) (fun s hs => ?_)
    · obtain ⟨rfl, hs⟩ := hs
      obtain ⟨t, ht⟩ : ∃ t, vers[j]? = some t := ⟨_, List.getElem?_eq_getElem hj⟩
      have eb : b_M_find_2 y v (nI j) h = if nI t.1 = v then some (.inr (.inr (nI j, h))) else some (.inl (nI (j + 1), h)) := by
        unfold b_M_find_2
        rw [gd_t (isK_of M.1), V1, if_neg (nI_ge hj (by omega)), dr_s r27.1, gd_t (isK_of r27.2.1), gd_t (inb_n (by rw [r27.2.2.1]; omega) (by rw [r27.2.2.1]; decide)), nI_clamp (by omega), (V3 j t ht).1, nI_1]
      show (∃ s', b_M_find_2 y v (nI j) h = some (.inl s') ∧ _) ∨ ∃ r, b_M_find_2 y v (nI j) h = some (.inr r) ∧ _
      rw [eb]
      by_cases c : nI t.1 = v
      · rw [if_pos c]
        exact Or.inr ⟨_, rfl, Or.inr ⟨j, rfl, Or.inr ⟨j, t, rfl, ht, c, hs⟩⟩⟩
      · rw [if_neg c]
        refine Or.inl ⟨_, rfl, rfl, fun i t' hi hit => ?_⟩
        by_cases e : i = j
        · subst e
          cases ht.symm.trans hit
          exact c
        · exact hs i t' (by omega) hit
    · obtain ⟨rfl, hs⟩ := hs
      refine ⟨.inl h, ?_, Or.inl ⟨rfl, Or.inl ⟨rfl, fun i t hit => hs i t ?_ hit⟩⟩⟩
      · show b_M_find_2 y v (nI vers.length) h = _
        unfold b_M_find_2
        rw [gd_t (isK_of M.1), V1, if_pos (nI_le (Nat.le_refl _) (by omega))]
      · exact (List.getElem?_eq_some_iff.mp hit).1
  obtain ⟨r, e, q⟩ := key
  rcases q with ⟨rfl, q⟩ | ⟨i, rfl, q⟩
  · refine ⟨none, q, ?_⟩
    unfold f_M_find
    rw [lk_l e]; rfl
  · refine ⟨some i, q, ?_⟩
    unfold f_M_find
    rw [lk_r e]; rfl
theorem FV.at {vers : List Vt} {v : Int32} {i : Nat} (a : FV vers v (some i)) : ∃ t, vers[i]? = some t ∧ nI t.1 = v := by
  rcases a with ⟨a1, -⟩ | ⟨j, t, a1, a2, a3, -⟩
  · cases a1
  · cases a1; exact ⟨t, a2, a3⟩
/-- the k-th kept version -/
def kv (vers : List Vt) (k : Int32) : Int32 := if k < 0 then -1 else match vers[k.toNatClampNeg]? with
  | none => -1
  | some t => nI t.1
theorem x_kept {e0 : Nat} {h : Hp} {x p F cs vs ev : Nat} {va : List Nat} {vers : List Vt} {pk : Nat → Option Nat} {k : Int32} (X : XO h x p F cs vs) (V : XV e0 h vs ev va vers pk) : f_X_kept x k h = some (kv vers k, h) := by
  obtain ⟨L, hlen, hV⟩ := V
  have h60 := L.2.2.2.2.2.1
  unfold f_X_kept kv
  rcases pk_ix k (n := va.length) (by omega) with q | q | ⟨j, hj, rfl⟩
  · rw [if_pos q, if_pos q]
  · have hn : ¬ k < 0 := fun z => by
      have := Int32.lt_of_le_of_lt q z
      exact absurd this (nI_pos (by omega))
    rw [if_neg hn, if_neg hn, gd_t (isK_of X.1), dr_s X.2.2.2.2.2, gd_t (isK_of L.1), cl_s (al_size L), if_neg (Int32.not_lt.mpr q)]
    obtain ⟨i, hi, rfl⟩ := nI_of hn
    rw [nI_clamp hi, List.getElem?_eq_none (by rw [← hlen]; exact (nI_leI (by omega) hi).mp q)]
  · obtain ⟨a, ha⟩ : ∃ a, va[j]? = some a := ⟨_, List.getElem?_eq_getElem hj⟩
    obtain ⟨t, ht⟩ : ∃ t, vers[j]? = some t := ⟨_, List.getElem?_eq_getElem (by omega)⟩
    have O := hV j a t ha ht
    rw [if_neg (nI_pos (by omega)), if_neg (nI_pos (by omega)), gd_t (isK_of X.1), dr_s X.2.2.2.2.2, gd_t (isK_of L.1), cl_s (al_size L), if_pos (nI_lt hj (by omega)), gd_t (isK_of X.1), dr_s X.2.2.2.2.2, gd_t (isK_of L.1), cl_s (al_get L hj), ha, gd_t (caB_s O.1), dr_s rfl, gd_t (isK_of O.1), O.2.2.1, nI_clamp (by omega), ht]
theorem m_kept {h : Hp} {y : Nat} {A : Nat → Nat} {vers : List Vt} {k : Int32} (M : MOK h y A) (V : MV h y A vers) : f_M_kept y k h = some (kv vers k, h) := by
  obtain ⟨V1, V2, V3⟩ := V
  have r27 := M.a27
  unfold f_M_kept kv
  rw [gd_t (isK_of M.1), V1]
  rcases pk_ix k (n := vers.length) (by omega) with q | q | ⟨j, hj, rfl⟩
  · rw [cl_s (in_out (Or.inl q) h), if_pos rfl, if_pos q]
  · have hn : ¬ k < 0 := fun z => by
      have := Int32.lt_of_le_of_lt q z
      exact absurd this (nI_pos (by omega))
    rw [cl_s (in_out (Or.inr q) h), if_pos rfl, if_neg hn]
    obtain ⟨i, hi, rfl⟩ := nI_of hn
    rw [nI_clamp hi, List.getElem?_eq_none ((nI_leI (by omega) hi).mp q)]
  · obtain ⟨t, ht⟩ : ∃ t, vers[j]? = some t := ⟨_, List.getElem?_eq_getElem hj⟩
    rw [cl_s (in_ok hj (by omega) h), if_neg (by decide), if_neg (nI_pos (by omega)), gd_t (isK_of M.1), dr_s r27.1, gd_t (isK_of r27.2.1), gd_t (inb_n (by rw [r27.2.2.1]; omega) (by rw [r27.2.2.1]; decide)), nI_clamp (by omega), (V3 j t ht).1, ht]

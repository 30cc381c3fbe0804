/-! the pages of a commit may be written -/
def GdL (st : Nat → Pg) (vers : List Vt) (id : Nat) (L : List Pg) : Prop := ∀ (i : Nat) (pg : Pg), L[i]? = some pg → (pg.1 = 0 ∧ pg.2.2.2.1 < 4 ∧ pg.2.2.2.2 < 4) ∨ (pg.1 = 1 ∧ pg.2.2.2.1 < 4 ∧ pg.2.2.2.2 = 0 ∧ ∀ j, j < 4 → pg.2.1 j = 0 ∨ (pg.2.1 j / 32 < id ∧ lvb st vers (pg.2.1 j) = true ∧ kd st (pg.2.1 j) = 0 ∧ pmp st (pg.2.1 j) = pg.2.2.2.1 ∧ pwh st (pg.2.1 j) = j) ∨ (pg.2.1 j / 32 = id ∧ ∃ q, L[pg.2.1 j % 32]? = some q ∧ q.1 = 0 ∧ q.2.2.2.1 = pg.2.2.2.1 ∧ q.2.2.2.2 = j))
theorem pre_at {L R : List Pg} {i : Nat} {q : Pg} (h : L[i]? = some q) : (L ++ R)[i]? = some q := by
  obtain ⟨hi, -⟩ := List.getElem?_eq_some_iff.mp h
  rw [List.getElem?_append_left hi]; exact h
theorem GdL.leaf {st : Nat → Pg} {vers : List Vt} {id : Nat} {L : List Pg} {a : Pg} (G : GdL st vers id L) (h : a.1 = 0 ∧ a.2.2.2.1 < 4 ∧ a.2.2.2.2 < 4) : GdL st vers id (L ++ [a]) := by
  intro i pg hi
  rcases appP_at hi with ⟨-, z⟩ | ⟨-, z⟩
  · rcases G i pg z with q | ⟨q1, q2, q3, q4⟩
    · exact Or.inl q
    · refine Or.inr ⟨q1, q2, q3, fun j hj => ?_⟩
      rcases q4 j hj with c | c | ⟨c1, x, c2, c3⟩
      · exact Or.inl c
      · exact Or.inr (Or.inl c)
      · exact Or.inr (Or.inr ⟨c1, x, pre_at c2, c3⟩)
  · rw [z]; exact Or.inl h
theorem GdL.root {st : Nat → Pg} {vers : List Vt} {id : Nat} {L : List Pg} {a : Pg} (G : GdL st vers id L) (h : a.1 = 1 ∧ a.2.2.2.1 < 4 ∧ a.2.2.2.2 = 0 ∧ ∀ j, j < 4 → a.2.1 j = 0 ∨ (a.2.1 j / 32 < id ∧ lvb st vers (a.2.1 j) = true ∧ kd st (a.2.1 j) = 0 ∧ pmp st (a.2.1 j) = a.2.2.2.1 ∧ pwh st (a.2.1 j) = j) ∨ (a.2.1 j / 32 = id ∧ ∃ q, L[a.2.1 j % 32]? = some q ∧ q.1 = 0 ∧ q.2.2.2.1 = a.2.2.2.1 ∧ q.2.2.2.2 = j)) : GdL st vers id (L ++ [a]) := by
  intro i pg hi
  rcases appP_at hi with ⟨-, z⟩ | ⟨-, z⟩
  · rcases G i pg z with q | ⟨q1, q2, q3, q4⟩
    · exact Or.inl q
    · refine Or.inr ⟨q1, q2, q3, fun j hj => ?_⟩
      rcases q4 j hj with c | c | ⟨c1, x, c2, c3⟩
      · exact Or.inl c
      · exact Or.inr (Or.inl c)
      · exact Or.inr (Or.inr ⟨c1, x, pre_at c2, c3⟩)
  · rw [z]
    refine Or.inr ⟨h.1, h.2.1, h.2.2.1, fun j hj => ?_⟩
    rcases h.2.2.2 j hj with c | c | ⟨c1, x, c2, c3⟩
    · exact Or.inl c
    · exact Or.inr (Or.inl c)
    · exact Or.inr (Or.inr ⟨c1, x, pre_at c2, c3⟩)
theorem wls_gd {now : Nat → Option Int32} {tl : Nat → Bool} {st : Nat → Pg} {vers : List Vt} {id m : Nat} {L : List Pg} (G : GdL st vers id L) (hm : m < 4) (n : Nat) (hn : n ≤ 4) : GdL st vers id (wls now tl m L n) := by
  induction n with
  | zero => exact G
  | succ n ih =>
    show GdL st vers id (wls now tl m L n ++ _)
    cases nl now tl m n with
    | false => show GdL st vers id (_ ++ []); rw [List.append_nil]; exact ih (by omega)
    | true => exact (ih (by omega)).leaf ⟨rfl, hm, by show n < 4; omega⟩
theorem wls_at {now : Nat → Option Int32} {tl : Nat → Bool} {m j : Nat} {L : List Pg} (hj : nl now tl m j = true) (n : Nat) (hn : j < n) : (wls now tl m L n)[(wls now tl m L j).length]? = some (lpg now m j) := by
  induction n with
  | zero => omega
  | succ n ih =>
    show (wls now tl m L n ++ _)[_]? = _
    by_cases e : j = n
    · subst e
      rw [hj, List.getElem?_append_right (Nat.le_refl _), Nat.sub_self]; rfl
    · exact pre_at (ih (by omega))
/-- all that the meta before leads to lives -/
def BmL (st : Nat → Pg) (np : Nat → Nat) (vers : List Vt) (id bm : Nat) : Prop := bm ≠ 0 → vk np id bm ∧ kd st bm = 2 ∧ ∀ k, rcb st bm k = true → lvb st vers k = true
theorem wmL_gd {now : Nat → Option Int32} {tl tm : Nat → Bool} {st : Nat → Pg} {fs np : Nat → Nat} {vers : List Vt} {bm id m : Nat} {L : List Pg} (G : GdL st vers id L) (S : SW st fs np id) (hb : BmL st np vers id bm) (hm : m < 4) (hl : (wls now tl m L 4).length ≤ 31) : GdL st vers id (wmL now tl tm st bm id m L) := by
  unfold wmL
  cases mc tl tm m && mh now m with
  | false => exact G
  | true =>
    refine (wls_gd G hm 4 (Nat.le_refl _)).root ⟨rfl, hm, rfl, fun j hj => ?_⟩
    show rld now tl st bm id m L j = 0 ∨ (rld now tl st bm id m L j / 32 < id ∧ lvb st vers (rld now tl st bm id m L j) = true ∧ kd st (rld now tl st bm id m L j) = 0 ∧ pmp st (rld now tl st bm id m L j) = m ∧ pwh st (rld now tl st bm id m L j) = j) ∨ (rld now tl st bm id m L j / 32 = id ∧ ∃ q, (wls now tl m L 4)[rld now tl st bm id m L j % 32]? = some q ∧ q.1 = 0 ∧ q.2.2.2.1 = m ∧ q.2.2.2.2 = j)
    have lj : (wls now tl m L j).length ≤ (wls now tl m L 4).length := wls_mono (by omega)
    cases c1 : tl (4 * m + j) with
    | true =>
      cases c2 : lh now m j with
      | true =>
        have e : rld now tl st bm id m L j = 32 * id + (wls now tl m L j).length := by unfold rld; rw [c1, c2]; rfl
        rw [e, show (32 * id + (wls now tl m L j).length) / 32 = id by omega, show (32 * id + (wls now tl m L j).length) % 32 = (wls now tl m L j).length by omega]
        exact Or.inr (Or.inr ⟨rfl, lpg now m j, wls_at (by unfold nl; rw [c1, c2]; rfl) 4 hj, rfl, rfl, rfl⟩)
      | false =>
        exact Or.inl (by unfold rld; rw [c1, c2]; rfl)
    | false =>
      by_cases c : bm = 0
      · exact Or.inl (by unfold rld; rw [c1]; exact if_pos c)
      · have e : rld now tl st bm id m L j = lk2 st bm m j := by unfold rld; rw [c1]; exact if_neg c
        rw [e]
        by_cases z : lk2 st bm m j = 0
        · exact Or.inl z
        · obtain ⟨v, k2, hr⟩ := hb c
          obtain ⟨q1, q2, q3, q4, q5⟩ := S.lkk v k2 hm hj z
          exact Or.inr (Or.inl ⟨q1.2.1, hr _ (rcb_t.mpr (Or.inr (Or.inr ⟨m, j, hm, hj, z, rfl⟩))), q2, q4, q5⟩)
theorem wms_gd {now : Nat → Option Int32} {tl tm : Nat → Bool} {st : Nat → Pg} {fs np : Nat → Nat} {vers : List Vt} {bm id : Nat} (S : SW st fs np id) (hb : BmL st np vers id bm) (n : Nat) (hn : n ≤ 4) : GdL st vers id (wms now tl tm st bm id n) := by
  induction n with
  | zero => intro i pg h; cases h
  | succ n ih =>
    refine wmL_gd (ih (by omega)) S hb (by omega) ?_
    rw [wls_len, wms_len]
    have := cn_le (nl now tl n) 4
    have := sm_le (pm_le now tl tm) n
    omega
theorem wms_pre {now : Nat → Option Int32} {tl tm : Nat → Bool} {st : Nat → Pg} {bm id i : Nat} (j : Nat) (h : i ≤ j) : ∃ R, wms now tl tm st bm id j = wms now tl tm st bm id i ++ R := by
  induction j with
  | zero => rw [show i = 0 by omega]; exact ⟨[], (List.append_nil _).symm⟩
  | succ j ih =>
    by_cases e : i = j + 1
    · rw [e]; exact ⟨[], (List.append_nil _).symm⟩
    · obtain ⟨R, hR⟩ := ih (by omega)
      have : ∀ n (L : List Pg), ∃ R, wls now tl j L n = L ++ R := fun n L => by
        induction n with
        | zero => exact ⟨[], (List.append_nil _).symm⟩
        | succ n ih2 =>
          obtain ⟨R2, h2⟩ := ih2
          exact ⟨R2 ++ (bif nl now tl j n then [lpg now j n] else []), by show wls now tl j L n ++ _ = _; rw [h2, List.append_assoc]⟩
      show ∃ R, wmL now tl tm st bm id j (wms now tl tm st bm id j) = _
      unfold wmL
      cases mc tl tm j && mh now j with
      | false => exact ⟨R, hR⟩
      | true =>
        obtain ⟨R2, h2⟩ := this 4 (wms now tl tm st bm id j)
        refine ⟨R ++ (R2 ++ [rpg now tl st bm id j (wms now tl tm st bm id j)]), ?_⟩
        show wls now tl j _ 4 ++ _ = _
        rw [h2]
        rw [List.append_assoc, ← List.append_assoc (wms now tl tm st bm id i), ← hR]
theorem wal_ok {now : Nat → Option Int32} {tl tm : Nat → Bool} {st : Nat → Pg} {fs np : Nat → Nat} {vers : List Vt} {bm id ver : Nat} (S : SW st fs np id) (hb : BmL st np vers id bm) (hv : ver < 2 ^ 20) : WOK st vers id (wal now tl tm st bm id ver) := by
  have G := wms_gd (now := now) (tl := tl) (tm := tm) S hb 4 (Nat.le_refl _)
  have l20 : (wms now tl tm st bm id 4).length ≤ 20 := by
    rw [wms_len]
    have := sm_le (pm_le now tl tm) 4
    omega
  have la : (wal now tl tm st bm id ver).length = (wms now tl tm st bm id 4).length + 1 := by unfold wal; rw [List.length_append]; rfl
  intro i pg hi
  rw [la]
  rcases appP_at (show (wms now tl tm st bm id 4 ++ [mpg now tl tm st bm id ver])[i]? = some pg from hi) with ⟨z1, z2⟩ | ⟨z1, z2⟩
  · rcases G i pg z2 with ⟨q1, q2, q3⟩ | ⟨q1, q2, q3, q4⟩
    · exact ⟨⟨by omega, by omega, q2, by omega⟩, fun _ => q3, fun c => by omega, fun c => by omega⟩
    · refine ⟨⟨by omega, by omega, q2, by omega⟩, fun c => by omega, fun c => by omega, fun _ j hj => ?_⟩
      rcases q4 j hj with c | c | ⟨c1, x, c2, c3⟩
      · exact Or.inl c
      · exact Or.inr (Or.inl c)
      · exact Or.inr (Or.inr ⟨c1, x, pre_at c2, c3⟩)
  · subst z2
    refine ⟨⟨Nat.le_refl 2, ⟨fun _ => by omega, fun _ => rfl⟩, by show 0 < 4; decide, hv⟩, fun c => absurd c (by show ¬ (2 : Nat) = 0; decide), fun _ m hm => ?_, fun c => absurd c (by show ¬ (2 : Nat) = 1; decide)⟩
    show wmk now tl tm st bm id m (wms now tl tm st bm id m) = 0 ∨ _
    obtain ⟨w, hw⟩ : ∃ w, w = wmk now tl tm st bm id m (wms now tl tm st bm id m) := ⟨_, rfl⟩
    show wmk now tl tm st bm id m (wms now tl tm st bm id m) = 0 ∨ (wmk now tl tm st bm id m (wms now tl tm st bm id m) / 32 < id ∧ lvb st vers (wmk now tl tm st bm id m (wms now tl tm st bm id m)) = true ∧ kd st (wmk now tl tm st bm id m (wms now tl tm st bm id m)) = 1 ∧ pmp st (wmk now tl tm st bm id m (wms now tl tm st bm id m)) = m ∧ ∀ j, j < 4 → ld st (wmk now tl tm st bm id m (wms now tl tm st bm id m)) j ≠ 0 → lvb st vers (ld st (wmk now tl tm st bm id m (wms now tl tm st bm id m)) j) = true) ∨ (wmk now tl tm st bm id m (wms now tl tm st bm id m) / 32 = id ∧ ∃ q, (wal now tl tm st bm id ver)[wmk now tl tm st bm id m (wms now tl tm st bm id m) % 32]? = some q ∧ q.1 = 1 ∧ q.2.2.2.1 = m)
    rw [← hw]
    cases c1 : mc tl tm m with
    | true =>
      cases c2 : mh now m with
      | false => exact Or.inl (by rw [hw]; unfold wmk; rw [c1, c2]; rfl)
      | true =>
        have e : w = 32 * id + (wls now tl m (wms now tl tm st bm id m) 4).length := by rw [hw]; unfold wmk; rw [c1, c2]; rfl
        have at1 : (wms now tl tm st bm id (m + 1))[(wls now tl m (wms now tl tm st bm id m) 4).length]? = some (rpg now tl st bm id m (wms now tl tm st bm id m)) := by
          show (wmL now tl tm st bm id m (wms now tl tm st bm id m))[_]? = _
          unfold wmL
          rw [c1, c2]
          show (wls now tl m (wms now tl tm st bm id m) 4 ++ _)[_]? = _
          rw [List.getElem?_append_right (Nat.le_refl _), Nat.sub_self]; rfl
        obtain ⟨R, hR⟩ := wms_pre (now := now) (tl := tl) (tm := tm) (st := st) (bm := bm) (id := id) 4 (show m + 1 ≤ 4 by omega)
        have at4 : (wms now tl tm st bm id 4)[(wls now tl m (wms now tl tm st bm id m) 4).length]? = some (rpg now tl st bm id m (wms now tl tm st bm id m)) := by rw [hR]; exact pre_at at1
        have lt : (wls now tl m (wms now tl tm st bm id m) 4).length < (wms now tl tm st bm id 4).length := (List.getElem?_eq_some_iff.mp at4).1
        rw [e, show (32 * id + (wls now tl m (wms now tl tm st bm id m) 4).length) / 32 = id by omega, show (32 * id + (wls now tl m (wms now tl tm st bm id m) 4).length) % 32 = (wls now tl m (wms now tl tm st bm id m) 4).length by omega]
        exact Or.inr (Or.inr ⟨rfl, _, pre_at at4, rfl, rfl⟩)
    | false =>
      by_cases c : bm = 0
      · exact Or.inl (by rw [hw]; unfold wmk; rw [c1]; exact if_pos c)
      · have e : w = ld st bm m := by rw [hw]; unfold wmk; rw [c1]; exact if_neg c
        rw [e]
        by_cases z : ld st bm m = 0
        · exact Or.inl z
        · obtain ⟨v, k2, hr⟩ := hb c
          obtain ⟨q1, q2, q3, q4⟩ := S.root v k2 hm z
          refine Or.inr (Or.inl ⟨q1.2.1, hr _ (rcb_t.mpr (Or.inr (Or.inl ⟨m, hm, z, rfl⟩))), q2, q4, fun j hj hz => hr _ (rcb_t.mpr (Or.inr (Or.inr ⟨m, j, hm, hj, ?_, ?_⟩)))⟩)
          · unfold lk2; rw [if_neg z]; exact hz
          · unfold lk2; rw [if_neg z]
/-- the page of a rollback -/
def cpg (st : Nat → Pg) (bm ver : Nat) : Pg := (2, fun m => if bm = 0 then 0 else ld st bm m, fun _ => none, 0, ver)
theorem cpg_ok {st : Nat → Pg} {fs np : Nat → Nat} {vers : List Vt} {bm id ver : Nat} (S : SW st fs np id) (hb : BmL st np vers id bm) (hv : ver < 2 ^ 20) : WOK st vers id [cpg st bm ver] := by
  intro i pg hi
  have : i = 0 ∧ pg = cpg st bm ver := by
    cases i with
    | zero => cases hi; exact ⟨rfl, rfl⟩
    | succ i => cases hi
  obtain ⟨rfl, rfl⟩ := this
  refine ⟨⟨Nat.le_refl 2, ⟨fun _ => rfl, fun _ => rfl⟩, by show 0 < 4; decide, hv⟩, fun c => absurd c (by show ¬ (2 : Nat) = 0; decide), fun _ m hm => ?_, fun c => absurd c (by show ¬ (2 : Nat) = 1; decide)⟩
  have e : (cpg st bm ver).2.1 m = if bm = 0 then 0 else ld st bm m := rfl
  rw [e]
  by_cases c : bm = 0
  · rw [if_pos c]; exact Or.inl rfl
  · rw [if_neg c]
    by_cases z : ld st bm m = 0
    · exact Or.inl z
    · obtain ⟨v, k2, hr⟩ := hb c
      obtain ⟨q1, q2, q3, q4⟩ := S.root v k2 hm z
      refine Or.inr (Or.inl ⟨q1.2.1, hr _ (rcb_t.mpr (Or.inr (Or.inl ⟨m, hm, z, rfl⟩))), q2, q4, fun j hj hz => hr _ (rcb_t.mpr (Or.inr (Or.inr ⟨m, j, hm, hj, ?_, ?_⟩)))⟩)
      · unfold lk2; rw [if_neg z]; exact hz
      · unfold lk2; rw [if_neg z]

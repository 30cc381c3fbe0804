def aE : Nat → String
  | 2 => "VersionMaps$Chunk"
  | 3 => "VersionMaps$Page"
  | 4 => "VersionMaps$Root"
  | 5 => "VersionMaps$Leaf"
  | _ => "java/lang/Object"
theorem tys_r {ca : Nat → ClassId} {t : Nat} (h2 : 2 ≤ t) (h7 : t < 7) : (tys ca)[t]? = some (ca t, .object (aE t)) := by
  have : t = 2 ∨ t = 3 ∨ t = 4 ∨ t = 5 ∨ t = 6 := by omega
  rcases this with e | e | e | e | e <;> subst e <;> rfl
theorem aty_lt (κ : Nat) : aty κ < 7 := by
  unfold aty
  rw [List.getD_eq_getElem?_getD]
  cases hk : kat[κ - 64]? with
  | none => decide
  | some x =>
    have h1 : x ∈ kat := List.mem_of_getElem? hk
    have h2 : ∀ x ∈ kat, x < 7 := by decide
    exact h2 x h1
section Arr
variable {l : Launch} {C : Ct} {mi : Nat} {M : Mi} {d pc : Nat} {ls : List (Nat × Tv)} {st : List Tv} {h h' : Hp} {r : Option Tv}
theorem aV_i {h : Hp} {a : Nat} (ht : aty (hpT h a) < 2) (j : Nat) : aV h a j = .int (hpI h a j) := by
  unfold aV aref
  have : Nat.ble 2 (aty (hpT h a)) = false := by
    cases hb : Nat.ble 2 (aty (hpT h a)) with
    | false => rfl
    | true => have := Nat.le_of_ble_eq_true hb; omega
  rw [this]; rfl
theorem aV_r {h : Hp} {a : Nat} (ht : 2 ≤ aty (hpT h a)) (j : Nat) : aV h a j = va_rf (hpR h a j) := by
  unfold aV aref
  rw [Nat.ble_eq_true_of_le ht]; rfl
/-- a step that makes a cell -/
theorem z_made {pc2 κ n w : Nat} {st2 : List Tv} (k : Z l C mi M d pc2 ls st2 (nw h κ n w) r h')
    (f : ∀ (p : Program) (e : Env) (R : Room) (s : State) (m : MethodId) (args : Array Value) (below : List Frame) (meth : Method) (c : Code) (H : Heap) (locs : List Loc) (cells slots : Nat) (lv : Array Slot) (Q : State → Prop), Cx C mi M d p R s m args meth c → HP C h H → va_S (fre C) s.heap H locs → LR lv M.2.2.1 ls → cells + 1 ≤ R.cells → slots + w ≤ R.slots →
      (∀ (H1 : Heap), HP C (nw h κ n w) H1 → (∀ q : Nat, q < H.size → H1[q]? = H[q]?) → H1.size = H.size + 1 → W p l e R s m args below meth c H1 locs (cells + 1) (slots + w) Q (F0 m pc2 lv (st2.map tv))) → W p l e R s m args below meth c H locs cells slots Q (F0 m pc lv (st.map tv))) : Z l C mi M d pc ls st h r h' := by
  have e1 : hpN (nw h κ n w) = hpN h + 1 := rfl
  have e2 : hpS (nw h κ n w) = hpS h + w := rfl
  have b1 := k.1
  have b2 := k.2.1
  rw [e1] at b1
  rw [e2] at b2
  refine ⟨by omega, by omega, fun p e R s m args below meth c H locs lv Q n0 s0 X P S z1 z2 L a1 a2 a3 a4 hend => f p e R s m args below meth c H locs _ _ lv Q X P S L (by omega) (by omega) (fun H1 P1 oq zz => ?_)⟩
  have kk := k.2.2 p e R s m args below meth c H1 locs lv Q n0 s0 X P1 ⟨by rw [zz]; have := S.1; omega, fun q q1 q2 => by rw [oq q (Nat.lt_of_lt_of_le q1 S.1)]; exact S.2.1 q q1 q2, S.2.2⟩ (by omega) z2 L (by rw [e1]; omega) (by rw [e2]; omega) a3 a4 hend
  rw [e1, e2, show hpN h + 1 - n0 = hpN h - n0 + 1 by omega, show hpS h + w - s0 = hpS h - s0 + w by omega] at kk
  exact kk
theorem z_new {idx κ w : Nat} {cn : String} {T : u_T} (hd : decode M.2.1 pc = .ok (.new idx, 3)) (hq : kcl[κ]? = some (cn, T, w)) (hw : Cond.classLink M.1.cls idx cn ∈ lw_w) (k : Z l C mi M d (pc + 3) ls (vr (some (hpN h)) :: st) (nw h κ 0 w) r h') : Z l C mi M d pc ls st h r h' := by
  refine z_made k fun p e R s m args below meth c H locs cells slots lv Q X P S L hc hs kk => ?_
  obtain ⟨x1, x2, x3, x4, ⟨K1, K2, K3⟩, x6⟩ := X
  have hKn := K2.1 κ _ hq
  have hsz := P.1
  refine W.newcK x1 x2 x4 (K1.use _ hw) (K1.use _ (kis hq)) (K1.use _ (kii hq)) rfl hd hc hs hKn.2.1 rfl fun H1 kC hkC o1 o2 o3 => ?_
  have k2 := kk H1 (P.new (κ := κ) (n := 0) (w := w) o2 o3 (Or.inl (kcl63 hq)) ?_) o3 o2
  · rw [hsz]
    exact k2
  · have eT : hpT (nw h κ 0 w) (hpN h) = κ := if_pos rfl
    refine ⟨fun _ => ?_, fun q => ?_⟩
    · rw [eT]
      refine ⟨_, hq, (u_born (args := args) (kty κ) K1.use (kin hq) hKn hkC (by rw [← hsz]; exact o1) (kok hq)).to (fun j hj => ?_)⟩
      unfold fV
      rw [eT]
      have eI : hpI (nw h κ 0 w) (hpN h) j = 0 := if_pos rfl
      have eR : hpR (nw h κ 0 w) (hpN h) j = none := if_pos rfl
      rw [eI, eR]
      rcases kfo hq j hj with z | z
      · rw [z.1, z.2]; rfl
      · rw [z.1]
        have z2 := z.2
        cases hk : kty κ j <;> rw [hk] at z2 <;> first | (cases z2; done) | rfl
    · rw [eT] at q
      have := kcl63 hq
      omega
theorem w_newat {H H1 : Heap} {κ t N : Nat} {v : Value} (P : HP C h H) (hk : 66 ≤ κ) (ht : aty κ = t) (o1 : H1[H.size]? = some (arrV (cA C t) N (fun _ => v))) (hv : v = if 2 ≤ t then .null else .int 0) : atH C (nw h κ N N) H1 (hpN h) := by
  have eT : hpT (nw h κ N N) (hpN h) = κ := if_pos rfl
  refine ⟨fun q => by rw [eT] at q; omega, fun _ => ?_⟩
  have eL : hpL (nw h κ N N) (hpN h) = N := if_pos rfl
  rw [eT, eL, ht, ← P.1, o1]
  congr 2
  funext j
  have eI : hpI (nw h κ N N) (hpN h) j = 0 := if_pos rfl
  have eR : hpR (nw h κ N N) (hpN h) j = none := if_pos rfl
  rw [P.1]
  by_cases h2 : 2 ≤ t
  · rw [aV_r (by rw [eT, ht]; exact h2), eR, hv, if_pos h2]; rfl
  · rw [aV_i (by rw [eT, ht]; omega), eI, hv, if_neg h2]
theorem z_newI {n : Int32} {κ N : Nat} (hd : decode M.2.1 pc = .ok (.newarray .int, 2)) (hk : 66 ≤ κ) (ht : aty κ = 0) (hn : ¬ n < 0) (hN : n.toNatClampNeg = N) (hb : N ≤ 65536) (k : Z l C mi M d (pc + 2) ls (vr (some (hpN h)) :: st) (nw h κ N N) r h') : Z l C mi M d pc ls (vi n :: st) h r h' := by
  refine z_made k fun p e R s m args below meth c H locs cells slots lv Q X P S L hc hs kk => ?_
  obtain ⟨x1, x2, x3, x4, ⟨K1, K2, K3⟩, x6⟩ := X
  refine va_newaK x1 x2 (atype := .int) (K1.use _ (show Cond.arrayClass .int ∈ lw_w by decide +kernel)) rfl hd rfl hn hN (by show N * 4 ≤ _; omega) hc hs P.1 fun H1 cA' o1 o2 o3 oA oN => ?_
  have e0 : cA' = cA C 0 := Option.some.inj (oN.symm.trans (K2.2 0 _ rfl).2)
  subst e0
  rw [← P.1] at o1 o2 o3
  exact kk H1 (P.new o2 o3 (Or.inr hk) (w_newat P hk ht o1 rfl)) o3 o2
theorem z_newZ {n : Int32} {κ N : Nat} (hd : decode M.2.1 pc = .ok (.newarray .boolean, 2)) (hk : 66 ≤ κ) (ht : aty κ = 1) (hn : ¬ n < 0) (hN : n.toNatClampNeg = N) (hb : N ≤ 65536) (k : Z l C mi M d (pc + 2) ls (vr (some (hpN h)) :: st) (nw h κ N N) r h') : Z l C mi M d pc ls (vi n :: st) h r h' := by
  refine z_made k fun p e R s m args below meth c H locs cells slots lv Q X P S L hc hs kk => ?_
  obtain ⟨x1, x2, x3, x4, ⟨K1, K2, K3⟩, x6⟩ := X
  refine va_newaK x1 x2 (atype := .boolean) (K1.use _ (show Cond.arrayClass .boolean ∈ lw_w by decide +kernel)) rfl hd rfl hn hN (by show N * 1 ≤ _; omega) hc hs P.1 fun H1 cA' o1 o2 o3 oA oN => ?_
  have e0 : cA' = cA C 1 := Option.some.inj (oN.symm.trans (K2.2 1 _ rfl).2)
  subst e0
  rw [← P.1] at o1 o2 o3
  exact kk H1 (P.new o2 o3 (Or.inr hk) (w_newat P hk ht o1 rfl)) o3 o2
theorem z_newR {n : Int32} {κ t idx N : Nat} (hd : decode M.2.1 pc = .ok (.anewarray idx, 3)) (hw : Cond.classLink M.1.cls idx (aE t) ∈ lw_w) (ho : Cond.arrayOver (.object (aE t)) ∈ lw_w) (h2 : 2 ≤ t) (hk : 66 ≤ κ) (ht : aty κ = t) (hn : ¬ n < 0) (hN : n.toNatClampNeg = N) (hb : N ≤ 65536) (k : Z l C mi M d (pc + 3) ls (vr (some (hpN h)) :: st) (nw h κ N N) r h') : Z l C mi M d pc ls (vi n :: st) h r h' := by
  refine z_made k fun p e R s m args below meth c H locs cells slots lv Q X P S L hc hs kk => ?_
  obtain ⟨x1, x2, x3, x4, ⟨K1, K2, K3⟩, x6⟩ := X
  subst hN
  refine W.anew x1 x2 x4 (K1.use _ hw) (K1.use _ ho) rfl hd rfl hn (by omega) hc hs fun cA' kA comp f1 f2 f3 f4 => ?_
  have h7 : t < 7 := by rw [← ht]; exact aty_lt κ
  have hRA := (K2.2 t _ (tys_r h2 h7)).2
  obtain ⟨kA0, comp0, r1, r2, r3, r4⟩ := hRA
  have e0 : cA' = cA C t := Option.some.inj (f1.symm.trans r4)
  subst e0
  generalize hH1 : H.push ({ cls := cA C t, slots := Array.replicate n.toNatClampNeg .null, vm := .none } : Cell) = H1
  have o2 : H1.size = H.size + 1 := by rw [← hH1, Array.size_push]
  have o1 : H1[H.size]? = some (arrV (cA C t) n.toNatClampNeg (fun _ => .null)) := by rw [← hH1, Array.getElem?_push_size, ← arrV_new]
  have o3 : ∀ q : Nat, q < H.size → H1[q]? = H[q]? := fun q hq => by rw [← hH1, Array.getElem?_push, if_neg (Nat.ne_of_lt hq)]
  have k2 := kk H1 (P.new o2 o3 (Or.inr hk) (w_newat P hk ht o1 (by rw [if_pos h2]))) o3 o2
  rw [← P.1] at k2
  exact k2
theorem z_alen {x : Option Nat} {a : Nat} (hd : decode M.2.1 pc = .ok (.arraylength, 1)) (ha : x = some a) (hk : 64 ≤ hpT h a) (k : Z l C mi M d (pc + 1) ls (vi (Int32.ofNat (hpL h a)) :: st) h r h') : Z l C mi M d pc ls (vr x :: st) h r h' := by
  subst ha
  refine z_of k fun p e R s m args below meth c H locs cells slots lv Q X P S L kk => ?_
  obtain ⟨x1, x2, x3, x4, K, x6⟩ := X
  have hA : ∃ (cell : Cell) (ty : FieldType), H[a]? = some cell ∧ s.isArrayOf cell ty ∧ cell.slots.size.toInt32 = Int32.ofNat (hpL h a) := by
    obtain ⟨g1, g2⟩ := K.at S
    have K2 := K.2.1
    by_cases e4 : hpT h a = 64
    · obtain ⟨cell, c1, c2, c3⟩ := g2
      have ea := (P.ext (a := a)).1 e4
      refine ⟨cell, _, by rw [ea]; exact c1, c2, ?_⟩
      rw [ea, P.2.2.2.2.2.2.1, c3]; rfl
    · by_cases e5 : hpT h a = 65
      · obtain ⟨cell, c1, c2, c3, c4, c5⟩ := g1
        have ea := (P.ext (a := a)).2 e5
        refine ⟨cell, _, by rw [ea]; exact c1, c2, ?_⟩
        rw [ea, P.2.2.2.2.2.2.2.1, c4]
      · have hA := P.arr (a := a) rfl (by omega)
        have h7 := aty_lt (hpT h a)
        have harr : ∃ ty, s.isArrayOf (arrV (cA C (aty (hpT h a))) (hpL h a) (aV h a)) ty := by
          by_cases h2 : 2 ≤ aty (hpT h a)
          · exact ⟨_, (K2.2 _ _ (tys_r h2 h7)).1 _ _⟩
          · have : aty (hpT h a) = 0 ∨ aty (hpT h a) = 1 := by omega
            rcases this with q | q <;> rw [q]
            · exact ⟨_, (K2.2 0 _ rfl).1 _ _⟩
            · exact ⟨_, (K2.2 1 _ rfl).1 _ _⟩
        obtain ⟨ty, harr⟩ := harr
        exact ⟨_, ty, hA, harr, by rw [arrV_size] <;> rfl⟩
  obtain ⟨cell, ty, c1, c2, c3⟩ := hA
  exact W.alen (n := Int32.ofNat (hpL h a)) x1 x2 c1 c2 c3 rfl rfl hd (kk lv L)
theorem z_iald {x : Option Nat} {a : Nat} {i : Int32} (hd : decode M.2.1 pc = .ok (.iaload, 1)) (ha : x = some a) (hk : 64 ≤ hpT h a) (ht : aty (hpT h a) = 0) (hin : vp_in i (hpL h a)) (k : Z l C mi M d (pc + 1) ls (vi (hpI h a i.toNatClampNeg) :: st) h r h') : Z l C mi M d pc ls (vi i :: vr x :: st) h r h' := by
  subst ha
  refine z_of k fun p e R s m args below meth c H locs cells slots lv Q X P S L kk => ?_
  obtain ⟨x1, x2, x3, x4, K, x6⟩ := X
  have hlt : i.toNatClampNeg < hpL h a := Nat.not_le.mp fun q => hin (Or.inr q)
  have hA : ∃ cell : Cell, H[a]? = some cell ∧ s.isArrayOf cell .int ∧ cell.vm ≠ .unknown ∧ cell.slots.size = hpL h a ∧ cell.slots[i.toNatClampNeg]? = some (.int (hpI h a i.toNatClampNeg)) := by
    obtain ⟨g1, g2⟩ := K.at S
    have K2 := K.2.1
    by_cases e4 : hpT h a = 64
    · rw [e4] at ht; exact absurd ht (by decide)
    · by_cases e5 : hpT h a = 65
      · obtain ⟨cell, c1, c2, c3, c4, c5⟩ := g1
        have ea := (P.ext (a := a)).2 e5
        have eL := P.2.2.2.2.2.2.2.1
        have eI := P.2.2.2.2.2.2.2.2.1
        rw [ea] at hlt ⊢
        rw [eL] at hlt
        exact ⟨cell, c1, c2, c3, by rw [c4, eL], by rw [c5 _ hlt, eI]⟩
      · have hA := P.arr (a := a) rfl (by omega)
        refine ⟨_, hA, by rw [ht]; exact (K2.2 0 _ rfl).1 _ _, (fun q => by cases q), arrV_size _ _ _, ?_⟩
        rw [arrV_read _ _ hlt, aV_i (by omega)]
  obtain ⟨cell, c1, c2, c3, c4, c5⟩ := hA
  exact W.iald (v := .int (hpI h a i.toNatClampNeg)) x1 x2 c1 c2 c3 (by rw [c4]; exact hin) c5 rfl rfl hd (kk lv L)
theorem z_zald {x : Option Nat} {a : Nat} {i : Int32} (hd : decode M.2.1 pc = .ok (.baload, 1)) (ha : x = some a) (hk : 66 ≤ hpT h a) (ht : aty (hpT h a) = 1) (hin : vp_in i (hpL h a)) (k : Z l C mi M d (pc + 1) ls (vi (hpI h a i.toNatClampNeg) :: st) h r h') : Z l C mi M d pc ls (vi i :: vr x :: st) h r h' := by
  subst ha
  refine z_of k fun p e R s m args below meth c H locs cells slots lv Q X P S L kk => ?_
  obtain ⟨x1, x2, x3, x4, ⟨K1, K2, K3⟩, x6⟩ := X
  have hA := P.arr (a := a) rfl hk
  have hlt : i.toNatClampNeg < hpL h a := Nat.not_le.mp fun q => hin (Or.inr q)
  exact W.zald (v := .int (hpI h a i.toNatClampNeg)) x1 x2 hA (by rw [ht]; exact (K2.2 1 _ rfl).1 _ _) (fun q => by cases q) (by rw [arrV_size]; exact hin) (by rw [arrV_read _ _ hlt, aV_i (by omega)]) rfl rfl hd (kk lv L)
theorem z_aald {x : Option Nat} {a : Nat} {i : Int32} (hd : decode M.2.1 pc = .ok (.aaload, 1)) (ha : x = some a) (hk : 66 ≤ hpT h a) (ht : 2 ≤ aty (hpT h a)) (hin : vp_in i (hpL h a)) (k : Z l C mi M d (pc + 1) ls (vr (hpR h a i.toNatClampNeg) :: st) h r h') : Z l C mi M d pc ls (vi i :: vr x :: st) h r h' := by
  subst ha
  refine z_of k fun p e R s m args below meth c H locs cells slots lv Q X P S L kk => ?_
  obtain ⟨x1, x2, x3, x4, ⟨K1, K2, K3⟩, x6⟩ := X
  have hA := P.arr (a := a) rfl hk
  have hlt : i.toNatClampNeg < hpL h a := Nat.not_le.mp fun q => hin (Or.inr q)
  exact W.aald (v := va_rf (hpR h a i.toNatClampNeg)) x1 x2 hA ((K2.2 _ _ (tys_r ht (aty_lt _))).1 _ _) rfl (fun q => by cases q) (by rw [arrV_size]; exact hin) (by rw [arrV_read _ _ hlt, aV_r ht]) rfl rfl hd (kk lv L)
/-- an array of ours after a store -/
theorem w_sta {H H1 : Heap} {h1 : Hp} {a j : Nat} {v : Value} (P : HP C h H) (hk : 66 ≤ hpT h a) (o1 : H1[a]? = some ((arrV (cA C (aty (hpT h a))) (hpL h a) (aV h a)).setSlot j v)) (o2 : H1.size = H.size) (o3 : ∀ q, q ≠ a → H1[q]? = H[q]?)
    (e1 : hpN h1 = hpN h) (e2 : hpT h1 = hpT h) (e3 : hpL h1 = hpL h) (e4 : ∀ b, b ≠ a → hpI h1 b = hpI h b) (e5 : ∀ b, b ≠ a → hpR h1 b = hpR h b) (e6 : ∀ q, aV h1 a q = updV (aV h a) j v q) : HP C h1 H1 := by
  refine P.put (a := a) rfl (Or.inr hk) o2 o3 e1 e2 e3 e4 e5 ⟨fun q => by rw [e2] at q; omega, fun _ => ?_⟩
  rw [e2, e3, o1, arrV_store]
  congr 2
  funext q
  exact (e6 q).symm
theorem z_iast {x : Option Nat} {a : Nat} {i v : Int32} (hd : decode M.2.1 pc = .ok (.iastore, 1)) (ha : x = some a) (hk : 66 ≤ hpT h a) (ht : aty (hpT h a) = 0) (hin : vp_in i (hpL h a)) (k : Z l C mi M d (pc + 1) ls st (wI h a i.toNatClampNeg v) r h') : Z l C mi M d pc ls (vi v :: vi i :: vr x :: st) h r h' := by
  subst ha
  refine z_store k rfl rfl fun p e R s m args below meth c H locs cells slots lv Q X P S L kk => ?_
  obtain ⟨x1, x2, x3, x4, ⟨K1, K2, K3⟩, x6⟩ := X
  have hA := P.arr (a := a) rfl (by omega)
  refine W.iast x1 x2 hA (by rw [ht]; exact (K2.2 0 _ rfl).1 _ _) (fun q => by cases q) (by rw [arrV_size]; exact hin) rfl rfl hd fun H1 o1 o2 o3 => ?_
  refine kk H1 _ (w_sta P hk o1 o2 o3 rfl rfl rfl (fun b hb => by funext j; exact if_neg (fun q => hb q.1)) (fun b hb => rfl) (fun q => ?_)) (S.put o2 o3 (P.own (a := a) rfl (Or.inr hk)).1) o2
  rw [aV_i (h := wI h a i.toNatClampNeg v) (a := a) (by show aty (hpT h a) < 2; omega)]
  unfold updV
  by_cases hq : q = i.toNatClampNeg
  · rw [if_pos hq]; exact congrArg Value.int (if_pos ⟨rfl, hq⟩)
  · rw [if_neg hq, aV_i (by omega)]; exact congrArg Value.int (if_neg (fun z => hq z.2))
theorem nar_b (v : Int32) : narrow .boolean (.int v) = .int (vp_nar .boolean v) := rfl
theorem z_zast {x : Option Nat} {a : Nat} {i v : Int32} (hd : decode M.2.1 pc = .ok (.bastore, 1)) (ha : x = some a) (hk : 66 ≤ hpT h a) (ht : aty (hpT h a) = 1) (hin : vp_in i (hpL h a)) (k : Z l C mi M d (pc + 1) ls st (wI h a i.toNatClampNeg (vp_nar .boolean v)) r h') : Z l C mi M d pc ls (vi v :: vi i :: vr x :: st) h r h' := by
  subst ha
  refine z_store k rfl rfl fun p e R s m args below meth c H locs cells slots lv Q X P S L kk => ?_
  obtain ⟨x1, x2, x3, x4, ⟨K1, K2, K3⟩, x6⟩ := X
  have hA := P.arr (a := a) rfl (by omega)
  refine W.zast x1 x2 hA (by rw [ht]; exact (K2.2 1 _ rfl).1 _ _) (fun q => by cases q) (by rw [arrV_size]; exact hin) rfl rfl hd fun H1 o1 o2 o3 => ?_
  rw [nar_b] at o1
  refine kk H1 _ (w_sta P hk o1 o2 o3 rfl rfl rfl (fun b hb => by funext j; exact if_neg (fun q => hb q.1)) (fun b hb => rfl) (fun q => ?_)) (S.put o2 o3 (P.own (a := a) rfl (Or.inr hk)).1) o2
  rw [aV_i (h := wI h a i.toNatClampNeg (vp_nar .boolean v)) (a := a) (by show aty (hpT h a) < 2; omega)]
  unfold updV
  by_cases hq : q = i.toNatClampNeg
  · rw [if_pos hq]; exact congrArg Value.int (if_pos ⟨rfl, hq⟩)
  · rw [if_neg hq, aV_i (by omega)]; exact congrArg Value.int (if_neg (fun z => hq z.2))
/-- an object of kind κ may stand in an array of type t -/
def as_ok (κ t : Nat) : Prop := ∃ q : vw_C, kcl[κ]? = some q ∧ (q.1 = aE t ∨ Cond.castable q.1 (aE t) ∈ lw_w)
theorem w_any {s : State} {H : Heap} {b t : Nat} (K : KK C mi s) (P : HP C h H) (ha : as_ok (hpT h b) t) : va_Any (aE t) s H b := by
  obtain ⟨q, h1, h2⟩ := ha
  obtain ⟨q', g1, cell, g2, g3, g4, g5⟩ := P.obj rfl (kcl63 h1)
  cases h1.symm.trans g1
  have hC := (K.2.1.1 _ _ h1).2
  obtain ⟨kC, hkC, -⟩ := hC.2
  refine ⟨cell, g2, by rw [g4]; rfl, ⟨kC, by rw [g3]; exact hkC⟩, fun comp hcomp => ?_⟩
  rw [g3]
  rcases h2 with h2 | h2
  · rw [← h2] at hcomp
    cases hC.1.symm.trans hcomp
    exact va_assign hC
  · obtain ⟨c0, t0, f1, f2, f3⟩ := Cond.castable_spec (K.1.use (A := #[]) _ h2)
    cases hC.1.symm.trans f1
    cases hcomp.symm.trans f2
    exact f3
theorem z_aast {x v : Option Nat} {a : Nat} {i : Int32} (hd : decode M.2.1 pc = .ok (.aastore, 1)) (ha : x = some a) (hk : 66 ≤ hpT h a) (ht : 2 ≤ aty (hpT h a)) (hv : ∀ b, v = some b → as_ok (hpT h b) (aty (hpT h a))) (hin : vp_in i (hpL h a)) (k : Z l C mi M d (pc + 1) ls st (wR h a i.toNatClampNeg v) r h') : Z l C mi M d pc ls (vr v :: vi i :: vr x :: st) h r h' := by
  subst ha
  refine z_store k rfl rfl fun p e R s m args below meth c H locs cells slots lv Q X P S L kk => ?_
  obtain ⟨x1, x2, x3, x4, K, x6⟩ := X
  have hA := P.arr (a := a) rfl (by omega)
  have hlt : i.toNatClampNeg < hpL h a := Nat.not_le.mp fun q => hin (Or.inr q)
  have h0 : ¬ i < 0 := fun q => hin (Or.inl q)
  have hT := K.2.1.2 _ _ (tys_r ht (aty_lt _))
  have fin : ∀ H1 : Heap, H1[a]? = some ((arrV (cA C (aty (hpT h a))) (hpL h a) (aV h a)).setSlot i.toNatClampNeg (va_rf v)) → H1.size = H.size → (∀ q, q ≠ a → H1[q]? = H[q]?) → W p l e R s m args below meth c H1 (locs ++ [⟨a, i.toNatClampNeg⟩]) cells slots Q (F0 m (pc + 1) lv (st.map tv)) := by
    intro H1 o1 o2 o3
    refine kk H1 _ (w_sta P hk o1 o2 o3 rfl rfl rfl (fun b hb => rfl) (fun b hb => by funext j; exact if_neg (fun q => hb q.1)) (fun q => ?_)) (S.put o2 o3 (P.own (a := a) rfl (Or.inr hk)).1) o2
    rw [aV_r (h := wR h a i.toNatClampNeg v) (a := a) ht]
    unfold updV
    by_cases hq : q = i.toNatClampNeg
    · rw [if_pos hq]; exact congrArg va_rf (if_pos ⟨rfl, hq⟩)
    · rw [if_neg hq, aV_r ht]; exact congrArg va_rf (if_neg (fun z => hq z.2))
  cases v with
  | none => exact va_WaastN (C := aE (aty (hpT h a))) x1 x2 hA (hT.1 _ _) (fun q => by cases q) (by rw [arrV_size]; exact hin) rfl rfl hd fin
  | some b =>
    obtain ⟨cellV, g1, g3, ⟨kC, hkC⟩, hasg⟩ := w_any K P (hv b rfl)
    obtain ⟨kA, comp, k1, k2, k3, -⟩ := hT.2
    obtain ⟨kE, hkE, -⟩ := Vm.findClass_spec k3
    exact W.aast x1 x2 hA (fun q h => by cases h) (fun h => by cases h) k1 k2 rfl hkE ⟨h0, by rw [arrV_size]; exact hlt⟩ g1 (fun q h => by rw [h] at g3; cases g3) hkC (hasg _ k3) rfl rfl hd fin
end Arr

/-! CALLS -/
def lvT : Nat → List Tv → List (Nat × Tv)
  | _, [] => []
  | i, t :: vs => (i, t) :: lvT (bif cat2 t then i + 2 else i + 1) vs
theorem lvT_map : ∀ (av : List Tv) (i : Nat), lv_args i (av.map tv) = (lvT i av).map fun q => (q.1, tv q.2)
  | [], _ => rfl
  | t :: vs, i => by
    show (i, tv t) :: lv_args (if (tv t).category = 2 then i + 2 else i + 1) (vs.map tv) = (i, tv t) :: (lvT (bif cat2 t then i + 2 else i + 1) vs).map _
    have h1 := tv_cat t
    have e : (if (tv t).category = 2 then i + 2 else i + 1) = (bif cat2 t then i + 2 else i + 1) := by
      rw [← h1]
      by_cases q : (tv t).category = 2
      · rw [if_pos q, q]; rfl
      · rw [if_neg q]
        rcases lv_cat (tv t) with z | z
        · rw [z]; rfl
        · exact absurd z q
    rw [e, lvT_map vs]
def szT : List Tv → Nat
  | [] => 0
  | t :: vs => (bif cat2 t then 2 else 1) + szT vs
theorem szT_sl : ∀ av : List Tv, (lg_sl (av.map tv)).length = szT av
  | [] => rfl
  | t :: vs => by
    have ih := szT_sl vs
    have h1 := tv_cat t
    show (lg_sl (tv t :: vs.map tv)).length = _
    unfold szT
    rw [← ih, ← h1]
    rcases t with x | x | x
    · simp [tv, lg_sl, Value.category]; omega
    · rcases x with _ | x <;> simp [tv, va_rf, lg_sl, Value.category] <;> omega
    · simp [tv, lg_sl, Value.category]; omega
section Call
variable {l : Launch} {C : Ct} {mi : Nat} {M : Mi} {d pc : Nat} {ls : List (Nat × Tv)} {st : List Tv} {h h' : Hp} {r : Option Tv}
/-- a method's contract out of its walk -/
theorem mt_of {av : List Tv} (hp : plainName M.1.cls = true) (hsz : szT av ≤ M.2.2.1) (hz : Z l C mi M d 0 (lvT 0 av) [] h r h')
    (hb : ∀ H : Heap, HP C h H → True)
    (hret : ∀ (p : Program) (e : Env) (R : Room) (s : State) (m : MethodId) (args : Array Value) (below : List Frame) (meth : Method) (c : Code) (pc' : Nat) (H' : Heap) (locs' : List Loc) (lv' : Array Slot), p.tables.exec = Jvm.exec → c.code = M.2.1 → meth.sig.returnType = M.2.2.2.1 → meth.locks = false → decode M.2.1 pc' = .ok (M.2.2.2.2, 1) → HP C h' H' → va_S (fre C) s.heap H' locs' →
      W p l e R s m args below meth c H' locs' (hpN h' - hpN h) (hpS h' - hpS h) (MQ below (fun _ st oc t => oc = .returned (r.map tv) ∧ HP C h' t.heap ∧ va_F (fre C) st t) args s (hpN h' - hpN h) (hpS h' - hpS h) (fre C)) (F0 m pc' lv' ((r.map tv).toList))) : Mt l C mi M d av h r h' := by
  refine ⟨hz.1, hz.2.1, ?_⟩
  refine Met.ofW (cc := M.2.1) (maxL := M.2.2.1) (ret := M.2.2.2.1) hp rfl ?_
  intro p e s m args below meth c s₁ B hml hv
  obtain ⟨rfl, hP, hK⟩ := hv
  have hx := B.exec
  have hbb := B.bytes
  have hr := B.returns
  have hown : s.vm.findClass M.1.cls = some m.cls := findClass_of_methodNamed B.named
  have hlocks := B.notSynchronized
  have hname : meth.name = M.1.name := (name_of_methodNamed B.named B.method).1
  have hl := lv_entry (av.map tv) (n := M.2.2.1) (by rw [szT_sl]; exact hsz)
  rw [lg_entry_eq]
  generalize (lg_sl (av.map tv) ++ List.replicate (M.2.2.1 - (lg_sl (av.map tv)).length) Slot.unset).toArray = lv at hl ⊢
  have hL : LR lv M.2.2.1 (lvT 0 av) := by unfold LR; rw [← lvT_map]; exact hl
  have k := hz.2.2 p e { frames := d, cells := hpN h' - hpN h, slots := hpS h' - hpS h, locals := 36 * d } s m (av.map tv).toArray below meth c s.heap [] lv (MQ below (fun _ st oc t => oc = .returned (r.map tv) ∧ HP C h' t.heap ∧ va_F (fre C) st t) (av.map tv).toArray s (hpN h' - hpN h) (hpS h' - hpS h) (fre C)) (hpN h) (hpS h)
    ⟨hx, hbb, hml, hown, hK, Nat.le_refl _, Nat.le_refl _, fun q => hname.trans q⟩ hP va_S.rf (Nat.le_refl _) (by rw [hP.1]; exact hP.2.1) hL (Nat.le_refl _) (Nat.le_refl _) (by show hpN h' ≤ hpN h + (hpN h' - hpN h); have := hz.1; omega) (by show hpS h' ≤ hpS h + (hpS h' - hpS h); have := hz.2.1; omega)
    (fun pc' H' locs' lv' g1 g2 g3 => hret p e _ s m _ below meth c pc' H' locs' lv' hx hbb hr hlocks g1 g2 g3)
  rw [Nat.sub_self, Nat.sub_self] at k
  exact k
theorem mt_I {av : List Tv} {v : Int32} {ty : FieldType} (hm1 : M.2.2.2.1 = some ty) (hm2 : M.2.2.2.2 = .ireturn) (hn : narrow ty (.int v) = .int v) (hp : plainName M.1.cls = true) (hsz : szT av ≤ M.2.2.1) (hz : Z l C mi M d 0 (lvT 0 av) [] h (some (vi v)) h') : Mt l C mi M d av h (some (vi v)) h' :=
  mt_of hp hsz hz (fun _ _ => trivial) fun p e R s m args below meth c pc' H' locs' lv' hx hb hr hlocks hd P S => by
    rw [hm2] at hd
    exact W.zret (ty := ty) hx hb (hr.trans hm1) hn (fun t ht hW => ⟨rfl, by rw [ht]; exact P, S.F ht⟩) S.2.2 hd hlocks
theorem mt_L {av : List Tv} {v : Int64} (hm1 : M.2.2.2.1 = some .long) (hm2 : M.2.2.2.2 = .lreturn) (hp : plainName M.1.cls = true) (hsz : szT av ≤ M.2.2.1) (hz : Z l C mi M d 0 (lvT 0 av) [] h (some (vl v)) h') : Mt l C mi M d av h (some (vl v)) h' :=
  mt_of hp hsz hz (fun _ _ => trivial) fun p e R s m args below meth c pc' H' locs' lv' hx hb hr hlocks hd P S => by
    rw [hm2] at hd
    exact W.lret hx hb (hr.trans hm1) (fun t ht hW => ⟨rfl, by rw [ht]; exact P, S.F ht⟩) S.2.2 hd hlocks
theorem mt_V {av : List Tv} (hm1 : M.2.2.2.1 = none) (hm2 : M.2.2.2.2 = .return_) (hp : plainName M.1.cls = true) (hsz : szT av ≤ M.2.2.1) (hz : Z l C mi M d 0 (lvT 0 av) [] h none h') : Mt l C mi M d av h none h' :=
  mt_of hp hsz hz (fun _ _ => trivial) fun p e R s m args below meth c pc' H' locs' lv' hx hb hr hlocks hd P S => by
    rw [hm2] at hd
    exact W.vret hx hb (hr.trans hm1) (fun t ht hW => ⟨rfl, by rw [ht]; exact P, S.F ht⟩) S.2.2 hd hlocks
theorem mt_R {av : List Tv} {v : Option Nat} {ty : FieldType} (hm1 : M.2.2.2.1 = some ty) (hty : (∃ n, ty = .object n) ∨ ∃ t, ty = .array t) (hm2 : M.2.2.2.2 = .areturn) (hp : plainName M.1.cls = true) (hsz : szT av ≤ M.2.2.1) (hz : Z l C mi M d 0 (lvT 0 av) [] h (some (vr v)) h') : Mt l C mi M d av h (some (vr v)) h' :=
  mt_of hp hsz hz (fun _ _ => trivial) fun p e R s m args below meth c pc' H' locs' lv' hx hb hr hlocks hd P S => by
    rw [hm2] at hd
    exact W.aret hx hb (hr.trans hm1) hty (v := va_rf v) (by cases v with | none => exact Or.inl rfl | some a => exact Or.inr ⟨a, rfl⟩) (fun t ht hW => ⟨rfl, by rw [ht]; exact P, S.F ht⟩) S.2.2 hd hlocks
/-- behind a call -/
theorem z_ran {pc : Nat} {st0 : List Tv} {av : List Tv} {h1 : Hp} {r1 : Option Tv} {N : Mi} {d1 : Nat} (hM : Mt l C mi N d1 av h r1 h1) (k : Z l C mi M d (pc + 3) ls (r1.toList ++ st) h1 r h')
    (f : ∀ (p : Program) (e : Env) (R : Room) (s : State) (m : MethodId) (args : Array Value) (below : List Frame) (meth : Method) (c : Code) (H : Heap) (locs : List Loc) (cells slots : Nat) (lv : Array Slot), Cx C mi M d p R s m args meth c → HP C h H → va_S (fre C) s.heap H locs → LR lv M.2.2.1 ls → cells + (hpN h1 - hpN h) ≤ R.cells → slots + (hpS h1 - hpS h) ≤ R.slots → PreS s H (va_Pc (av.map tv) (fun U => HP C h U.heap ∧ KK C mi U)) (av.map tv) →
      va_Run p l e R s m args below meth c H locs cells slots (hpN h1 - hpN h) (hpS h1 - hpS h) (F0 m pc lv (st0.map tv)) (st.map tv) ((fun _ st oc t => oc = .returned (r1.map tv) ∧ HP C h1 t.heap ∧ va_F (fre C) st t) (av.map tv).toArray) (fre C)) : Z l C mi M d pc ls st0 h r h' := by
  have b1 := hM.1
  have b2 := hM.2.1
  have b3 := k.1
  have b4 := k.2.1
  refine ⟨by omega, by omega, fun p e R s m args below meth c H locs lv Q n0 s0 X P S z1 z2 L a1 a2 a3 a4 hend => ?_⟩
  have hrun := f p e R s m args below meth c H locs (hpN h - n0) (hpS h - s0) lv X P S L (by omega) (by omega) ⟨fun a U g mk q => ⟨q.1, q.2.1, q.2.2.calling⟩, fun U hU hW => ⟨rfl, by rw [hU]; exact P, X.2.2.2.2.1.warm hW hU S⟩⟩
  intro T hT XS
  obtain ⟨v, st₀, t, T', L', g0, X', hL', e1, e2, ⟨gv, gP, gz, gk⟩, step⟩ := hrun T hT XS
  cases gv
  rw [g0] at gz gk
  have e3 : (hpN h - n0) + (hpN h1 - hpN h) = hpN h1 - n0 := by omega
  have e4 : (hpS h - s0) + (hpS h1 - hpS h) = hpS h1 - s0 := by omega
  have kk := k.2.2 p e R s m args below meth c T'.heap (locs ++ L') lv Q n0 s0 X (by rw [e1]; exact gP) ⟨Nat.le_trans S.1 (by rw [e1]; exact gz), fun q h1 h2 => by rw [e1, gk q (Nat.lt_of_lt_of_le h1 S.1) h2]; exact S.2.1 q h1 h2, fun q hq => by
      rcases List.mem_append.mp hq with h | h
      · exact S.2.2 q h
      · exact hL' q h⟩ (Nat.le_trans z1 (by rw [e1]; exact gz)) z2 L (by omega) (by omega) a3 a4 hend
  rw [← e3, ← e4] at kk
  obtain ⟨t2, a5, b5⟩ := kk T' rfl X'
  refine ⟨t2, step t2 ?_, b5⟩
  have e5 : (r1.map tv).toList ++ st.map tv = (r1.toList ++ st).map tv := by cases r1 <;> rfl
  show Steps p.tables e below (T'.setTop { F0 m pc lv (st0.map tv) with pc := pc + 3, stack := (r1.map tv).toList ++ st.map tv }) t2
  rw [e5]
  exact a5
/-- what the tables say of a call's target -/
def cw_ok (N : Mi) (n : Nat) : Prop := Cond.code N.1 N.2.1 N.2.2.1 N.2.2.2.1 ∈ lw_w ∧ Cond.initialized N.1.cls ∈ lw_w ∧ (N.1.cls ≠ "java/lang/invoke/MethodHandle" ∧ N.1.cls ≠ "java/lang/invoke/VarHandle") ∧ (parseMethodDescriptor N.1.desc).map (fun d => d.parameters.length) = some n
theorem code_good (N : Mi) : goodWord (Cond.code N.1 N.2.1 N.2.2.1 N.2.2.2.1) = true := rfl
theorem w_B {p : Program} {R : Room} {s : State} {m : MethodId} {args : Array Value} {meth : Method} {c : Code} {N : Mi} {n idx d1 mc ms : Nat} (X : Cx C mi M d p R s m args meth c) (hw : cw_ok N n) (hR : d1 + 1 ≤ d ∧ N.2.2.1 ≤ 17) :
    (({ frames := d1, cells := mc, slots := ms, locals := 36 * d1 } : Room).frames + 1 ≤ R.frames ∧ 8 + (N.2.2.1 + 11) + ({ frames := d1, cells := mc, slots := ms, locals := 36 * d1 } : Room).locals ≤ R.locals ∧ (∀ w ∈ [Cond.code N.1 N.2.1 N.2.2.1 N.2.2.2.1], ∀ (a' : Array Value) (U : State), s.WarmedH U.vm → w.before a' U = true) ∧ Cond.code N.1 N.2.1 N.2.2.1 N.2.2.2.1 ∈ [Cond.code N.1 N.2.1 N.2.2.1 N.2.2.2.1]) ∧
    (Cond.code N.1 N.2.1 N.2.2.1 N.2.2.2.1).before args s = true ∧ (Cond.initialized N.1.cls).before args s = true ∧ (N.1.cls ≠ "java/lang/invoke/MethodHandle" ∧ N.1.cls ≠ "java/lang/invoke/VarHandle") ∧ (∀ sig, parseMethodDescriptor N.1.desc = some sig → n = sig.parameters.length) := by
  obtain ⟨x1, x2, x3, x4, K, x6, x7, x8⟩ := X
  obtain ⟨w1, w2, w3, w4⟩ := hw
  refine ⟨⟨by show d1 + 1 ≤ _; omega, by show 8 + _ + 36 * d1 ≤ _; omega, fun w hw' a' U hW => ?_, List.mem_cons_self⟩, K.1.use _ w1, K.1.use _ w2, w3, fun sig hs => ?_⟩
  · rw [List.mem_singleton.mp hw']
    exact word_at hW (good_of_word (code_good N)) (K.1.use (A := args) _ w1)
  · rw [hs] at w4
    exact (Option.some.inj w4).symm
theorem st_rev {av st st0 : List Tv} (hst : st0 = av.reverse ++ st) : st0.map tv = (av.map tv).reverse ++ st.map tv := by rw [hst, List.map_append, List.map_reverse]
theorem st_rev1 {av st st0 : List Tv} {b : Nat} (hst : st0 = (vr (some b) :: av).reverse ++ st) : st0.map tv = (av.map tv).reverse ++ .ref b :: st.map tv := by
  rw [hst, List.reverse_cons, List.append_assoc, List.map_append, List.map_reverse]; rfl
theorem st_room {st : List Tv} {m : MethodId} {pc : Nat} {lv : Array Slot} {st0 : List Value} (h : (st.map fun t => bif cat2 t then 2 else 1).sum ≤ 8) : 2 * (F0 m pc lv st0).monitorRoom + ((st.map tv).map fun v => v.category).sum ≤ 8 := by
  rw [st_cat]; show 2 * 0 + _ ≤ 8; omega
theorem cat_room {st : List Tv} (h : (st.map fun t => bif cat2 t then 2 else 1).sum ≤ 8) : ((st.map tv).map fun v => v.category).sum ≤ 8 := by rw [st_cat]; exact h
/-- static -/
theorem z_callS {N : Mi} {d1 idx : Nat} {av st0 : List Tv} {r1 : Option Tv} {h1 : Hp} (hM : Mt l C mi N d1 av h r1 h1) (hd : decode M.2.1 pc = .ok (.invokestatic idx, 3)) (hw : cw_ok N av.length) (hl : Cond.methodLink M.1.cls idx N.1 ∈ lw_w) (hs : Cond.static N.1 ∈ lw_w) (hR : d1 + 1 ≤ d ∧ N.2.2.1 ≤ 17) (hc : (st.map fun t => bif cat2 t then 2 else 1).sum ≤ 8) (hst : st0 = av.reverse ++ st)
    (k : Z l C mi M d (pc + 3) ls (r1.toList ++ st) h1 r h') : Z l C mi M d pc ls st0 h r h' :=
  z_ran hM k fun p e R s m args below meth c H locs cells slots lv X P S L b1 b2 hp => by
    have q := w_B (n := av.length) (idx := idx) (mc := hpN h1 - hpN h) (ms := hpS h1 - hpS h) X hw hR
    have K := X.2.2.2.2.1.1
    exact va_runS (Ts := lw_w) (As := av.map tv) ⟨X.1, X.2.1, X.2.2.1, X.2.2.2.1, K.use⟩ hM.2.2 (n := av.length) ⟨⟨rfl, rfl, q.1.1, q.1.2.1, q.1.2.2.1, q.1.2.2.2, q.2.1, q.2.2.1, q.2.2.2.1, q.2.2.2.2, K.use _ hl⟩, K.use _ hs⟩ hp rfl (List.length_map ..) L.1 (st_rev hst) (st_room hc) hd ⟨b1, b2⟩
theorem z_callSN {N : Mi} {d1 idx : Nat} {host : String} {av st0 : List Tv} {r1 : Option Tv} {h1 : Hp} (hM : Mt l C mi N d1 av h r1 h1) (hd : decode M.2.1 pc = .ok (.invokestatic idx, 3)) (hw : cw_ok N av.length) (hl : Cond.methodLinkNest M.1.cls idx N.1 host ∈ lw_w) (hs : Cond.static N.1 ∈ lw_w) (hR : d1 + 1 ≤ d ∧ N.2.2.1 ≤ 17) (hc : (st.map fun t => bif cat2 t then 2 else 1).sum ≤ 8) (hst : st0 = av.reverse ++ st)
    (k : Z l C mi M d (pc + 3) ls (r1.toList ++ st) h1 r h') : Z l C mi M d pc ls st0 h r h' :=
  z_ran hM k fun p e R s m args below meth c H locs cells slots lv X P S L b1 b2 hp => by
    have q := w_B (n := av.length) (idx := idx) (mc := hpN h1 - hpN h) (ms := hpS h1 - hpS h) X hw hR
    have K := X.2.2.2.2.1.1
    exact va_runSN (Ts := lw_w) (As := av.map tv) ⟨X.1, X.2.1, X.2.2.1, X.2.2.2.1, K.use⟩ hM.2.2 (n := av.length) ⟨⟨⟨rfl, rfl, q.1.1, q.1.2.1, q.1.2.2.1, q.1.2.2.2⟩, q.2.1, q.2.2.1, q.2.2.2.1, q.2.2.2.2, K.use _ hl⟩, K.use _ hs, trivial⟩ hp rfl (List.length_map ..) L.1 (st_rev hst) (st_room hc) hd ⟨b1, b2⟩
/-- virtual: the receiver is of the method's own class -/
theorem z_callV {N : Mi} {d1 idx b : Nat} {q0 : vw_C} {av st0 : List Tv} {r1 : Option Tv} {h1 : Hp} (hM : Mt l C mi N d1 (vr (some b) :: av) h r1 h1) (hd : decode M.2.1 pc = .ok (.invokevirtual idx, 3)) (hw : cw_ok N av.length) (hl : Cond.methodLink M.1.cls idx N.1 ∈ lw_w) (hi : Cond.instanceMethod N.1 ∈ lw_w) (hs : Cond.selects q0.1 N.1 N.1 ∈ lw_w) (hb : kcl[hpT h b]? = some q0) (hR : d1 + 1 ≤ d ∧ N.2.2.1 ≤ 17) (hc : (st.map fun t => bif cat2 t then 2 else 1).sum ≤ 8) (hst : st0 = (vr (some b) :: av).reverse ++ st)
    (k : Z l C mi M d (pc + 3) ls (r1.toList ++ st) h1 r h') : Z l C mi M d pc ls st0 h r h' :=
  z_ran hM k fun p e R s m args below meth c H locs cells slots lv X P S L b1 b2 hp => by
    have q := w_B (n := av.length) (idx := idx) (mc := hpN h1 - hpN h) (ms := hpS h1 - hpS h) X hw hR
    have K := X.2.2.2.2.1.1
    obtain ⟨q', g1, cell, g2, g3, g4, g5⟩ := P.obj rfl (kcl63 hb)
    cases hb.symm.trans g1
    exact va_runV (Ts := lw_w) (C := q0.1) (b := b) (As := av.map tv) ⟨X.1, X.2.1, X.2.2.1, X.2.2.2.1, K.use⟩ hM.2.2 (n := av.length) ⟨⟨rfl, rfl, q.1.1, q.1.2.1, q.1.2.2.1, q.1.2.2.2, q.2.1, q.2.2.1, q.2.2.2.1, q.2.2.2.2, K.use _ hl⟩, K.use _ hi, K.use _ hs⟩ ⟨hp.1, ⟨cell, g2, by rw [g4]; rfl, by rw [g3]; exact (X.2.2.2.2.1.2.1.1 _ _ hb).2.1⟩, hp.2⟩ rfl (List.length_map ..) L.1 (st_rev1 hst) (st_room hc) hd ⟨b1, b2⟩
/-- a constructor -/
theorem z_callI {N : Mi} {d1 idx b : Nat} {av st0 : List Tv} {h1 : Hp} (hM : Mt l C mi N d1 (vr (some b) :: av) h none h1) (hd : decode M.2.1 pc = .ok (.invokespecial idx, 3)) (hv : N.2.2.2.1 = none) (hw : cw_ok N av.length) (hl : Cond.methodLink M.1.cls idx N.1 ∈ lw_w) (hi : Cond.instanceMethod N.1 ∈ lw_w) (hn : N.1.name = "<init>") (hR : d1 + 1 ≤ d ∧ N.2.2.1 ≤ 17) (hc : (st.map fun t => bif cat2 t then 2 else 1).sum ≤ 8) (hst : st0 = (vr (some b) :: av).reverse ++ st)
    (k : Z l C mi M d (pc + 3) ls st h1 r h') : Z l C mi M d pc ls st0 h r h' :=
  z_ran hM (r1 := none) k fun p e R s m args below meth c H locs cells slots lv X P S L b1 b2 hp => by
    have q := w_B (n := av.length) (idx := idx) (mc := hpN h1 - hpN h) (ms := hpS h1 - hpS h) X hw hR
    rw [hv] at q
    have hm := hM.2.2
    rw [hv] at hm
    have K := X.2.2.2.2.1.1
    exact va_runI (Ts := lw_w) (b := b) (As := av.map tv) ⟨X.1, X.2.1, X.2.2.1, X.2.2.2.1, K.use⟩ hm (n := av.length) ⟨⟨rfl, rfl, q.1.1, q.1.2.1, q.1.2.2.1, q.1.2.2.2, q.2.1, q.2.2.1, q.2.2.2.1, q.2.2.2.2, K.use _ hl⟩, hn, K.use _ hi⟩ hp rfl (List.length_map ..) L.1 (st_rev1 hst) (st_room hc) hd ⟨b1, b2⟩
theorem z_callIN {N : Mi} {d1 idx b : Nat} {host : String} {av st0 : List Tv} {h1 : Hp} (hM : Mt l C mi N d1 (vr (some b) :: av) h none h1) (hd : decode M.2.1 pc = .ok (.invokespecial idx, 3)) (hv : N.2.2.2.1 = none) (hw : cw_ok N av.length) (hl : Cond.methodLinkNest M.1.cls idx N.1 host ∈ lw_w) (hi : Cond.instanceMethod N.1 ∈ lw_w) (hn : N.1.name = "<init>") (hR : d1 + 1 ≤ d ∧ N.2.2.1 ≤ 17) (hc : (st.map fun t => bif cat2 t then 2 else 1).sum ≤ 8) (hst : st0 = (vr (some b) :: av).reverse ++ st)
    (k : Z l C mi M d (pc + 3) ls st h1 r h') : Z l C mi M d pc ls st0 h r h' :=
  z_ran hM (r1 := none) k fun p e R s m args below meth c H locs cells slots lv X P S L b1 b2 hp => by
    have q := w_B (n := av.length) (idx := idx) (mc := hpN h1 - hpN h) (ms := hpS h1 - hpS h) X hw hR
    rw [hv] at q
    have hm := hM.2.2
    rw [hv] at hm
    have K := X.2.2.2.2.1.1
    exact va_runIN (Ts := lw_w) (b := b) (As := av.map tv) ⟨X.1, X.2.1, X.2.2.1, X.2.2.2.1, K.use⟩ hm (n := av.length) ⟨⟨⟨rfl, rfl, q.1.1, q.1.2.1, q.1.2.2.1, q.1.2.2.2⟩, q.2.1, q.2.2.1, q.2.2.2.1, q.2.2.2.2, K.use _ hl⟩, hn, K.use _ hi⟩ hp rfl (List.length_map ..) L.1 (st_rev1 hst) (st_room hc) hd ⟨b1, b2⟩
end Call

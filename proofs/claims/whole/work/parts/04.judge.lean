/-! WORDS OF THE TABLES, in any state of the run -/
def wmable : Cond → Bool
  | .arrayOver (.object _) => true
  | .methodLinkNest _ _ _ _ => true
  | .castable _ _ => true
  | .declares _ => true
  | .privateMethod _ => true
  | w => goodWord w
theorem wm_ok {w : Cond} {s U : State} (h : wmable w = true) (hW : s.WarmedH U.vm) (hZ : va_Nw w s) : va_Nw w U := by
  unfold wmable at h
  split at h
  · exact va_AO.moved hW.alike hZ
  · exact va_Nw.warmM hW hZ
  · exact va_Nw.warmC hW hZ
  · exact va_Nw.warmD hW hZ
  · exact va_tabs rfl (rfl : (s.setVm U.vm).vm = U.vm) (by rw [Cond.privateMethod_setVm hW.alike]; exact hZ)
  · exact word_at hW (good_of_word h) hZ
theorem wm_all : lw_w.all wmable = true := by decide +kernel
def wuse : Cond → Bool
  | .arrayOver (.object _) => true
  | .arrayClass _ => true
  | w => w.onTables
theorem wu_ok {w : Cond} {U : State} {A : Array Value} (h : wuse w = true) (hZ : va_Nw w U) : w.before A U = true := by
  unfold wuse at h
  split at h
  · exact va_AO.use hZ
  · exact hZ
  · exact va_Nw.use h hZ
theorem wu_of {w : Cond} {U : State} {A : Array Value} (h : wuse w = true) (hZ : w.before A U = true) : va_Nw w U := by
  unfold wuse at h
  split at h
  · exact hZ
  · exact hZ
  · exact va_Nw.of h hZ
theorem wu_all : lw_w.all wuse = true := by decide +kernel
def KW (U : State) : Prop := ∀ w ∈ lw_w, va_Nw w U
theorem KW.warm {s U : State} (hW : s.WarmedH U.vm) (h : KW s) : KW U := fun w hw => wm_ok (List.all_eq_true.mp wm_all w hw) hW (h w hw)
theorem KW.use {s : State} (h : KW s) {A : Array Value} : ∀ w ∈ lw_w, w.before A s = true := fun w hw => wu_ok (List.all_eq_true.mp wu_all w hw) (h w hw)
theorem KW.of {s : State} {A : Array Value} (h : ∀ w ∈ lw_w, w.before A s = true) : KW s := fun w hw => wu_of (List.all_eq_true.mp wu_all w hw) (h w hw)
def tys (ca : Nat → ClassId) : List (ClassId × FieldType) := [(ca 0, .int), (ca 1, .boolean), (ca 2, .object "VersionMaps$Chunk"), (ca 3, .object "VersionMaps$Page"), (ca 4, .object "VersionMaps$Root"), (ca 5, .object "VersionMaps$Leaf"), (ca 6, .object "java/lang/Object")]
def fre (C : Ct) : Nat → Prop := fun q => cB C ≤ q
/-- the empty array of ArrayList -/
def emA (a : Nat) (U : State) (H : Heap) : Prop := ∃ cell : Cell, H[a]? = some cell ∧ U.isArrayOf cell (.object "java/lang/Object") ∧ cell.slots.size.toInt32 = 0
/-- what is known of the tables: words, classes, arrays; the static that is read; the mirror of Object[]; the two arrays that were there before -/
def KK (C : Ct) (mi : Nat) (U : State) : Prop := KW U ∧ va_K (cD C) kcl (tys (cA C)) U ∧ va_Z "java/util/ArrayList" "DEFAULTCAPACITY_EMPTY_ELEMENTDATA" "[Ljava/lang/Object;" (.ref (cE C)) (fre C) U U.heap ∧ va_Mi "[Ljava/lang/Object;" mi U ∧ va_X (cS C) (cL C) (cX C) U U.heap ∧ emA (cE C) U U.heap ∧ cS C < cB C ∧ cE C < cB C
theorem KK.at {C : Ct} {mi : Nat} {s : State} {H : Heap} {locs : List Loc} (h : KK C mi s) (hS : va_S (fre C) s.heap H locs) : va_X (cS C) (cL C) (cX C) s H ∧ emA (cE C) s H := by
  obtain ⟨-, -, -, -, h5, ⟨cell, c1, c2, c3⟩, h7, h8⟩ := h
  refine ⟨h5.kept (hS.2.1 _ ?_ ?_), cell, ?_, c2, c3⟩
  · obtain ⟨scr, q, -⟩ := h5
    exact (Array.getElem?_eq_some_iff.mp q).1
  · exact fun q => absurd (show cB C ≤ cS C from q) (Nat.not_le.mpr h7)
  · rw [hS.2.1 _ (Array.getElem?_eq_some_iff.mp c1).1 (fun q => absurd (show cB C ≤ cE C from q) (Nat.not_le.mpr h8))]
    exact c1
theorem KK.warm {C : Ct} {mi : Nat} {s U : State} (h : KK C mi s) (hW : s.WarmedH U.vm) {H : Heap} {locs : List Loc} (hU : U.heap = H) (hS : va_S (fre C) s.heap H locs) : KK C mi U := by
  obtain ⟨g1, cell, c1, c2, c3⟩ := h.at hS
  obtain ⟨h1, h2, h3, h4, h5, h6, h7⟩ := h
  refine ⟨h1.warm hW, va_K.moved hW.alike h2, ?_, va_Mi.moved hW.alike h4, ?_, ⟨cell, by rw [hU]; exact c1, State.isArrayOf_alike hW.alike c2, c3⟩, h7⟩
  · exact va_Z.moved hW.alike (h3.kept (fun a ha hn => by rw [hU]; exact hS.2.1 a ha hn))
  · rw [hU]; exact va_X.moved hW.alike g1
theorem KK.calling {C : Ct} {mi : Nat} {U : State} {g : JFrame} {mk : MethodId} {a : Array Value} (h : KK C mi U) : KK C mi (U.calling g mk a) := by
  obtain ⟨h1, h2, h3, h4, h5, h6, h7⟩ := h
  have hv : U.vm = (U.calling g mk a).vm := rfl
  refine ⟨fun w hw => ?_, va_K.moved (u := U) (U := U.calling g mk a) (Vm.Alike.refl U.vm) h2, va_Z.moved (u := U) (U := U.calling g mk a) (Vm.Alike.refl U.vm) h3, va_Mi.moved (u := U) (U := U.calling g mk a) (Vm.Alike.refl U.vm) h4, va_X.moved (u := U) (U := U.calling g mk a) (Vm.Alike.refl U.vm) h5, h6, h7⟩
  have hw2 := List.all_eq_true.mp wu_all w hw
  have h5 := h1 w hw
  unfold wuse at hw2
  split at hw2
  · exact h5
  · exact h5
  · exact va_Nw.same hw2 hv h5
/-! METHODS: name, code, locals, type of the answer, instruction of return -/
abbrev Mi : Type := MethodName × ByteArray × Nat × Option FieldType × Instr
def Cx (C : Ct) (mi : Nat) (M : Mi) (d : Nat) (p : Program) (R : Room) (s : State) (m : MethodId) (args : Array Value) (meth : Method) (c : Code) : Prop :=
  p.tables.exec = Jvm.exec ∧ c.code = M.2.1 ∧ c.maxLocals = M.2.2.1 ∧ s.vm.findClass M.1.cls = some m.cls ∧ KK C mi s ∧ d ≤ R.frames ∧ 36 * d ≤ R.locals ∧ (M.1.name = "<init>" → meth.name = "<init>")
/-- from pc, with these locals and this stack, over this heap, the method comes to its return with r over h' -/
def Z (l : Launch) (C : Ct) (mi : Nat) (M : Mi) (d pc : Nat) (ls : List (Nat × Tv)) (st : List Tv) (h : Hp) (r : Option Tv) (h' : Hp) : Prop :=
  hpN h ≤ hpN h' ∧ hpS h ≤ hpS h' ∧ ∀ (p : Program) (e : Env) (R : Room) (s : State) (m : MethodId) (args : Array Value) (below : List Frame) (meth : Method) (c : Code) (H : Heap) (locs : List Loc) (lv : Array Slot) (Q : State → Prop) (n0 s0 : Nat),
    Cx C mi M d p R s m args meth c → HP C h H → va_S (fre C) s.heap H locs → s.heap.size ≤ H.size → cB C ≤ s.heap.size → LR lv M.2.2.1 ls → n0 ≤ hpN h → s0 ≤ hpS h → hpN h' ≤ n0 + R.cells → hpS h' ≤ s0 + R.slots →
    (∀ (pc' : Nat) (H' : Heap) (locs' : List Loc) (lv' : Array Slot), decode M.2.1 pc' = .ok (M.2.2.2.2, 1) → HP C h' H' → va_S (fre C) s.heap H' locs' → W p l e R s m args below meth c H' locs' (hpN h' - n0) (hpS h' - s0) Q (F0 m pc' lv' ((r.map tv).toList))) →
    W p l e R s m args below meth c H locs (hpN h - n0) (hpS h - s0) Q (F0 m pc lv (st.map tv))
/-- a method's contract: on these arguments over h it answers r over h' -/
def Mt (l : Launch) (C : Ct) (mi : Nat) (M : Mi) (d : Nat) (av : List Tv) (h : Hp) (r : Option Tv) (h' : Hp) : Prop :=
  hpN h ≤ hpN h' ∧ hpS h ≤ hpS h' ∧ Met l M.1 [.code M.1 M.2.1 M.2.2.1 M.2.2.2.1] { frames := d, cells := hpN h' - hpN h, slots := hpS h' - hpS h, locals := 36 * d } (va_Pc (av.map tv) (fun U => HP C h U.heap ∧ KK C mi U))
    (fun _ st oc t => oc = .returned (r.map tv) ∧ HP C h' t.heap ∧ va_F (fre C) st t) (hpN h' - hpN h) (hpS h' - hpS h) (fre C)
theorem lv_argsT : ∀ (av : List Tv) (i : Nat), lv_args i (av.map tv) = (lv_args i (av.map tv)) := fun _ _ => rfl
section Rules
variable {l : Launch} {C : Ct} {mi : Nat} {M : Mi} {d pc : Nat} {ls : List (Nat × Tv)} {st : List Tv} {h h' : Hp} {r : Option Tv}
/-- a step that leaves the heap -/
theorem z_of {pc2 : Nat} {ls2 : List (Nat × Tv)} {st2 : List Tv} (k : Z l C mi M d pc2 ls2 st2 h r h')
    (f : ∀ (p : Program) (e : Env) (R : Room) (s : State) (m : MethodId) (args : Array Value) (below : List Frame) (meth : Method) (c : Code) (H : Heap) (locs : List Loc) (cells slots : Nat) (lv : Array Slot) (Q : State → Prop), Cx C mi M d p R s m args meth c → HP C h H → va_S (fre C) s.heap H locs → LR lv M.2.2.1 ls →
      (∀ lv2 : Array Slot, LR lv2 M.2.2.1 ls2 → W p l e R s m args below meth c H locs cells slots Q (F0 m pc2 lv2 (st2.map tv))) → W p l e R s m args below meth c H locs cells slots Q (F0 m pc lv (st.map tv))) : Z l C mi M d pc ls st h r h' :=
  ⟨k.1, k.2.1, fun p e R s m args below meth c H locs lv Q n0 s0 X P S z1 z2 L a1 a2 a3 a4 hend => f p e R s m args below meth c H locs _ _ lv Q X P S L (fun lv2 L2 => k.2.2 p e R s m args below meth c H locs lv2 Q n0 s0 X P S z1 z2 L2 a1 a2 a3 a4 hend)⟩
theorem z_or {c : Prop} (a : c → Z l C mi M d pc ls st h r h') (b : ¬ c → Z l C mi M d pc ls st h r h') : Z l C mi M d pc ls st h r h' := (Classical.em c).elim a b
theorem z_ls {ls2 : List (Nat × Tv)} (ks : List Nat) (e : ks.filterMap (fun k => ls[k]?) = ls2) (k : Z l C mi M d pc ls2 st h r h') : Z l C mi M d pc ls st h r h' :=
  z_of k fun p e' R s m args below meth c H locs cells slots lv Q X P S L kk => kk lv (L.sub ks e)
theorem z_iconst {n : Int} {v : Int32} (hd : decode M.2.1 pc = .ok (.iconst n, 1)) (hv : Int32.ofInt n = v) (k : Z l C mi M d (pc + 1) ls (vi v :: st) h r h') : Z l C mi M d pc ls st h r h' :=
  z_of k fun p e R s m args below meth c H locs cells slots lv Q X P S L kk => lv_iconst X.1 X.2.1 hd hv (kk lv L)
theorem z_bipush {n : Int} {v : Int32} (hd : decode M.2.1 pc = .ok (.bipush n, 2)) (hv : (Int8.ofInt n).toInt32 = v) (k : Z l C mi M d (pc + 2) ls (vi v :: st) h r h') : Z l C mi M d pc ls st h r h' :=
  z_of k fun p e R s m args below meth c H locs cells slots lv Q X P S L kk => lv_bipush X.1 X.2.1 hd hv (kk lv L)
theorem z_sipush {n : Int} {v : Int32} (hd : decode M.2.1 pc = .ok (.sipush n, 3)) (hv : (Int16.ofInt n).toInt32 = v) (k : Z l C mi M d (pc + 3) ls (vi v :: st) h r h') : Z l C mi M d pc ls st h r h' :=
  z_of k fun p e R s m args below meth c H locs cells slots lv Q X P S L kk => lv_sipush X.1 X.2.1 hd hv (kk lv L)
theorem z_ldc {i : Nat} {v : Int32} (hd : decode M.2.1 pc = .ok (.ldc i, 2)) (hw : Cond.constant M.1.cls i v ∈ lw_w) (k : Z l C mi M d (pc + 2) ls (vi v :: st) h r h') : Z l C mi M d pc ls st h r h' :=
  z_of k fun p e R s m args below meth c H locs cells slots lv Q X P S L kk => lv_ldc X.1 X.2.1 X.2.2.2.1 (X.2.2.2.2.1.1.use _ hw) hd (kk lv L)
theorem z_ldc2 {i : Nat} {v : Int64} (hd : decode M.2.1 pc = .ok (.ldc2_w i, 3)) (hw : Cond.constantLong M.1.cls i v ∈ lw_w) (k : Z l C mi M d (pc + 3) ls (vl v :: st) h r h') : Z l C mi M d pc ls st h r h' :=
  z_of k fun p e R s m args below meth c H locs cells slots lv Q X P S L kk => lv_ldc2 X.1 X.2.1 X.2.2.2.1 (X.2.2.2.2.1.1.use _ hw) hd (kk lv L)
theorem z_iload_n {j : Fin 4} {i : Nat} {x : Int32} (q : Nat) (hd : decode M.2.1 pc = .ok (.iload_n j, 1)) (hi : (j : Nat) = i) (hq : ls[q]? = some (i, vi x)) (k : Z l C mi M d (pc + 1) ls (vi x :: st) h r h') : Z l C mi M d pc ls st h r h' :=
  z_of k fun p e R s m args below meth c H locs cells slots lv Q X P S L kk => lv_iload_n X.1 X.2.1 hd hi (L.at q hq) (kk lv L)
theorem z_iload {i : Nat} {x : Int32} (q : Nat) (hd : decode M.2.1 pc = .ok (.iload i, 2)) (hq : ls[q]? = some (i, vi x)) (k : Z l C mi M d (pc + 2) ls (vi x :: st) h r h') : Z l C mi M d pc ls st h r h' :=
  z_of k fun p e R s m args below meth c H locs cells slots lv Q X P S L kk => lv_iload X.1 X.2.1 hd (L.at q hq) (kk lv L)
theorem z_aload_n {j : Fin 4} {i : Nat} {x : Option Nat} (q : Nat) (hd : decode M.2.1 pc = .ok (.aload_n j, 1)) (hi : (j : Nat) = i) (hq : ls[q]? = some (i, vr x)) (k : Z l C mi M d (pc + 1) ls (vr x :: st) h r h') : Z l C mi M d pc ls st h r h' :=
  z_of k fun p e R s m args below meth c H locs cells slots lv Q X P S L kk => by
    cases x with
    | none => exact lv_aload_nN X.1 X.2.1 hd hi (L.at q hq) (kk lv L)
    | some a => exact lv_aload_n X.1 X.2.1 hd hi (L.at q hq) (kk lv L)
theorem z_aload {i : Nat} {x : Option Nat} (q : Nat) (hd : decode M.2.1 pc = .ok (.aload i, 2)) (hq : ls[q]? = some (i, vr x)) (k : Z l C mi M d (pc + 2) ls (vr x :: st) h r h') : Z l C mi M d pc ls st h r h' :=
  z_of k fun p e R s m args below meth c H locs cells slots lv Q X P S L kk => by
    cases x with
    | none => exact lv_aloadN X.1 X.2.1 hd (L.at q hq) (kk lv L)
    | some a => exact lv_aload X.1 X.2.1 hd (L.at q hq) (kk lv L)
theorem z_aconst_null (hd : decode M.2.1 pc = .ok (.aconst_null, 1)) (k : Z l C mi M d (pc + 1) ls (vr none :: st) h r h') : Z l C mi M d pc ls st h r h' :=
  z_of k fun p e R s m args below meth c H locs cells slots lv Q X P S L kk => lv_null X.1 X.2.1 hd (kk lv L)
theorem z_istore_n {j : Fin 4} {i : Nat} {x : Int32} {ls2 : List (Nat × Tv)} (hd : decode M.2.1 pc = .ok (.istore_n j, 1)) (hi : (j : Nat) = i) (hn : i < M.2.2.1) (hl : (i, vi x) :: lf i ls = ls2) (k : Z l C mi M d (pc + 1) ls2 st h r h') : Z l C mi M d pc ls (vi x :: st) h r h' :=
  z_of k fun p e R s m args below meth c H locs cells slots lv Q X P S L kk => lv_istore_n X.1 X.2.1 hd hi L hn rfl (fun lv2 L2 => kk lv2 (by rw [lf_map] at L2; rw [← hl]; exact L2))
theorem z_istore {i : Nat} {x : Int32} {ls2 : List (Nat × Tv)} (hd : decode M.2.1 pc = .ok (.istore i, 2)) (hn : i < M.2.2.1) (hl : (i, vi x) :: lf i ls = ls2) (k : Z l C mi M d (pc + 2) ls2 st h r h') : Z l C mi M d pc ls (vi x :: st) h r h' :=
  z_of k fun p e R s m args below meth c H locs cells slots lv Q X P S L kk => lv_istore X.1 X.2.1 hd L hn rfl (fun lv2 L2 => kk lv2 (by rw [lf_map] at L2; rw [← hl]; exact L2))
theorem z_astore_n {j : Fin 4} {i : Nat} {x : Option Nat} {ls2 : List (Nat × Tv)} (hd : decode M.2.1 pc = .ok (.astore_n j, 1)) (hi : (j : Nat) = i) (hn : i < M.2.2.1) (hl : (i, vr x) :: lf i ls = ls2) (k : Z l C mi M d (pc + 1) ls2 st h r h') : Z l C mi M d pc ls (vr x :: st) h r h' :=
  z_of k fun p e R s m args below meth c H locs cells slots lv Q X P S L kk => by
    cases x with
    | none => exact lv_astore_nN X.1 X.2.1 hd hi L hn rfl (fun lv2 L2 => kk lv2 (by rw [lf_map] at L2; rw [← hl]; exact L2))
    | some a => exact lv_astore_n X.1 X.2.1 hd hi L hn rfl (fun lv2 L2 => kk lv2 (by rw [lf_map] at L2; rw [← hl]; exact L2))
theorem z_astore {i : Nat} {x : Option Nat} {ls2 : List (Nat × Tv)} (hd : decode M.2.1 pc = .ok (.astore i, 2)) (hn : i < M.2.2.1) (hl : (i, vr x) :: lf i ls = ls2) (k : Z l C mi M d (pc + 2) ls2 st h r h') : Z l C mi M d pc ls (vr x :: st) h r h' :=
  z_of k fun p e R s m args below meth c H locs cells slots lv Q X P S L kk => by
    cases x with
    | none => exact lv_astoreN X.1 X.2.1 hd L hn rfl (fun lv2 L2 => kk lv2 (by rw [lf_map] at L2; rw [← hl]; exact L2))
    | some a => exact lv_astore X.1 X.2.1 hd L hn rfl (fun lv2 L2 => kk lv2 (by rw [lf_map] at L2; rw [← hl]; exact L2))
theorem z_iinc {i : Nat} {n : Int} {x v : Int32} {ls2 : List (Nat × Tv)} (q : Nat) (hd : decode M.2.1 pc = .ok (.iinc i n, 3)) (hq : ls[q]? = some (i, vi x)) (hv : x + Int32.ofInt n = v) (hn : i < M.2.2.1) (hl : (i, vi v) :: lf i ls = ls2) (k : Z l C mi M d (pc + 3) ls2 st h r h') : Z l C mi M d pc ls st h r h' :=
  z_of k fun p e R s m args below meth c H locs cells slots lv Q X P S L kk => lv_iinc (k := q) X.1 X.2.1 hd L (by rw [List.getElem?_map, hq]; rfl) hv hn rfl (fun lv2 L2 => kk lv2 (by rw [lf_map] at L2; rw [← hl]; exact L2))
end Rules

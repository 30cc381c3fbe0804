/-! compact: the sparsest chunk -/
def spz (st : Nat → Pg) (np : Nat → Nat) (vers : List Vt) (chs : List Nat) (lid p : Nat) : Nat → Option Nat × Nat
  | 0 => (none, p)
  | j + 1 =>
    let z := spz st np vers chs lid p j
    let id := (chs[j]?).getD 0
    if lo st np vers id = 0 then z else if id = lid then z else if 64 * lo st np vers id / np id < z.2 then (some j, 64 * lo st np vers id / np id) else z
theorem spz_s {st : Nat → Pg} {np : Nat → Nat} {vers : List Vt} {chs : List Nat} {lid p j id : Nat} (h : chs[j]? = some id) : spz st np vers chs lid p (j + 1) = if lo st np vers id = 0 then spz st np vers chs lid p j else if id = lid then spz st np vers chs lid p j else if 64 * lo st np vers id / np id < (spz st np vers chs lid p j).2 then (some j, 64 * lo st np vers id / np id) else spz st np vers chs lid p j := by
  show (if lo st np vers ((chs[j]?).getD 0) = 0 then _ else _) = _
  rw [h]; rfl
theorem spz_b {st : Nat → Pg} {np : Nat → Nat} {vers : List Vt} {chs : List Nat} {lid p : Nat} (hp : p ≤ 64) (j : Nat) : (spz st np vers chs lid p j).2 ≤ 64 ∧ ∀ i, (spz st np vers chs lid p j).1 = some i → i < j ∧ lo st np vers ((chs[i]?).getD 0) ≠ 0 := by
  induction j with
  | zero => exact ⟨hp, fun i hi => by cases hi⟩
  | succ j ih =>
    have keep : (spz st np vers chs lid p j).2 ≤ 64 ∧ ∀ i, (spz st np vers chs lid p j).1 = some i → i < j + 1 ∧ lo st np vers ((chs[i]?).getD 0) ≠ 0 := ⟨ih.1, fun i hi => ⟨by have := (ih.2 i hi).1; omega, (ih.2 i hi).2⟩⟩
    show (if lo st np vers ((chs[j]?).getD 0) = 0 then _ else _ : Option Nat × Nat).2 ≤ 64 ∧ ∀ i, (if lo st np vers ((chs[j]?).getD 0) = 0 then _ else _ : Option Nat × Nat).1 = some i → _
    by_cases c0 : lo st np vers ((chs[j]?).getD 0) = 0
    · rw [if_pos c0]; exact keep
    · rw [if_neg c0]
      by_cases c1 : (chs[j]?).getD 0 = lid
      · rw [if_pos c1]; exact keep
      · rw [if_neg c1]
        by_cases c2 : 64 * lo st np vers ((chs[j]?).getD 0) / np ((chs[j]?).getD 0) < (spz st np vers chs lid p j).2
        · rw [if_pos c2]
          exact ⟨by have := ih.1; show 64 * lo st np vers ((chs[j]?).getD 0) / np ((chs[j]?).getD 0) ≤ 64; omega, fun i hi => by cases hi; exact ⟨Nat.lt_succ_self _, c0⟩⟩
        · rw [if_neg c2]; exact keep
theorem meta_eq {h : Hp} {ca ka pa : Nat → Nat} {st : Nat → Pg} {fs np : Nat → Nat} {nxt id lm : Nat} (G : XG h ca ka pa st fs np nxt) (S : SW st fs np nxt) (h1 : 1 ≤ id) (h2 : id < nxt) (hl : lm ≠ 0 → vk np nxt lm ∧ kd st lm = 2) : some (pa (mkk np id)) = ck pa lm ↔ id = lm / 32 := by
  obtain ⟨v, k2, e⟩ := mkk_vk S h1 h2
  by_cases c : lm = 0
  · rw [c, ck_0]
    exact ⟨fun z => (by cases z), fun z => (by exfalso; omega)⟩
  · obtain ⟨v', k2'⟩ := hl c
    rw [ck_s c]
    constructor
    · intro z
      have := G.pa S v v' (Option.some.inj z)
      rw [← this]; exact e.symm
    · intro z
      rw [z, mkk_of S v' k2']
theorem x_sparse {e0 : Nat} {h : Hp} {x : Nat} {B : Nat → Nat} {va : List Nat} {ca ka pa : Nat → Nat} {rd base gen p : Nat} {s : Ab} (R : RX e0 h x B va ca ka pa rd s) (I : Ivt s base gen) (hp : p ≤ 64) : f_X_findSparsest x (nI p) h = some ((spz s.st s.np s.vers s.chs (lmk s.vers / 32) p s.chs.length).1.bind (fun i => (s.chs.map ca)[i]?), h) := by
  have i5 := I.2.2.2.2.2.1
  obtain ⟨il, al, tt, ha, htt, te, x4, ile, hlast⟩ := R.lat i5
  obtain ⟨r1, ⟨x1, x2, x3, x4', x5, x6⟩, NT, F, L, ⟨V, la⟩, h56, G, L8, n12⟩ := R
  obtain ⟨o1, o2, o3, o4, o5⟩ := V.2.2 il al tt ha htt
  have lm : tt.2.2 = lmk s.vers := by unfold lmk; rw [hlast]; rfl
  rw [lm] at o4
  have hl : lmk s.vers ≠ 0 → vk s.np s.nxt (lmk s.vers) ∧ kd s.st (lmk s.vers) = 2 := fun z => ⟨(I.bm z).1, (I.bm z).2.1⟩
  have S := I.1
  have h60 := L.2.2.2.2.2.1
  have lmp : (s.chs.map ca).length = s.chs.length := List.length_map _
  have sz := al_size L
  rw [lmp] at sz
  have key : l_X_findSparsest_7 x (none, nI p, (0 : Int32), h) = some ((spz s.st s.np s.vers s.chs (lmk s.vers / 32) p s.chs.length).1.bind (fun i => (s.chs.map ca)[i]?), h) := by
    refine lp_tr (b := fun z => b_X_findSparsest_7 x z.1 z.2.1 z.2.2.1 z.2.2.2) (fun j => ((spz s.st s.np s.vers s.chs (lmk s.vers / 32) p j).1.bind (fun i => (s.chs.map ca)[i]?), nI (spz s.st s.np s.vers s.chs (lmk s.vers / 32) p j).2, nI j, h)) s.chs.length _ (by omega) (fun j hj => ?_) ?_
    · obtain ⟨id, hid⟩ : ∃ id, s.chs[j]? = some id := ⟨_, List.getElem?_eq_getElem hj⟩
      obtain ⟨i1, i2⟩ := I.2.2.2.1.1 id (List.mem_of_getElem? hid)
      have hca : (s.chs.map ca)[j]? = some (ca id) := by rw [List.getElem?_map, hid]; rfl
      have gt := al_get L (i := j) (by omega)
      rw [hca] at gt
      have lv := x_live G S L8 i1 i2
      obtain ⟨K, g4, -⟩ := G id i1 i2
      have g4' : hpR h (ca id) 4 = some (pa (mkk s.np id)) := g4
      obtain ⟨n1, n2, n3⟩ := S.2.1 id i1 i2
      obtain ⟨k1, k2, k3, k4, k5, k6, k7, k8⟩ := K
      have lle : lo s.st s.np s.vers id ≤ s.np id := cn_le _ _
      have zb := (spz_b (st := s.st) (np := s.np) (vers := s.vers) (chs := s.chs) (lid := lmk s.vers / 32) hp j).1
      have me := meta_eq G S i1 i2 hl
      obtain ⟨z, hz⟩ : ∃ z, z = spz s.st s.np s.vers s.chs (lmk s.vers / 32) p j := ⟨_, rfl⟩
      have dv : nI 64 * nI (lo s.st s.np s.vers id) / nI (s.np id) = nI (64 * lo s.st s.np s.vers id / s.np id) := by rw [pk_mul]; exact pk_div (by omega) (by omega) (by omega)
      have dq : 64 * lo s.st s.np s.vers id / s.np id < 2 ^ 31 := Nat.lt_of_le_of_lt (Nat.div_le_self _ _) (by omega)
      rw [← hz] at zb
      show b_X_findSparsest_7 x ((spz s.st s.np s.vers s.chs (lmk s.vers / 32) p j).1.bind (fun i => (s.chs.map ca)[i]?)) (nI (spz s.st s.np s.vers s.chs (lmk s.vers / 32) p j).2) (nI j) h = some (.inl ((spz s.st s.np s.vers s.chs (lmk s.vers / 32) p (j + 1)).1.bind (fun i => (s.chs.map ca)[i]?), nI (spz s.st s.np s.vers s.chs (lmk s.vers / 32) p (j + 1)).2, nI (j + 1), h))
      rw [spz_s hid, ← hz]
      unfold b_X_findSparsest_7
      rw [gd_t (isK_of x1), dr_s x5, gd_t (isK_of L.1), cl_s sz, if_neg (nI_ge hj (by omega)), gd_t (isK_of x1), dr_s x5, gd_t (isK_of L.1), cl_s gt, gd_t (caB_s k1), gd_t (isK_of x1), dr_s rfl, gd_t (isK_of k1), cl_s lv, nI_s]
      by_cases c0 : lo s.st s.np s.vers id = 0
      · rw [if_pos c0, c0]
        exact if_pos rfl
      · rw [if_neg c0, if_neg (nI_ne0 (by omega) (by omega)), gd_t (isK_of k1), gd_t (isK_of x1), dr_s x4, gd_t (isK_of o1), g4', o4]
        by_cases c1 : id = lmk s.vers / 32
        · rw [if_pos c1, if_pos (me.mpr c1)]
        · rw [if_neg c1, if_neg (fun w => c1 (me.mp w)), dr_s k5, gd_t (isK_of k6), k7, show Int32.ofNat (s.np id) = nI (s.np id) from rfl, gd_t (by rw [decide_eq_false (nI_ne0 (by omega) (by omega))]; rfl), dv]
          by_cases c2 : 64 * lo s.st s.np s.vers id / s.np id < z.2
          · rw [if_pos c2, if_neg (nI_ge c2 (by omega))]
            have bj : ((some j : Option Nat).bind fun i => (s.chs.map ca)[i]?) = some (ca id) := hca
            show some (Sum.inl (some (ca id), nI (64 * lo s.st s.np s.vers id / s.np id), nI (j + 1), h)) = some (Sum.inl ((some j : Option Nat).bind (fun i => (s.chs.map ca)[i]?), nI (64 * lo s.st s.np s.vers id / s.np id), nI (j + 1), h))
            rw [bj]
          · rw [if_neg c2, if_pos (nI_le (by omega) dq)]
    · show b_X_findSparsest_7 x _ _ (nI s.chs.length) h = _
      unfold b_X_findSparsest_7
      rw [gd_t (isK_of x1), dr_s x5, gd_t (isK_of L.1), cl_s sz, if_pos (nI_le (Nat.le_refl _) (by omega))]
  unfold f_X_findSparsest
  rw [bd_s key]
theorem m_sparse {h : Hp} {y : Nat} {A pid pat : Nat → Nat} {s : Ab} {base gen p : Nat} (Q : RM h y A pid pat s) (I : Ivt s base gen) (hp : p ≤ 64) (mm : MM h A (fun i => lvb s.st s.vers (ky pid pat i))) : l_M_compact_42 y (nI (lmk s.vers / 32)) ((-1 : Int32), nI p, (0 : Int32), h) = some (fi (spz s.st s.np s.vers s.chs (lmk s.vers / 32) p s.chs.length).1, h) := by
  have S := I.1
  have M := Q.1
  have hv := I.inV Q
  obtain ⟨c1', c2', c3'⟩ := Q.2.2.2.1
  have lmb : lmk s.vers / 32 < 2 ^ 20 := by
    by_cases c : lmk s.vers = 0
    · rw [c]; decide
    · have := S.lt (I.bm c).1
      omega
  refine lp_tr (b := fun z => b_M_compact_42 y z.1 z.2.1 (nI (lmk s.vers / 32)) z.2.2.1 z.2.2.2) (fun j => (fi (spz s.st s.np s.vers s.chs (lmk s.vers / 32) p j).1, nI (spz s.st s.np s.vers s.chs (lmk s.vers / 32) p j).2, nI j, h)) s.chs.length _ (by omega) (fun j hj => ?_) ?_
  · obtain ⟨id, hid⟩ : ∃ id, s.chs[j]? = some id := ⟨_, List.getElem?_eq_getElem hj⟩
    obtain ⟨i1, i2⟩ := I.2.2.2.1.1 id (List.mem_of_getElem? hid)
    obtain ⟨e20, e21, e22, e23, e24⟩ := c3' j id hid
    have lv := m_liveOf (vr := fun _ => 0) (chs := s.chs) M Q.2.2.2.2.2.1 S (LvP.of S hv) e20 (by omega) i1 i2 mm
    obtain ⟨n1, n2, n3⟩ := S.2.1 id i1 i2
    have lle : lo s.st s.np s.vers id ≤ s.np id := cn_le _ _
    have sx := S.1
    have zb := (spz_b (st := s.st) (np := s.np) (vers := s.vers) (chs := s.chs) (lid := lmk s.vers / 32) hp j).1
    obtain ⟨z, hz⟩ : ∃ z, z = spz s.st s.np s.vers s.chs (lmk s.vers / 32) p j := ⟨_, rfl⟩
    have dv : nI 64 * nI (lo s.st s.np s.vers id) / nI (s.np id) = nI (64 * lo s.st s.np s.vers id / s.np id) := by rw [pk_mul]; exact pk_div (by omega) (by omega) (by omega)
    have dq : 64 * lo s.st s.np s.vers id / s.np id < 2 ^ 31 := Nat.lt_of_le_of_lt (Nat.div_le_self _ _) (by omega)
    rw [← hz] at zb
    show b_M_compact_42 y (fi (spz s.st s.np s.vers s.chs (lmk s.vers / 32) p j).1) (nI (spz s.st s.np s.vers s.chs (lmk s.vers / 32) p j).2) (nI (lmk s.vers / 32)) (nI j) h = some (.inl (fi (spz s.st s.np s.vers s.chs (lmk s.vers / 32) p (j + 1)).1, nI (spz s.st s.np s.vers s.chs (lmk s.vers / 32) p (j + 1)).2, nI (j + 1), h))
    rw [spz_s hid, ← hz]
    unfold b_M_compact_42
    rw [gd_t (isK_of M.1), c1', if_neg (nI_ge hj (by omega)), cl_s lv, gd_t (isK_of M.1), dr_s M.a23.1, gd_t (isK_of M.a23.2.1), gd_t (inb_n (by rw [M.a23.2.2.1]; omega) (by rw [M.a23.2.2.1]; decide)), nI_clamp (by omega), e23, gd_t (by rw [decide_eq_false (nI_ne0 (by omega) (by omega))]; rfl), nm_v, dv, nI_s]
    by_cases c0 : lo s.st s.np s.vers id = 0
    · rw [if_pos c0, c0]
      exact if_pos rfl
    · rw [if_neg c0, if_neg (nI_ne0 (by omega) (by omega)), dr_s M.a20.1, gd_t (isK_of M.a20.2.1), gd_t (inb_n (by rw [M.a20.2.2.1]; omega) (by rw [M.a20.2.2.1]; decide)), e20]
      by_cases c1 : id = lmk s.vers / 32
      · rw [if_pos c1, if_pos (by rw [c1])]
      · rw [if_neg c1, if_neg (fun w => c1 ((nI_eq (by omega) (by omega)).mp w))]
        by_cases c2 : 64 * lo s.st s.np s.vers id / s.np id < z.2
        · rw [if_pos c2, if_pos (nI_lt c2 (by omega))]
          rfl
        · rw [if_neg c2, if_neg (nI_nlt (by omega) dq)]
  · show b_M_compact_42 y _ _ (nI (lmk s.vers / 32)) (nI s.chs.length) h = _
    unfold b_M_compact_42
    rw [gd_t (isK_of M.1), c1', if_pos (nI_le (Nat.le_refl _) (by omega))]

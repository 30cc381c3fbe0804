/-! dead chunks, class -/
theorem Keep.I {w : Wl} {h h' : Hp} {a k κ : Nat} (K : Keep w h h') (ha : a < hpN h) (t : hpT h a = κ) (q : nF w κ k = true) : hpI h' a k = hpI h a k ∧ hpR h' a k = hpR h a k := K.2.2.2 a ha k (by rw [t]; exact nF_i q)
theorem Keep.J {w : Wl} {h h' : Hp} {a κ : Nat} (K : Keep w h h') (ha : a < hpN h) (t : hpT h a = κ) (q : nW w κ = true) (k : Nat) : hpI h' a k = hpI h a k ∧ hpR h' a k = hpR h a k := K.2.2.2 a ha k (by rw [t]; exact nW_i q k)
theorem XO.k {w : Wl} {h h' : Hp} {x p F lc vs : Nat} (X : XO h x p F lc vs) (K : Keep w h h') (q : (nF w 0 0 && (nF w 0 1 && (nF w 0 2 && nF w 0 3))) = true) : XO h' x p F lc vs := by
  simp only [Bool.and_eq_true] at q
  obtain ⟨x1, x2, x3, x4, x5, x6⟩ := X
  exact ⟨by rw [(K.2.2.1 x x2).1]; exact x1, Nat.lt_of_lt_of_le x2 K.1, by rw [(K.I x2 x1 q.1).2]; exact x3, by rw [(K.I x2 x1 q.2.1).2]; exact x4, by rw [(K.I x2 x1 q.2.2.1).2]; exact x5, by rw [(K.I x2 x1 q.2.2.2).2]; exact x6⟩
theorem FO.k {w : Wl} {h h' : Hp} {F c0 c1 c2 c3 c4 : Nat} (O : FO h F c0 c1 c2 c3 c4) (K : Keep w h h') (q : (nF w 1 0 && (nF w 1 1 && (nF w 1 2 && (nF w 1 3 && nF w 1 4)))) = true) : FO h' F c0 c1 c2 c3 c4 := by
  simp only [Bool.and_eq_true] at q
  obtain ⟨o1, o2, ⟨p0, p1, p2, p3⟩, ⟨p4, p5, p6, p7⟩, ⟨p8, p9, p10, p11⟩, ⟨p12, p13, p14, p15⟩, ⟨p16, p17, p18, p19⟩⟩ := O
  have t := K.2.2.1
  have l := K.1
  refine ⟨by rw [(t _ o2).1]; exact o1, by omega, ⟨?_, by rw [(t _ p3).1]; exact p1, by rw [(t _ p3).2]; exact p2, by omega⟩, ⟨?_, by rw [(t _ p7).1]; exact p5, by rw [(t _ p7).2]; exact p6, by omega⟩, ⟨?_, by rw [(t _ p11).1]; exact p9, by rw [(t _ p11).2]; exact p10, by omega⟩, ⟨?_, by rw [(t _ p15).1]; exact p13, by rw [(t _ p15).2]; exact p14, by omega⟩, ⟨?_, by rw [(t _ p19).1]; exact p17, by rw [(t _ p19).2]; exact p18, by omega⟩⟩
  · rw [(K.I o2 o1 q.1).2]; exact p0
  · rw [(K.I o2 o1 q.2.1).2]; exact p4
  · rw [(K.I o2 o1 q.2.2.1).2]; exact p8
  · rw [(K.I o2 o1 q.2.2.2.1).2]; exact p12
  · rw [(K.I o2 o1 q.2.2.2.2).2]; exact p16
theorem FR.k {w : Wl} {h h' : Hp} {F c0 c1 c2 c3 c4 : Nat} {cc cs : Nat → Option Nat} {free pnd : Nat → Bool} {pend : List Nat} (R : FR h F c0 c1 c2 c3 c4 cc cs free pnd pend) (K : Keep w h h') (q : (nW w 1 && (nW w 68 && (nW w 69 && (nW w 70 && (nW w 71 && nW w 72))))) = true) : FR h' F c0 c1 c2 c3 c4 cc cs free pnd pend := by
  simp only [Bool.and_eq_true] at q
  obtain ⟨O, r1, r2, r3, r4, r5, r6, r7⟩ := R
  have O2 := O
  obtain ⟨o1, o2, ⟨p0, p1, p2, p3⟩, ⟨p4, p5, p6, p7⟩, ⟨p8, p9, p10, p11⟩, ⟨p12, p13, p14, p15⟩, ⟨p16, p17, p18, p19⟩⟩ := O
  have l := K.1
  have t := K.2.2.1
  refine ⟨⟨by rw [(t _ o2).1]; exact o1, by omega, ⟨?_, by rw [(t _ p3).1]; exact p1, by rw [(t _ p3).2]; exact p2, by omega⟩, ⟨?_, by rw [(t _ p7).1]; exact p5, by rw [(t _ p7).2]; exact p6, by omega⟩, ⟨?_, by rw [(t _ p11).1]; exact p9, by rw [(t _ p11).2]; exact p10, by omega⟩, ⟨?_, by rw [(t _ p15).1]; exact p13, by rw [(t _ p15).2]; exact p14, by omega⟩, ⟨?_, by rw [(t _ p19).1]; exact p17, by rw [(t _ p19).2]; exact p18, by omega⟩⟩, fun b hb => ?_, fun b hb => ?_, fun b hb => ?_, fun b hb => ?_, ?_, r6, fun i b hi => ?_⟩
  · rw [(K.J o2 o1 q.1 0).2]; exact p0
  · rw [(K.J o2 o1 q.1 1).2]; exact p4
  · rw [(K.J o2 o1 q.1 2).2]; exact p8
  · rw [(K.J o2 o1 q.1 3).2]; exact p12
  · rw [(K.J o2 o1 q.1 4).2]; exact p16
  · rw [(K.J p3 p1 q.2.1 b).2]; exact r1 b hb
  · rw [(K.J p7 p5 q.2.2.1 b).2]; exact r2 b hb
  · rw [(K.J p11 p9 q.2.2.2.1 b).1]; exact r3 b hb
  · rw [(K.J p15 p13 q.2.2.2.2.1 b).1]; exact r4 b hb
  · rw [(K.J o2 o1 q.1 5).1]; exact r5
  · rw [(K.J p19 p17 q.2.2.2.2.2 i).1]; exact r7 i b hi
theorem XM.k {w : Wl} {h h' : Hp} {ca ka pa : Nat → Nat} {st : Nat → Pg} {fs np : Nat → Nat} {nxt : Nat} {mr : Nat → Nat} (G : XG h ca ka pa st fs np nxt) (Q : XM h pa np nxt mr) (K : Keep w h h') (q : (nF w 3 2 && (nF w 4 2 && nF w 6 2)) = true) : XM h' pa np nxt mr := fun k hk => by
  simp only [Bool.and_eq_true] at q
  have g1 := (G.po hk).1
  rcases (G.po hk).kk with g | g | g
  · rw [(K.I g1 g q.1).1]; exact Q k hk
  · rw [(K.I g1 g q.2.1).1]; exact Q k hk
  · rw [(K.I g1 g q.2.2).1]; exact Q k hk
theorem XL.k {w : Wl} {h h' : Hp} {x p F lc vs : Nat} {ca ka pa : Nat → Nat} {st : Nat → Pg} {fs np : Nat → Nat} {nxt rd : Nat} {vers : List Vt} (X : XO h x p F lc vs) (G : XG h ca ka pa st fs np nxt) (L : XL h x pa np nxt st vers rd) (K : Keep w h h') (q : (nF w 0 7 && (nF w 3 2 && (nF w 4 2 && nF w 6 2))) = true) : XL h' x pa np nxt st vers rd := by
  obtain ⟨l1, l2, mr, l3, l4⟩ := L
  have q1 := q
  rw [Bool.and_eq_true] at q1
  exact ⟨l1, by rw [(K.I X.2.1 X.1 q1.1).1]; exact l2, mr, l3.k G K q1.2, l4⟩
/-- lists and versions are kept but for some addresses -/
def Ov (L : List Nat) (h h' : Hp) : Prop := hpN h ≤ hpN h' ∧ ∀ a, a < hpN h → hpT h' a = hpT h a ∧ hpL h' a = hpL h a ∧ (a ∉ L → ∀ k, (hpT h a = 7 ∨ hpT h a = 9 ∨ hpT h a = 64 ∨ hpT h a = 73 ∨ hpT h a = 74) → hpI h' a k = hpI h a k ∧ hpR h' a k = hpR h a k)
theorem Ov.s {L : List Nat} {h h' : Hp} (s : Sv h h') : Ov L h h' := ⟨s.1, fun a ha => ⟨(s.2 a ha).1, (s.2 a ha).2.1, fun _ => (s.2 a ha).2.2⟩⟩
theorem Ov.o {L : List Nat} {h h' : Hp} (s : Only L h h') : Ov L h h' := ⟨s.1, fun a ha => ⟨(s.2.2.1 a ha).1, (s.2.2.1 a ha).2, fun n k _ => by rw [(s.2.2.2 a ha n).1, (s.2.2.2 a ha n).2]; exact ⟨rfl, rfl⟩⟩⟩
theorem Ov.trans {L : List Nat} {h h1 h2 : Hp} (a : Ov L h h1) (b : Ov L h1 h2) : Ov L h h2 := by
  refine ⟨Nat.le_trans a.1 b.1, fun x hx => ?_⟩
  obtain ⟨p1, p2, p3⟩ := a.2 x hx
  obtain ⟨q1, q2, q3⟩ := b.2 x (Nat.lt_of_lt_of_le hx a.1)
  refine ⟨q1.trans p1, q2.trans p2, fun n k hk => ?_⟩
  obtain ⟨u1, u2⟩ := p3 n k hk
  obtain ⟨w1, w2⟩ := q3 n k (by rw [p1]; exact hk)
  exact ⟨w1.trans u1, w2.trans u2⟩
theorem AL.exO {L : List Nat} {e0 cs e : Nat} {h h' : Hp} {l : List Nat} (H : AL e0 h cs e l) (he : e0 < hpN h) (s : Ov L h h') (n1 : cs ∉ L) (n2 : e ∉ L) : AL e0 h' cs e l := by
  have en : e < hpN h := by
    rcases H.2.2.2.2.2.2 with q | q
    · rw [q.1]; exact he
    · exact q.2.1
  obtain ⟨s1, s2⟩ := s
  obtain ⟨c1, c2, c3⟩ := s2 cs H.2.1
  obtain ⟨d1, d2, d3⟩ := s2 e en
  refine H.keep s1 (fun b hb => ⟨(s2 b hb).1, (s2 b hb).2.1⟩) (c3 n1 1 (Or.inr (Or.inl H.1))).1 (c3 n1 0 (Or.inr (Or.inl H.1))).2 (fun _ i _ => (d3 n2 i (Or.inr (Or.inr H.ek))).2) (fun q => ⟨by rw [d1]; exact q, d2⟩)
theorem VO.exO {L : List Nat} {h h' : Hp} {a : Nat} {t : Vt} {pk : Nat → Option Nat} (O : VO h a t pk) (s : Ov L h h') (n : a ∉ L) : VO h' a t pk := by
  obtain ⟨o1, o2, o3, o4, o5⟩ := O
  obtain ⟨c1, c2, c3⟩ := s.2 a o2
  have g := fun k => c3 n k (Or.inl o1)
  exact ⟨by rw [c1]; exact o1, Nat.lt_of_lt_of_le o2 s.1, by rw [(g 0).1]; exact o3, by rw [(g 1).2]; exact o4, by rw [(g 2).1]; exact o5⟩
theorem XV.exO {L : List Nat} {e0 vs ev : Nat} {h h' : Hp} {va : List Nat} {vers : List Vt} {pk : Nat → Option Nat} (V : XV e0 h vs ev va vers pk) (he : e0 < hpN h) (s : Ov L h h') (n1 : vs ∉ L) (n2 : ev ∉ L) (n3 : ∀ a ∈ L, hpT h a ≠ 7) : XV e0 h' vs ev va vers pk :=
  ⟨V.1.exO he s n1 n2, V.2.1, fun i a t ha ht => (V.2.2 i a t ha ht).exO s (fun z => n3 a z (V.2.2 i a t ha ht).1)⟩
theorem drop_s {T : Type} {l : List T} {i : Nat} {a : T} (h : l[i]? = some a) : l.drop i = a :: l.drop (i + 1) := by
  obtain ⟨hi, e⟩ := List.getElem?_eq_some_iff.mp h
  rw [List.drop_eq_getElem_cons hi, e]
theorem x_free {e0 : Nat} {h : Hp} {x p F lc vs ec c0 c1 c2 c3 c4 rd : Nat} {ca ka pa : Nat → Nat} {st : Nat → Pg} {fs np : Nat → Nat} {nxt : Nat} {vers : List Vt} {chs pend : List Nat} {cc cs : Nat → Option Nat} {free pnd : Nat → Bool} (X : XO h x p F lc vs) (H : AL e0 h lc ec (chs.map ca)) (he : e0 < hpN h) (R : FR h F c0 c1 c2 c3 c4 cc cs free pnd pend) (G : XG h ca ka pa st fs np nxt) (S : SW st fs np nxt) (L : XL h x pa np nxt st vers rd) (hch : ∀ id ∈ chs, 1 ≤ id ∧ id < nxt) :
    ∃ h', f_X_freeDeadChunks x h = some h' ∧ AL e0 h' lc ec ((chs.filter fun id => !dead st np vers id).map ca) ∧ FR h' F c0 c1 c2 c3 c4 cc cs (frd (dead st np vers) fs np chs free) pnd pend ∧ Ov [lc, ec] h h' ∧ hpN h' = hpN h ∧ hpS h' = hpS h := by
  have h60 : (chs.map ca).length ≤ 60 := H.2.2.2.2.2.1
  have lm : (chs.map ca).length = chs.length := List.length_map _
  have key : ∃ r, l_X_freeDeadChunks_10 x (nI (chs.map ca).length - 1, h) = some r ∧ (AL e0 r lc ec ((chs.filter fun id => !dead st np vers id).map ca) ∧ FR r F c0 c1 c2 c3 c4 cc cs (frd (dead st np vers) fs np chs free) pnd pend ∧ Ov [lc, ec] h r ∧ hpN r = hpN h ∧ hpS r = hpS h) := by
    refine lp_up (b := fun s => b_X_freeDeadChunks_10 x s.1 s.2) (fun j s => s.1 = nI (chs.length - j) - 1 ∧ AL e0 s.2 lc ec ((chs.map ca).take (chs.length - j) ++ ((chs.drop (chs.length - j)).filter fun id => !dead st np vers id).map ca) ∧ FR s.2 F c0 c1 c2 c3 c4 cc cs (frd (dead st np vers) fs np (chs.drop (chs.length - j)) free) pnd pend ∧ Keep W_X_freeDeadChunks h s.2 ∧ Ov [lc, ec] h s.2 ∧ hpN s.2 = hpN h ∧ hpS s.2 = hpS h) _ chs.length (by omega) ⟨by rw [lm]; rfl, ?_, ?_, Keep.refl _ _, Ov.s (Sv.refl _), rfl, rfl⟩ (fun j s hj hs => Or.inl ?_) (fun s hs => ⟨s.2, ?_, ?_, ?_, hs.2.2.2.2⟩)
    · dsimp only
      rw [Nat.sub_zero, List.drop_length, ← lm, List.take_length]
      simpa using H
    · dsimp only
      rw [Nat.sub_zero, List.drop_length, frd_nil]; exact R
    · obtain ⟨a, r⟩ := s
      obtain ⟨b1, b2, b3, b4, b5, b6, b7⟩ := hs
      dsimp only at b1 b2 b3 b4 b5 b6 b7
      obtain ⟨i, hi⟩ : ∃ i, chs.length - j = i + 1 := ⟨chs.length - j - 1, by omega⟩
      rw [hi] at b1 b2 b3
      rw [nI_pred] at b1
      subst b1
      have hi2 : chs.length - (j + 1) = i := by omega
      obtain ⟨id, hid⟩ : ∃ id, chs[i]? = some id := ⟨_, List.getElem?_eq_getElem (by omega)⟩
      obtain ⟨i1, i2⟩ := hch id (List.mem_of_getElem? hid)
      have hca : (chs.map ca)[i]? = some (ca id) := by rw [List.getElem?_map, hid]; rfl
      have Xr := X.k b4 (by decide)
      have Gr := G.ext (Sx.k b4 (by decide))
      have Lr := L.k X G b4 (by decide)
      have lv := x_live Gr S Lr i1 i2
      have hil : i < ((chs.map ca).take (i + 1) ++ ((chs.drop (i + 1)).filter fun id => !dead st np vers id).map ca).length := by rw [List.length_append, len_s (by omega)]; omega
      have gt := al_get b2 hil
      rw [at_s hca] at gt
      obtain ⟨kk, -, -⟩ := Gr id i1 i2
      obtain ⟨n1, n2, n3⟩ := S.2.1 id i1 i2
      have lolt : lo st np vers id ≤ np id := cn_le _ _
      obtain ⟨x1, x2, x3, x4, x5, x6⟩ := Xr
      rw [hi2]
      by_cases c : lo st np vers id = 0
      · have dt : dead st np vers id = true := decide_eq_true c
        rw [c] at lv
        obtain ⟨g, f1, f2, f3, f4⟩ := x_release b3 kk n3
        have Kr := fr_F_release (C := cT) (mi := 0) f1
        have b2g := b2.ext (by have := b4.1; omega) (Sv.k Kr (by decide))
        obtain ⟨r', g1, g2, g3, g4, g5⟩ := al_remove b2g hil
        rw [at_s hca] at g1
        have Kr2 := fr_A_remove (C := cT) (mi := 0) g1
        have xg : XO g x p F lc vs := XO.k (w := W_F_release) ⟨x1, x2, x3, x4, x5, x6⟩ Kr (by decide)
        have eb : b_X_freeDeadChunks_10 x (nI i) r = some (.inl (nI i - 1, r')) := by
          unfold b_X_freeDeadChunks_10
          simp (disch := omega) only [gd_T, dr_S, nm_v, cl_S, cv_S, bd_S, lk_L, lk_R, zbw_b, isK_e, isPg_3, isPg_4, isPg_6, asV_n, beq_self_eq_true, inb_N, inb_0, le_T, le_F, lt_T, lt_F, eq_F, le_0T, lt_0F, le_0F, eq_0F, nI_1, nI_add, pk_mul, nI_clamp, cl_0, if_true, if_false, of_nI, T_wI, L_wI, R_wI, N_wI, S_wI, T_wR, L_wR, I_wR, N_wR, S_wR, I_same, R_same, I_wIn, I_wIk, R_wRn, R_wRk, T_nwo, T_nwn, L_nwo, L_nwn, I_nwo, I_nwn, R_nwo, R_nwn, N_nw, S_nw, nar_1, nar_0, nar_01, b01_t0, b01_f0, b01_t1, b01_f1, ne_sn, eq_sn, sn_inj, x1, x5, b2.1, gt, caB_s kk.1, kk.1, lv, nz0, x4, b3.1.1, f1, xg.1, xg.2.2.2.2.1, b2g.1, g1, xm1]
        refine ⟨(nI i - 1, r'), eb, by rfl, ?_, ?_, b4.trans (kb_X_freeDeadChunks_10 (C := cT) (mi := 0) eb), (b5.trans (Ov.s (Sv.k Kr (by decide)))).trans (Ov.o g3), (g4.trans f3).trans b6, (g5.trans f4).trans b7⟩
        · rw [er_s hca] at g2
          rw [drop_s hid, List.filter_cons_of_neg (by rw [dt]; decide)]
          exact g2
        · rw [drop_s hid, frd_ct dt]
          exact f2.k Kr2 (by decide)
      · have df : dead st np vers id = false := decide_eq_false c
        have eb : b_X_freeDeadChunks_10 x (nI i) r = some (.inl (nI i - 1, r)) := by
          unfold b_X_freeDeadChunks_10
          simp (disch := omega) only [gd_T, dr_S, nm_v, cl_S, cv_S, bd_S, lk_L, lk_R, zbw_b, isK_e, isPg_3, isPg_4, isPg_6, asV_n, beq_self_eq_true, inb_N, inb_0, le_T, le_F, lt_T, lt_F, eq_F, le_0T, lt_0F, le_0F, eq_0F, nI_1, nI_add, pk_mul, nI_clamp, cl_0, if_true, if_false, of_nI, T_wI, L_wI, R_wI, N_wI, S_wI, T_wR, L_wR, I_wR, N_wR, S_wR, I_same, R_same, I_wIn, I_wIk, R_wRn, R_wRk, T_nwo, T_nwn, L_nwo, L_nwn, I_nwo, I_nwn, R_nwo, R_nwn, N_nw, S_nw, nar_1, nar_0, nar_01, b01_t0, b01_f0, b01_t1, b01_f1, ne_sn, eq_sn, sn_inj, x1, x5, b2.1, gt, caB_s kk.1, kk.1, lv, xm1]
        refine ⟨(nI i - 1, r), eb, by rfl, ?_, ?_, b4, b5, b6, b7⟩
        · rw [drop_s hid, List.filter_cons_of_pos (by rw [df]; rfl), List.map_cons, ← mid_s hca]
          exact b2
        · rw [drop_s hid, frd_cf df]; exact b3
    · obtain ⟨a, r⟩ := s
      obtain ⟨b1, -⟩ := hs
      dsimp only at b1
      rw [Nat.sub_self] at b1
      subst b1
      show b_X_freeDeadChunks_10 x (nI 0 - 1) r = _
      unfold b_X_freeDeadChunks_10
      rw [if_pos (by decide)]
    · have := hs.2.1
      rw [Nat.sub_self, List.take_zero, List.nil_append, List.drop_zero] at this
      exact this
    · have := hs.2.2.1
      rw [Nat.sub_self, List.drop_zero] at this
      exact this
  obtain ⟨r, e, q⟩ := key
  refine ⟨r, ?_, q⟩
  have sz := al_size H
  unfold f_X_freeDeadChunks
  rw [gd_t (isK_of X.1), dr_s X.2.2.2.2.1, gd_t (isK_of H.1), cl_s sz, bd_s e]
def tot (f : Nat → Nat) : List Nat → Nat
  | [] => 0
  | a :: l => f a + tot f l
theorem tot_app (f : Nat → Nat) (l : List Nat) (a : Nat) : tot f (l ++ [a]) = tot f l + f a := by
  induction l with
  | nil => show f a + 0 = 0 + f a; omega
  | cons b l ih => show f b + tot f (l ++ [a]) = f b + tot f l + f a; rw [ih]; omega
theorem x_allLive {e0 : Nat} {h : Hp} {x p F lc vs ec rd : Nat} {ca ka pa : Nat → Nat} {st : Nat → Pg} {fs np : Nat → Nat} {nxt : Nat} {vers : List Vt} {chs : List Nat} (X : XO h x p F lc vs) (H : AL e0 h lc ec (chs.map ca)) (G : XG h ca ka pa st fs np nxt) (S : SW st fs np nxt) (L : XL h x pa np nxt st vers rd) (hch : ∀ id ∈ chs, 1 ≤ id ∧ id < nxt) : f_X_allLivePages x h = some (nI (tot (lo st np vers) chs), h) := by
  have h60 : (chs.map ca).length ≤ 60 := H.2.2.2.2.2.1
  have lm : (chs.map ca).length = chs.length := List.length_map _
  have sz := al_size H
  rw [lm] at sz
  obtain ⟨x1, x2, x3, x4, x5, x6⟩ := X
  have key : l_X_allLivePages_4 x ((0 : Int32), (0 : Int32), h) = some (nI (tot (lo st np vers) (chs.take chs.length)), h) := by
    refine lp_tr (b := fun s => b_X_allLivePages_4 x s.1 s.2.1 s.2.2) (fun j => (nI (tot (lo st np vers) (chs.take j)), nI j, h)) chs.length _ (by omega) (fun j hj => ?_) ?_
    · obtain ⟨id, hid⟩ : ∃ id, chs[j]? = some id := ⟨_, List.getElem?_eq_getElem hj⟩
      obtain ⟨i1, i2⟩ := hch id (List.mem_of_getElem? hid)
      have hca : (chs.map ca)[j]? = some (ca id) := by rw [List.getElem?_map, hid]; rfl
      have gt := al_get H (i := j) (by omega)
      rw [hca] at gt
      have lv := x_live G S L i1 i2
      have kk := (G id i1 i2).1.1
      show b_X_allLivePages_4 x (nI (tot (lo st np vers) (chs.take j))) (nI j) h = some (.inl (nI (tot (lo st np vers) (chs.take (j + 1))), nI (j + 1), h))
      unfold b_X_allLivePages_4
      simp (disch := omega) only [gd_T, dr_S, nm_v, cl_S, cv_S, bd_S, lk_L, lk_R, zbw_b, isK_e, isPg_3, isPg_4, isPg_6, asV_n, beq_self_eq_true, inb_N, inb_0, le_T, le_F, lt_T, lt_F, eq_F, le_0T, lt_0F, le_0F, eq_0F, nI_1, nI_add, pk_mul, nI_clamp, cl_0, if_true, if_false, of_nI, T_wI, L_wI, R_wI, N_wI, S_wI, T_wR, L_wR, I_wR, N_wR, S_wR, I_same, R_same, I_wIn, I_wIk, R_wRn, R_wRk, T_nwo, T_nwn, L_nwo, L_nwn, I_nwo, I_nwn, R_nwo, R_nwn, N_nw, S_nw, nar_1, nar_0, nar_01, b01_t0, b01_f0, b01_t1, b01_f1, ne_sn, eq_sn, sn_inj, x1, x5, H.1, sz, gt, caB_s kk, kk, lv]
      rw [show chs.take (j + 1) = chs.take j ++ [id] from take_s hid, tot_app]
    · show b_X_allLivePages_4 x _ (nI chs.length) h = _
      unfold b_X_allLivePages_4
      simp (disch := omega) only [gd_T, dr_S, nm_v, cl_S, cv_S, bd_S, lk_L, lk_R, zbw_b, isK_e, isPg_3, isPg_4, isPg_6, asV_n, beq_self_eq_true, inb_N, inb_0, le_T, le_F, lt_T, lt_F, eq_F, le_0T, lt_0F, le_0F, eq_0F, nI_1, nI_add, pk_mul, nI_clamp, cl_0, if_true, if_false, of_nI, T_wI, L_wI, R_wI, N_wI, S_wI, T_wR, L_wR, I_wR, N_wR, S_wR, I_same, R_same, I_wIn, I_wIk, R_wRn, R_wRk, T_nwo, T_nwn, L_nwo, L_nwn, I_nwo, I_nwn, R_nwo, R_nwn, N_nw, S_nw, nar_1, nar_0, nar_01, b01_t0, b01_f0, b01_t1, b01_f1, ne_sn, eq_sn, sn_inj, x1, x5, H.1, sz]
  unfold f_X_allLivePages
  rw [bd_s key, List.take_length]

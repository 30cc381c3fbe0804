-- VersionMapsModel.<init>()V
def m_M_init : Mi := (⟨"VersionMapsModel", "<init>", "()V"⟩, prog_11_method_1_code, 2, (Option.none : Option Jvm.ClassFile.FieldType), .return_)
theorem cw_M_init : cw_ok m_M_init 0 := ⟨by decide +kernel, by decide +kernel, by decide +kernel, by decide +kernel⟩
theorem im_M_init : Cond.instanceMethod m_M_init.1 ∈ lw_w := by decide +kernel
theorem d_M_init_0 : decode prog_11_method_1_code 0 = .ok (.aload_n 0, 1) := by decide +kernel
theorem d_M_init_1 : decode prog_11_method_1_code 1 = .ok (.invokespecial 1, 3) := by decide +kernel
theorem d_M_init_4 : decode prog_11_method_1_code 4 = .ok (.aload_n 0, 1) := by decide +kernel
theorem d_M_init_5 : decode prog_11_method_1_code 5 = .ok (.sipush 128, 3) := by decide +kernel
theorem d_M_init_8 : decode prog_11_method_1_code 8 = .ok (.newarray .boolean, 2) := by decide +kernel
theorem d_M_init_10 : decode prog_11_method_1_code 10 = .ok (.putfield 7, 3) := by decide +kernel
theorem d_M_init_13 : decode prog_11_method_1_code 13 = .ok (.aload_n 0, 1) := by decide +kernel
theorem d_M_init_14 : decode prog_11_method_1_code 14 = .ok (.bipush 16, 2) := by decide +kernel
theorem d_M_init_16 : decode prog_11_method_1_code 16 = .ok (.newarray .boolean, 2) := by decide +kernel
theorem d_M_init_18 : decode prog_11_method_1_code 18 = .ok (.putfield 13, 3) := by decide +kernel
theorem d_M_init_21 : decode prog_11_method_1_code 21 = .ok (.aload_n 0, 1) := by decide +kernel
theorem d_M_init_22 : decode prog_11_method_1_code 22 = .ok (.iconst 4, 1) := by decide +kernel
theorem d_M_init_23 : decode prog_11_method_1_code 23 = .ok (.newarray .boolean, 2) := by decide +kernel
theorem d_M_init_25 : decode prog_11_method_1_code 25 = .ok (.putfield 16, 3) := by decide +kernel
theorem d_M_init_28 : decode prog_11_method_1_code 28 = .ok (.aload_n 0, 1) := by decide +kernel
theorem d_M_init_29 : decode prog_11_method_1_code 29 = .ok (.sipush 128, 3) := by decide +kernel
theorem d_M_init_32 : decode prog_11_method_1_code 32 = .ok (.newarray .int, 2) := by decide +kernel
theorem d_M_init_34 : decode prog_11_method_1_code 34 = .ok (.putfield 19, 3) := by decide +kernel
theorem d_M_init_37 : decode prog_11_method_1_code 37 = .ok (.aload_n 0, 1) := by decide +kernel
theorem d_M_init_38 : decode prog_11_method_1_code 38 = .ok (.sipush 160, 3) := by decide +kernel
theorem d_M_init_41 : decode prog_11_method_1_code 41 = .ok (.newarray .int, 2) := by decide +kernel
theorem d_M_init_43 : decode prog_11_method_1_code 43 = .ok (.putfield 23, 3) := by decide +kernel
theorem d_M_init_46 : decode prog_11_method_1_code 46 = .ok (.aload_n 0, 1) := by decide +kernel
theorem d_M_init_47 : decode prog_11_method_1_code 47 = .ok (.sipush 160, 3) := by decide +kernel
theorem d_M_init_50 : decode prog_11_method_1_code 50 = .ok (.newarray .int, 2) := by decide +kernel
theorem d_M_init_52 : decode prog_11_method_1_code 52 = .ok (.putfield 26, 3) := by decide +kernel
theorem d_M_init_55 : decode prog_11_method_1_code 55 = .ok (.aload_n 0, 1) := by decide +kernel
theorem d_M_init_56 : decode prog_11_method_1_code 56 = .ok (.sipush 160, 3) := by decide +kernel
theorem d_M_init_59 : decode prog_11_method_1_code 59 = .ok (.newarray .int, 2) := by decide +kernel
theorem d_M_init_61 : decode prog_11_method_1_code 61 = .ok (.putfield 29, 3) := by decide +kernel
theorem d_M_init_64 : decode prog_11_method_1_code 64 = .ok (.aload_n 0, 1) := by decide +kernel
theorem d_M_init_65 : decode prog_11_method_1_code 65 = .ok (.sipush 160, 3) := by decide +kernel
theorem d_M_init_68 : decode prog_11_method_1_code 68 = .ok (.newarray .int, 2) := by decide +kernel
theorem d_M_init_70 : decode prog_11_method_1_code 70 = .ok (.putfield 32, 3) := by decide +kernel
theorem d_M_init_73 : decode prog_11_method_1_code 73 = .ok (.aload_n 0, 1) := by decide +kernel
theorem d_M_init_74 : decode prog_11_method_1_code 74 = .ok (.sipush 160, 3) := by decide +kernel
theorem d_M_init_77 : decode prog_11_method_1_code 77 = .ok (.newarray .int, 2) := by decide +kernel
theorem d_M_init_79 : decode prog_11_method_1_code 79 = .ok (.putfield 35, 3) := by decide +kernel
theorem d_M_init_82 : decode prog_11_method_1_code 82 = .ok (.aload_n 0, 1) := by decide +kernel
theorem d_M_init_83 : decode prog_11_method_1_code 83 = .ok (.sipush 160, 3) := by decide +kernel
theorem d_M_init_86 : decode prog_11_method_1_code 86 = .ok (.newarray .int, 2) := by decide +kernel
theorem d_M_init_88 : decode prog_11_method_1_code 88 = .ok (.putfield 38, 3) := by decide +kernel
theorem d_M_init_91 : decode prog_11_method_1_code 91 = .ok (.aload_n 0, 1) := by decide +kernel
theorem d_M_init_92 : decode prog_11_method_1_code 92 = .ok (.sipush 1280, 3) := by decide +kernel
theorem d_M_init_95 : decode prog_11_method_1_code 95 = .ok (.newarray .int, 2) := by decide +kernel
theorem d_M_init_97 : decode prog_11_method_1_code 97 = .ok (.putfield 41, 3) := by decide +kernel
theorem d_M_init_100 : decode prog_11_method_1_code 100 = .ok (.aload_n 0, 1) := by decide +kernel
theorem d_M_init_101 : decode prog_11_method_1_code 101 = .ok (.sipush 640, 3) := by decide +kernel
theorem d_M_init_104 : decode prog_11_method_1_code 104 = .ok (.newarray .int, 2) := by decide +kernel
theorem d_M_init_106 : decode prog_11_method_1_code 106 = .ok (.putfield 44, 3) := by decide +kernel
theorem d_M_init_109 : decode prog_11_method_1_code 109 = .ok (.aload_n 0, 1) := by decide +kernel
theorem d_M_init_110 : decode prog_11_method_1_code 110 = .ok (.sipush 160, 3) := by decide +kernel
theorem d_M_init_113 : decode prog_11_method_1_code 113 = .ok (.newarray .boolean, 2) := by decide +kernel
theorem d_M_init_115 : decode prog_11_method_1_code 115 = .ok (.putfield 47, 3) := by decide +kernel
theorem d_M_init_118 : decode prog_11_method_1_code 118 = .ok (.aload_n 0, 1) := by decide +kernel
theorem d_M_init_119 : decode prog_11_method_1_code 119 = .ok (.bipush 32, 2) := by decide +kernel
theorem d_M_init_121 : decode prog_11_method_1_code 121 = .ok (.newarray .int, 2) := by decide +kernel
theorem d_M_init_123 : decode prog_11_method_1_code 123 = .ok (.putfield 50, 3) := by decide +kernel
theorem d_M_init_126 : decode prog_11_method_1_code 126 = .ok (.aload_n 0, 1) := by decide +kernel
theorem d_M_init_127 : decode prog_11_method_1_code 127 = .ok (.bipush 32, 2) := by decide +kernel
theorem d_M_init_129 : decode prog_11_method_1_code 129 = .ok (.newarray .int, 2) := by decide +kernel
theorem d_M_init_131 : decode prog_11_method_1_code 131 = .ok (.putfield 53, 3) := by decide +kernel
theorem d_M_init_134 : decode prog_11_method_1_code 134 = .ok (.aload_n 0, 1) := by decide +kernel
theorem d_M_init_135 : decode prog_11_method_1_code 135 = .ok (.bipush 32, 2) := by decide +kernel
theorem d_M_init_137 : decode prog_11_method_1_code 137 = .ok (.newarray .int, 2) := by decide +kernel
theorem d_M_init_139 : decode prog_11_method_1_code 139 = .ok (.putfield 56, 3) := by decide +kernel
theorem d_M_init_142 : decode prog_11_method_1_code 142 = .ok (.aload_n 0, 1) := by decide +kernel
theorem d_M_init_143 : decode prog_11_method_1_code 143 = .ok (.bipush 32, 2) := by decide +kernel
theorem d_M_init_145 : decode prog_11_method_1_code 145 = .ok (.newarray .int, 2) := by decide +kernel
theorem d_M_init_147 : decode prog_11_method_1_code 147 = .ok (.putfield 59, 3) := by decide +kernel
theorem d_M_init_150 : decode prog_11_method_1_code 150 = .ok (.aload_n 0, 1) := by decide +kernel
theorem d_M_init_151 : decode prog_11_method_1_code 151 = .ok (.bipush 32, 2) := by decide +kernel
theorem d_M_init_153 : decode prog_11_method_1_code 153 = .ok (.newarray .int, 2) := by decide +kernel
theorem d_M_init_155 : decode prog_11_method_1_code 155 = .ok (.putfield 62, 3) := by decide +kernel
theorem d_M_init_158 : decode prog_11_method_1_code 158 = .ok (.aload_n 0, 1) := by decide +kernel
theorem d_M_init_159 : decode prog_11_method_1_code 159 = .ok (.bipush 32, 2) := by decide +kernel
theorem d_M_init_161 : decode prog_11_method_1_code 161 = .ok (.newarray .boolean, 2) := by decide +kernel
theorem d_M_init_163 : decode prog_11_method_1_code 163 = .ok (.putfield 65, 3) := by decide +kernel
theorem d_M_init_166 : decode prog_11_method_1_code 166 = .ok (.aload_n 0, 1) := by decide +kernel
theorem d_M_init_167 : decode prog_11_method_1_code 167 = .ok (.bipush 32, 2) := by decide +kernel
theorem d_M_init_169 : decode prog_11_method_1_code 169 = .ok (.newarray .int, 2) := by decide +kernel
theorem d_M_init_171 : decode prog_11_method_1_code 171 = .ok (.putfield 68, 3) := by decide +kernel
theorem d_M_init_174 : decode prog_11_method_1_code 174 = .ok (.aload_n 0, 1) := by decide +kernel
theorem d_M_init_175 : decode prog_11_method_1_code 175 = .ok (.bipush 32, 2) := by decide +kernel
theorem d_M_init_177 : decode prog_11_method_1_code 177 = .ok (.newarray .int, 2) := by decide +kernel
theorem d_M_init_179 : decode prog_11_method_1_code 179 = .ok (.putfield 71, 3) := by decide +kernel
theorem d_M_init_182 : decode prog_11_method_1_code 182 = .ok (.aload_n 0, 1) := by decide +kernel
theorem d_M_init_183 : decode prog_11_method_1_code 183 = .ok (.bipush 32, 2) := by decide +kernel
theorem d_M_init_185 : decode prog_11_method_1_code 185 = .ok (.newarray .int, 2) := by decide +kernel
theorem d_M_init_187 : decode prog_11_method_1_code 187 = .ok (.putfield 74, 3) := by decide +kernel
theorem d_M_init_190 : decode prog_11_method_1_code 190 = .ok (.aload_n 0, 1) := by decide +kernel
theorem d_M_init_191 : decode prog_11_method_1_code 191 = .ok (.bipush 32, 2) := by decide +kernel
theorem d_M_init_193 : decode prog_11_method_1_code 193 = .ok (.newarray .int, 2) := by decide +kernel
theorem d_M_init_195 : decode prog_11_method_1_code 195 = .ok (.putfield 77, 3) := by decide +kernel
theorem d_M_init_198 : decode prog_11_method_1_code 198 = .ok (.aload_n 0, 1) := by decide +kernel
theorem d_M_init_199 : decode prog_11_method_1_code 199 = .ok (.bipush 32, 2) := by decide +kernel
theorem d_M_init_201 : decode prog_11_method_1_code 201 = .ok (.newarray .int, 2) := by decide +kernel
theorem d_M_init_203 : decode prog_11_method_1_code 203 = .ok (.putfield 80, 3) := by decide +kernel
theorem d_M_init_206 : decode prog_11_method_1_code 206 = .ok (.aload_n 0, 1) := by decide +kernel
theorem d_M_init_207 : decode prog_11_method_1_code 207 = .ok (.iconst 1, 1) := by decide +kernel
theorem d_M_init_208 : decode prog_11_method_1_code 208 = .ok (.putfield 83, 3) := by decide +kernel
theorem d_M_init_211 : decode prog_11_method_1_code 211 = .ok (.aload_n 0, 1) := by decide +kernel
theorem d_M_init_212 : decode prog_11_method_1_code 212 = .ok (.bipush 48, 2) := by decide +kernel
theorem d_M_init_214 : decode prog_11_method_1_code 214 = .ok (.newarray .int, 2) := by decide +kernel
theorem d_M_init_216 : decode prog_11_method_1_code 216 = .ok (.putfield 87, 3) := by decide +kernel
theorem d_M_init_219 : decode prog_11_method_1_code 219 = .ok (.aload_n 0, 1) := by decide +kernel
theorem d_M_init_220 : decode prog_11_method_1_code 220 = .ok (.bipush 48, 2) := by decide +kernel
theorem d_M_init_222 : decode prog_11_method_1_code 222 = .ok (.newarray .int, 2) := by decide +kernel
theorem d_M_init_224 : decode prog_11_method_1_code 224 = .ok (.putfield 90, 3) := by decide +kernel
theorem d_M_init_227 : decode prog_11_method_1_code 227 = .ok (.aload_n 0, 1) := by decide +kernel
theorem d_M_init_228 : decode prog_11_method_1_code 228 = .ok (.bipush 48, 2) := by decide +kernel
theorem d_M_init_230 : decode prog_11_method_1_code 230 = .ok (.newarray .int, 2) := by decide +kernel
theorem d_M_init_232 : decode prog_11_method_1_code 232 = .ok (.putfield 93, 3) := by decide +kernel
theorem d_M_init_235 : decode prog_11_method_1_code 235 = .ok (.aload_n 0, 1) := by decide +kernel
theorem d_M_init_236 : decode prog_11_method_1_code 236 = .ok (.iconst 1, 1) := by decide +kernel
theorem d_M_init_237 : decode prog_11_method_1_code 237 = .ok (.putfield 96, 3) := by decide +kernel
theorem d_M_init_240 : decode prog_11_method_1_code 240 = .ok (.aload_n 0, 1) := by decide +kernel
theorem d_M_init_241 : decode prog_11_method_1_code 241 = .ok (.iconst 1, 1) := by decide +kernel
theorem d_M_init_242 : decode prog_11_method_1_code 242 = .ok (.putfield 99, 3) := by decide +kernel
theorem d_M_init_245 : decode prog_11_method_1_code 245 = .ok (.aload_n 0, 1) := by decide +kernel
theorem d_M_init_246 : decode prog_11_method_1_code 246 = .ok (.iconst 4, 1) := by decide +kernel
theorem d_M_init_247 : decode prog_11_method_1_code 247 = .ok (.newarray .int, 2) := by decide +kernel
theorem d_M_init_249 : decode prog_11_method_1_code 249 = .ok (.putfield 102, 3) := by decide +kernel
theorem d_M_init_252 : decode prog_11_method_1_code 252 = .ok (.iconst 0, 1) := by decide +kernel
theorem d_M_init_253 : decode prog_11_method_1_code 253 = .ok (.istore_n 1, 1) := by decide +kernel
theorem d_M_init_254 : decode prog_11_method_1_code 254 = .ok (.iload_n 1, 1) := by decide +kernel
theorem d_M_init_255 : decode prog_11_method_1_code 255 = .ok (.bipush 32, 2) := by decide +kernel
theorem d_M_init_257 : decode prog_11_method_1_code 257 = .ok (.if_icmp .ge 16, 3) := by decide +kernel
theorem d_M_init_260 : decode prog_11_method_1_code 260 = .ok (.aload_n 0, 1) := by decide +kernel
theorem d_M_init_261 : decode prog_11_method_1_code 261 = .ok (.getfield 65, 3) := by decide +kernel
theorem d_M_init_264 : decode prog_11_method_1_code 264 = .ok (.iload_n 1, 1) := by decide +kernel
theorem d_M_init_265 : decode prog_11_method_1_code 265 = .ok (.iconst 1, 1) := by decide +kernel
theorem d_M_init_266 : decode prog_11_method_1_code 266 = .ok (.bastore, 1) := by decide +kernel
theorem d_M_init_267 : decode prog_11_method_1_code 267 = .ok (.iinc 1 1, 3) := by decide +kernel
theorem d_M_init_270 : decode prog_11_method_1_code 270 = .ok (.goto (-16), 3) := by decide +kernel
theorem d_M_init_273 : decode prog_11_method_1_code 273 = .ok (.return_, 1) := by decide +kernel
def W_M_init : Wl := ([(8, 0), (8, 1), (8, 2), (8, 3), (8, 4), (8, 5), (8, 6), (8, 7), (8, 8), (8, 9), (8, 10), (8, 11), (8, 12), (8, 13), (8, 14), (8, 15), (8, 16), (8, 17), (8, 18), (8, 20), (8, 21), (8, 22), (8, 23), (8, 24), (8, 26), (8, 27), (8, 28), (8, 29), (8, 30), (8, 32), (8, 33)], [93])
def b_M_init_254 (y0 : Nat) (y1 : Int32) (h : Hp) : Option ((Int32 × Hp) ⊕ (Hp)) :=
  if (nI 32) ≤ y1 then (some (.inr h)) else (gd (isK h y0 8) (dr (hpR h y0 18) fun a208 => gd (isK h a208 93) (gd (inb y1 (hpL h a208)) (nm (wI h a208 y1.toNatClampNeg (vp_nar .boolean (1 : Int32))) fun h212 => some (.inl ((y1 + (1 : Int32)), h212))))))
set_option maxRecDepth 100000 in
set_option maxHeartbeats 4000000 in
theorem zb_M_init_254 {l : Launch} {C : Ct} {mi : Nat} {y0 : Nat} {y1 : Int32} {h h' : Hp} {q : ((Int32 × Hp) ⊕ (Hp))} (hf : b_M_init_254 y0 y1 h = some q) (kc : ∀ s, q = .inl s → Z l C mi m_M_init 1 254 [(0, vr (some y0)), (1, vi s.1)] [] s.2 none h') (ke : ∀ x, q = .inr x → Z l C mi m_M_init 1 273 [] [] x none h') : Z l C mi m_M_init 1 254 [(0, vr (some y0)), (1, vi y1)] [] h none h' := by
  unfold b_M_init_254 at hf
  refine z_iload_n 1 d_M_init_254 rfl rfl ?_
  refine z_bipush (v := (nI 32)) d_M_init_255 (by decide) ?_
  refine z_icmp_ge (tgt := 273) d_M_init_257 (by decide) (fun c206 => ?_) (fun c206 => ?_)
  · rw [if_pos c206] at hf
    refine z_ls [] rfl ?_
    exact ke h (Option.some.inj hf).symm
  · rw [if_neg c206] at hf
    refine z_aload_n 0 d_M_init_260 rfl rfl ?_
    obtain ⟨g207, hf⟩ := gd_some hf
    refine z_getR d_M_init_261 (fl_K (isK_eq g207) fl_M_65_8) (fi_K (isK_eq g207) rfl) rfl ?_
    refine z_iload_n 1 d_M_init_264 rfl rfl ?_
    refine z_iconst (v := (1 : Int32)) d_M_init_265 (by decide) ?_
    obtain ⟨a208, e209, hf⟩ := dr_some hf
    obtain ⟨g210, hf⟩ := gd_some hf
    obtain ⟨g211, hf⟩ := gd_some hf
    obtain ⟨h212, eh213, hf⟩ := nm_some hf
    refine z_zast d_M_init_266 e209 (by rw [isK_eq g210]; decide) (by rw [isK_eq g210]; rfl) (inb_vp g211) ?_
    refine z_hp eh213 ?_
    refine z_iinc (ls2 := [(1, vi (y1 + (1 : Int32))), (0, vr (some y0))]) 1 d_M_init_267 rfl rfl (by decide) rfl ?_
    refine z_goto (tgt := 254) d_M_init_270 (by decide) ?_
    refine z_ls [1, 0] rfl ?_
    exact kc ((y1 + (1 : Int32)), h212) (Option.some.inj hf).symm
set_option maxRecDepth 100000 in
set_option maxHeartbeats 4000000 in
theorem kb_M_init_254 {C : Ct} {mi : Nat} {y0 : Nat} {y1 : Int32} {h : Hp} {q : ((Int32 × Hp) ⊕ (Hp))} (hf : b_M_init_254 y0 y1 h = some q) : Keep W_M_init h (Sum.elim (fun s : Int32 × Hp => s.2) (fun x : Hp => x) q) := by
  unfold b_M_init_254 at hf
  rcases Classical.em ((nI 32) ≤ y1) with c206 | c206
  · rw [if_pos c206] at hf
    cases (Option.some.inj hf)
    exact (Keep.refl W_M_init _)
  · rw [if_neg c206] at hf
    obtain ⟨g207, hf⟩ := gd_some hf
    obtain ⟨a208, e209, hf⟩ := dr_some hf
    obtain ⟨g210, hf⟩ := gd_some hf
    obtain ⟨g211, hf⟩ := gd_some hf
    obtain ⟨h212, eh213, hf⟩ := nm_some hf
    have K214 := (Keep.refl W_M_init _).trans (kw_I eh213 (isK_eq g210) (Or.inr (by decide)))
    cases (Option.some.inj hf)
    exact K214
def l_M_init_254 (y0 : Nat) (s : Int32 × Hp) : Option (Hp) := lp (fun s => b_M_init_254 y0 s.1 s.2) FU s
theorem zzl_M_init_254 {l : Launch} {C : Ct} {mi : Nat} {y0 : Nat} {h' : Hp} : ∀ (n : Nat) (s : Int32 × Hp) (x : (Hp)), lp (fun s : Int32 × Hp => b_M_init_254 y0 s.1 s.2) n s = some x → Z l C mi m_M_init 1 273 [] [] x none h' → Z l C mi m_M_init 1 254 [(0, vr (some y0)), (1, vi s.1)] [] s.2 none h' := by
  intro n
  induction n with
  | zero => intro s x hl; cases hl
  | succ n ih =>
    intro s x hl ke
    rcases lp_some hl with ⟨s2, hb, hl2⟩ | hb
    · exact zb_M_init_254 hb (fun s3 e3 => by cases e3; refine z_ls [0, 1] rfl ?_; exact ih s2 x hl2 ke) (fun x e3 => by cases e3)
    · exact zb_M_init_254 hb (fun s3 e3 => by cases e3) (fun x e3 => by cases e3; exact ke)
theorem zl_M_init_254 {l : Launch} {C : Ct} {mi : Nat} {y0 : Nat} {h' : Hp} {s : Int32 × Hp} {x : (Hp)} (hl : l_M_init_254 y0 s = some x) (ke : Z l C mi m_M_init 1 273 [] [] x none h') : Z l C mi m_M_init 1 254 [(0, vr (some y0)), (1, vi s.1)] [] s.2 none h' := zzl_M_init_254 FU s x hl ke
theorem kl_M_init_254 {C : Ct} {mi : Nat} {y0 : Nat} {s : Int32 × Hp} {q : (Hp)} (hl : l_M_init_254 y0 s = some q) : Keep W_M_init s.2 ((fun x : Hp => x) q) := lpk (sh := (fun s : Int32 × Hp => s.2)) (rh := (fun x : Hp => x)) (fun s q hb => kb_M_init_254 (C := C) (mi := mi) hb) FU s q hl
def f_M_init (a0 : Nat) (h : Hp) : Option Hp :=
  nm (nw h 75 128 128) fun h1 => gd (isK h1 a0 8) (nm (wR h1 a0 0 (some (hpN h))) fun h5 => nm (nw h5 76 16 16) fun h8 => gd (isK h8 a0 8) (nm (wR h8 a0 1 (some (hpN h5))) fun h12 => nm (nw h12 77 4 4) fun h15 => gd (isK h15 a0 8) (nm (wR h15 a0 2 (some (hpN h12))) fun h19 => nm (nw h19 78 128 128) fun h22 => gd (isK h22 a0 8) (nm (wR h22 a0 3 (some (hpN h19))) fun h26 => nm (nw h26 79 160 160) fun h29 => gd (isK h29 a0 8) (nm (wR h29 a0 4 (some (hpN h26))) fun h33 => nm (nw h33 80 160 160) fun h36 => gd (isK h36 a0 8) (nm (wR h36 a0 5 (some (hpN h33))) fun h40 => nm (nw h40 81 160 160) fun h43 => gd (isK h43 a0 8) (nm (wR h43 a0 6 (some (hpN h40))) fun h47 => nm (nw h47 82 160 160) fun h50 => gd (isK h50 a0 8) (nm (wR h50 a0 7 (some (hpN h47))) fun h54 => nm (nw h54 83 160 160) fun h57 => gd (isK h57 a0 8) (nm (wR h57 a0 8 (some (hpN h54))) fun h61 => nm (nw h61 84 160 160) fun h64 => gd (isK h64 a0 8) (nm (wR h64 a0 9 (some (hpN h61))) fun h68 => nm (nw h68 85 1280 1280) fun h71 => gd (isK h71 a0 8) (nm (wR h71 a0 10 (some (hpN h68))) fun h75 => nm (nw h75 86 640 640) fun h78 => gd (isK h78 a0 8) (nm (wR h78 a0 11 (some (hpN h75))) fun h82 => nm (nw h82 87 160 160) fun h85 => gd (isK h85 a0 8) (nm (wR h85 a0 12 (some (hpN h82))) fun h89 => nm (nw h89 88 32 32) fun h92 => gd (isK h92 a0 8) (nm (wR h92 a0 13 (some (hpN h89))) fun h96 => nm (nw h96 89 32 32) fun h99 => gd (isK h99 a0 8) (nm (wR h99 a0 14 (some (hpN h96))) fun h103 => nm (nw h103 90 32 32) fun h106 => gd (isK h106 a0 8) (nm (wR h106 a0 15 (some (hpN h103))) fun h110 => nm (nw h110 91 32 32) fun h113 => gd (isK h113 a0 8) (nm (wR h113 a0 16 (some (hpN h110))) fun h117 => nm (nw h117 92 32 32) fun h120 => gd (isK h120 a0 8) (nm (wR h120 a0 17 (some (hpN h117))) fun h124 => nm (nw h124 93 32 32) fun h127 => gd (isK h127 a0 8) (nm (wR h127 a0 18 (some (hpN h124))) fun h131 => nm (nw h131 94 32 32) fun h134 => gd (isK h134 a0 8) (nm (wR h134 a0 20 (some (hpN h131))) fun h138 => nm (nw h138 95 32 32) fun h141 => gd (isK h141 a0 8) (nm (wR h141 a0 21 (some (hpN h138))) fun h145 => nm (nw h145 96 32 32) fun h148 => gd (isK h148 a0 8) (nm (wR h148 a0 22 (some (hpN h145))) fun h152 => nm (nw h152 97 32 32) fun h155 => gd (isK h155 a0 8) (nm (wR h155 a0 23 (some (hpN h152))) fun h159 => nm (nw h159 98 32 32) fun h162 => gd (isK h162 a0 8) (nm (wR h162 a0 24 (some (hpN h159))) fun h166 => nm (wI h166 a0 26 (1 : Int32)) fun h169 => nm (nw h169 99 48 48) fun h172 => gd (isK h172 a0 8) (nm (wR h172 a0 27 (some (hpN h169))) fun h176 => nm (nw h176 100 48 48) fun h179 => gd (isK h179 a0 8) (nm (wR h179 a0 28 (some (hpN h176))) fun h183 => nm (nw h183 101 48 48) fun h186 => gd (isK h186 a0 8) (nm (wR h186 a0 29 (some (hpN h183))) fun h190 => nm (wI h190 a0 30 (1 : Int32)) fun h193 => nm (wI h193 a0 32 (1 : Int32)) fun h196 => nm (nw h196 102 4 4) fun h199 => gd (isK h199 a0 8) (nm (wR h199 a0 33 (some (hpN h196))) fun h203 => bd (l_M_init_254 a0 ((0 : Int32), h203)) fun x215 => some x215))))))))))))))))))))))))))))
set_option maxRecDepth 100000 in
set_option maxHeartbeats 4000000 in
theorem zf_M_init {l : Launch} {C : Ct} {mi : Nat} {a0 : Nat} {h h' : Hp} (hf : f_M_init a0 h = some h') : Z l C mi m_M_init 1 0 [(0, vr (some a0))] [] h none h' := by
  unfold f_M_init at hf
  refine z_aload_n 0 d_M_init_0 rfl rfl ?_
  refine z_oinit d_M_init_1 (by decide +kernel) rfl (by decide) (Nat.le_of_ble_eq_true rfl) ?_
  refine z_aload_n 0 d_M_init_4 rfl rfl ?_
  refine z_sipush (v := (nI 128)) d_M_init_5 (by decide) ?_
  obtain ⟨h1, eh2, hf⟩ := nm_some hf
  refine z_newZ (N := 128) (κ := 75) d_M_init_8 (by decide) rfl (by decide) (by decide) (by decide) ?_
  refine z_hp eh2 ?_
  obtain ⟨g4, hf⟩ := gd_some hf
  obtain ⟨h5, eh6, hf⟩ := nm_some hf
  refine z_putR d_M_init_10 (fl_K (isK_eq g4) fl_M_7_8) (pu_K (isK_eq g4) (fun q hq => by cases (Option.some.inj hq); exact Or.inr ⟨rfl, rfl⟩)) (fi_K (isK_eq g4) rfl) rfl ?_
  refine z_hp eh6 ?_
  refine z_aload_n 0 d_M_init_13 rfl rfl ?_
  refine z_bipush (v := (nI 16)) d_M_init_14 (by decide) ?_
  obtain ⟨h8, eh9, hf⟩ := nm_some hf
  refine z_newZ (N := 16) (κ := 76) d_M_init_16 (by decide) rfl (by decide) (by decide) (by decide) ?_
  refine z_hp eh9 ?_
  obtain ⟨g11, hf⟩ := gd_some hf
  obtain ⟨h12, eh13, hf⟩ := nm_some hf
  refine z_putR d_M_init_18 (fl_K (isK_eq g11) fl_M_13_8) (pu_K (isK_eq g11) (fun q hq => by cases (Option.some.inj hq); exact Or.inr ⟨rfl, rfl⟩)) (fi_K (isK_eq g11) rfl) rfl ?_
  refine z_hp eh13 ?_
  refine z_aload_n 0 d_M_init_21 rfl rfl ?_
  refine z_iconst (v := (nI 4)) d_M_init_22 (by decide) ?_
  obtain ⟨h15, eh16, hf⟩ := nm_some hf
  refine z_newZ (N := 4) (κ := 77) d_M_init_23 (by decide) rfl (by decide) (by decide) (by decide) ?_
  refine z_hp eh16 ?_
  obtain ⟨g18, hf⟩ := gd_some hf
  obtain ⟨h19, eh20, hf⟩ := nm_some hf
  refine z_putR d_M_init_25 (fl_K (isK_eq g18) fl_M_16_8) (pu_K (isK_eq g18) (fun q hq => by cases (Option.some.inj hq); exact Or.inr ⟨rfl, rfl⟩)) (fi_K (isK_eq g18) rfl) rfl ?_
  refine z_hp eh20 ?_
  refine z_aload_n 0 d_M_init_28 rfl rfl ?_
  refine z_sipush (v := (nI 128)) d_M_init_29 (by decide) ?_
  obtain ⟨h22, eh23, hf⟩ := nm_some hf
  refine z_newI (N := 128) (κ := 78) d_M_init_32 (by decide) rfl (by decide) (by decide) (by decide) ?_
  refine z_hp eh23 ?_
  obtain ⟨g25, hf⟩ := gd_some hf
  obtain ⟨h26, eh27, hf⟩ := nm_some hf
  refine z_putR d_M_init_34 (fl_K (isK_eq g25) fl_M_19_8) (pu_K (isK_eq g25) (fun q hq => by cases (Option.some.inj hq); exact Or.inr ⟨rfl, rfl⟩)) (fi_K (isK_eq g25) rfl) rfl ?_
  refine z_hp eh27 ?_
  refine z_aload_n 0 d_M_init_37 rfl rfl ?_
  refine z_sipush (v := (nI 160)) d_M_init_38 (by decide) ?_
  obtain ⟨h29, eh30, hf⟩ := nm_some hf
  refine z_newI (N := 160) (κ := 79) d_M_init_41 (by decide) rfl (by decide) (by decide) (by decide) ?_
  refine z_hp eh30 ?_
  obtain ⟨g32, hf⟩ := gd_some hf
  obtain ⟨h33, eh34, hf⟩ := nm_some hf
  refine z_putR d_M_init_43 (fl_K (isK_eq g32) fl_M_23_8) (pu_K (isK_eq g32) (fun q hq => by cases (Option.some.inj hq); exact Or.inr ⟨rfl, rfl⟩)) (fi_K (isK_eq g32) rfl) rfl ?_
  refine z_hp eh34 ?_
  refine z_aload_n 0 d_M_init_46 rfl rfl ?_
  refine z_sipush (v := (nI 160)) d_M_init_47 (by decide) ?_
  obtain ⟨h36, eh37, hf⟩ := nm_some hf
  refine z_newI (N := 160) (κ := 80) d_M_init_50 (by decide) rfl (by decide) (by decide) (by decide) ?_
  refine z_hp eh37 ?_
  obtain ⟨g39, hf⟩ := gd_some hf
  obtain ⟨h40, eh41, hf⟩ := nm_some hf
  refine z_putR d_M_init_52 (fl_K (isK_eq g39) fl_M_26_8) (pu_K (isK_eq g39) (fun q hq => by cases (Option.some.inj hq); exact Or.inr ⟨rfl, rfl⟩)) (fi_K (isK_eq g39) rfl) rfl ?_
  refine z_hp eh41 ?_
  refine z_aload_n 0 d_M_init_55 rfl rfl ?_
  refine z_sipush (v := (nI 160)) d_M_init_56 (by decide) ?_
  obtain ⟨h43, eh44, hf⟩ := nm_some hf
  refine z_newI (N := 160) (κ := 81) d_M_init_59 (by decide) rfl (by decide) (by decide) (by decide) ?_
  refine z_hp eh44 ?_
  obtain ⟨g46, hf⟩ := gd_some hf
  obtain ⟨h47, eh48, hf⟩ := nm_some hf
  refine z_putR d_M_init_61 (fl_K (isK_eq g46) fl_M_29_8) (pu_K (isK_eq g46) (fun q hq => by cases (Option.some.inj hq); exact Or.inr ⟨rfl, rfl⟩)) (fi_K (isK_eq g46) rfl) rfl ?_
  refine z_hp eh48 ?_
  refine z_aload_n 0 d_M_init_64 rfl rfl ?_
  refine z_sipush (v := (nI 160)) d_M_init_65 (by decide) ?_
  obtain ⟨h50, eh51, hf⟩ := nm_some hf
  refine z_newI (N := 160) (κ := 82) d_M_init_68 (by decide) rfl (by decide) (by decide) (by decide) ?_
  refine z_hp eh51 ?_
  obtain ⟨g53, hf⟩ := gd_some hf
  obtain ⟨h54, eh55, hf⟩ := nm_some hf
  refine z_putR d_M_init_70 (fl_K (isK_eq g53) fl_M_32_8) (pu_K (isK_eq g53) (fun q hq => by cases (Option.some.inj hq); exact Or.inr ⟨rfl, rfl⟩)) (fi_K (isK_eq g53) rfl) rfl ?_
  refine z_hp eh55 ?_
  refine z_aload_n 0 d_M_init_73 rfl rfl ?_
  refine z_sipush (v := (nI 160)) d_M_init_74 (by decide) ?_
  obtain ⟨h57, eh58, hf⟩ := nm_some hf
  refine z_newI (N := 160) (κ := 83) d_M_init_77 (by decide) rfl (by decide) (by decide) (by decide) ?_
  refine z_hp eh58 ?_
  obtain ⟨g60, hf⟩ := gd_some hf
  obtain ⟨h61, eh62, hf⟩ := nm_some hf
  refine z_putR d_M_init_79 (fl_K (isK_eq g60) fl_M_35_8) (pu_K (isK_eq g60) (fun q hq => by cases (Option.some.inj hq); exact Or.inr ⟨rfl, rfl⟩)) (fi_K (isK_eq g60) rfl) rfl ?_
  refine z_hp eh62 ?_
  refine z_aload_n 0 d_M_init_82 rfl rfl ?_
  refine z_sipush (v := (nI 160)) d_M_init_83 (by decide) ?_
  obtain ⟨h64, eh65, hf⟩ := nm_some hf
  refine z_newI (N := 160) (κ := 84) d_M_init_86 (by decide) rfl (by decide) (by decide) (by decide) ?_
  refine z_hp eh65 ?_
  obtain ⟨g67, hf⟩ := gd_some hf
  obtain ⟨h68, eh69, hf⟩ := nm_some hf
  refine z_putR d_M_init_88 (fl_K (isK_eq g67) fl_M_38_8) (pu_K (isK_eq g67) (fun q hq => by cases (Option.some.inj hq); exact Or.inr ⟨rfl, rfl⟩)) (fi_K (isK_eq g67) rfl) rfl ?_
  refine z_hp eh69 ?_
  refine z_aload_n 0 d_M_init_91 rfl rfl ?_
  refine z_sipush (v := (nI 1280)) d_M_init_92 (by decide) ?_
  obtain ⟨h71, eh72, hf⟩ := nm_some hf
  refine z_newI (N := 1280) (κ := 85) d_M_init_95 (by decide) rfl (by decide) (by decide) (by decide) ?_
  refine z_hp eh72 ?_
  obtain ⟨g74, hf⟩ := gd_some hf
  obtain ⟨h75, eh76, hf⟩ := nm_some hf
  refine z_putR d_M_init_97 (fl_K (isK_eq g74) fl_M_41_8) (pu_K (isK_eq g74) (fun q hq => by cases (Option.some.inj hq); exact Or.inr ⟨rfl, rfl⟩)) (fi_K (isK_eq g74) rfl) rfl ?_
  refine z_hp eh76 ?_
  refine z_aload_n 0 d_M_init_100 rfl rfl ?_
  refine z_sipush (v := (nI 640)) d_M_init_101 (by decide) ?_
  obtain ⟨h78, eh79, hf⟩ := nm_some hf
  refine z_newI (N := 640) (κ := 86) d_M_init_104 (by decide) rfl (by decide) (by decide) (by decide) ?_
  refine z_hp eh79 ?_
  obtain ⟨g81, hf⟩ := gd_some hf
  obtain ⟨h82, eh83, hf⟩ := nm_some hf
  refine z_putR d_M_init_106 (fl_K (isK_eq g81) fl_M_44_8) (pu_K (isK_eq g81) (fun q hq => by cases (Option.some.inj hq); exact Or.inr ⟨rfl, rfl⟩)) (fi_K (isK_eq g81) rfl) rfl ?_
  refine z_hp eh83 ?_
  refine z_aload_n 0 d_M_init_109 rfl rfl ?_
  refine z_sipush (v := (nI 160)) d_M_init_110 (by decide) ?_
  obtain ⟨h85, eh86, hf⟩ := nm_some hf
  refine z_newZ (N := 160) (κ := 87) d_M_init_113 (by decide) rfl (by decide) (by decide) (by decide) ?_
  refine z_hp eh86 ?_
  obtain ⟨g88, hf⟩ := gd_some hf
  obtain ⟨h89, eh90, hf⟩ := nm_some hf
  refine z_putR d_M_init_115 (fl_K (isK_eq g88) fl_M_47_8) (pu_K (isK_eq g88) (fun q hq => by cases (Option.some.inj hq); exact Or.inr ⟨rfl, rfl⟩)) (fi_K (isK_eq g88) rfl) rfl ?_
  refine z_hp eh90 ?_
  refine z_aload_n 0 d_M_init_118 rfl rfl ?_
  refine z_bipush (v := (nI 32)) d_M_init_119 (by decide) ?_
  obtain ⟨h92, eh93, hf⟩ := nm_some hf
  refine z_newI (N := 32) (κ := 88) d_M_init_121 (by decide) rfl (by decide) (by decide) (by decide) ?_
  refine z_hp eh93 ?_
  obtain ⟨g95, hf⟩ := gd_some hf
  obtain ⟨h96, eh97, hf⟩ := nm_some hf
  refine z_putR d_M_init_123 (fl_K (isK_eq g95) fl_M_50_8) (pu_K (isK_eq g95) (fun q hq => by cases (Option.some.inj hq); exact Or.inr ⟨rfl, rfl⟩)) (fi_K (isK_eq g95) rfl) rfl ?_
  refine z_hp eh97 ?_
  refine z_aload_n 0 d_M_init_126 rfl rfl ?_
  refine z_bipush (v := (nI 32)) d_M_init_127 (by decide) ?_
  obtain ⟨h99, eh100, hf⟩ := nm_some hf
  refine z_newI (N := 32) (κ := 89) d_M_init_129 (by decide) rfl (by decide) (by decide) (by decide) ?_
  refine z_hp eh100 ?_
  obtain ⟨g102, hf⟩ := gd_some hf
  obtain ⟨h103, eh104, hf⟩ := nm_some hf
  refine z_putR d_M_init_131 (fl_K (isK_eq g102) fl_M_53_8) (pu_K (isK_eq g102) (fun q hq => by cases (Option.some.inj hq); exact Or.inr ⟨rfl, rfl⟩)) (fi_K (isK_eq g102) rfl) rfl ?_
  refine z_hp eh104 ?_
  refine z_aload_n 0 d_M_init_134 rfl rfl ?_
  refine z_bipush (v := (nI 32)) d_M_init_135 (by decide) ?_
  obtain ⟨h106, eh107, hf⟩ := nm_some hf
  refine z_newI (N := 32) (κ := 90) d_M_init_137 (by decide) rfl (by decide) (by decide) (by decide) ?_
  refine z_hp eh107 ?_
  obtain ⟨g109, hf⟩ := gd_some hf
  obtain ⟨h110, eh111, hf⟩ := nm_some hf
  refine z_putR d_M_init_139 (fl_K (isK_eq g109) fl_M_56_8) (pu_K (isK_eq g109) (fun q hq => by cases (Option.some.inj hq); exact Or.inr ⟨rfl, rfl⟩)) (fi_K (isK_eq g109) rfl) rfl ?_
  refine z_hp eh111 ?_
  refine z_aload_n 0 d_M_init_142 rfl rfl ?_
  refine z_bipush (v := (nI 32)) d_M_init_143 (by decide) ?_
  obtain ⟨h113, eh114, hf⟩ := nm_some hf
  refine z_newI (N := 32) (κ := 91) d_M_init_145 (by decide) rfl (by decide) (by decide) (by decide) ?_
  refine z_hp eh114 ?_
  obtain ⟨g116, hf⟩ := gd_some hf
  obtain ⟨h117, eh118, hf⟩ := nm_some hf
  refine z_putR d_M_init_147 (fl_K (isK_eq g116) fl_M_59_8) (pu_K (isK_eq g116) (fun q hq => by cases (Option.some.inj hq); exact Or.inr ⟨rfl, rfl⟩)) (fi_K (isK_eq g116) rfl) rfl ?_
  refine z_hp eh118 ?_
  refine z_aload_n 0 d_M_init_150 rfl rfl ?_
  refine z_bipush (v := (nI 32)) d_M_init_151 (by decide) ?_
  obtain ⟨h120, eh121, hf⟩ := nm_some hf
  refine z_newI (N := 32) (κ := 92) d_M_init_153 (by decide) rfl (by decide) (by decide) (by decide) ?_
  refine z_hp eh121 ?_
  obtain ⟨g123, hf⟩ := gd_some hf
  obtain ⟨h124, eh125, hf⟩ := nm_some hf
  refine z_putR d_M_init_155 (fl_K (isK_eq g123) fl_M_62_8) (pu_K (isK_eq g123) (fun q hq => by cases (Option.some.inj hq); exact Or.inr ⟨rfl, rfl⟩)) (fi_K (isK_eq g123) rfl) rfl ?_
  refine z_hp eh125 ?_
  refine z_aload_n 0 d_M_init_158 rfl rfl ?_
  refine z_bipush (v := (nI 32)) d_M_init_159 (by decide) ?_
  obtain ⟨h127, eh128, hf⟩ := nm_some hf
  refine z_newZ (N := 32) (κ := 93) d_M_init_161 (by decide) rfl (by decide) (by decide) (by decide) ?_
  refine z_hp eh128 ?_
  obtain ⟨g130, hf⟩ := gd_some hf
  obtain ⟨h131, eh132, hf⟩ := nm_some hf
  refine z_putR d_M_init_163 (fl_K (isK_eq g130) fl_M_65_8) (pu_K (isK_eq g130) (fun q hq => by cases (Option.some.inj hq); exact Or.inr ⟨rfl, rfl⟩)) (fi_K (isK_eq g130) rfl) rfl ?_
  refine z_hp eh132 ?_
  refine z_aload_n 0 d_M_init_166 rfl rfl ?_
  refine z_bipush (v := (nI 32)) d_M_init_167 (by decide) ?_
  obtain ⟨h134, eh135, hf⟩ := nm_some hf
  refine z_newI (N := 32) (κ := 94) d_M_init_169 (by decide) rfl (by decide) (by decide) (by decide) ?_
  refine z_hp eh135 ?_
  obtain ⟨g137, hf⟩ := gd_some hf
  obtain ⟨h138, eh139, hf⟩ := nm_some hf
  refine z_putR d_M_init_171 (fl_K (isK_eq g137) fl_M_68_8) (pu_K (isK_eq g137) (fun q hq => by cases (Option.some.inj hq); exact Or.inr ⟨rfl, rfl⟩)) (fi_K (isK_eq g137) rfl) rfl ?_
  refine z_hp eh139 ?_
  refine z_aload_n 0 d_M_init_174 rfl rfl ?_
  refine z_bipush (v := (nI 32)) d_M_init_175 (by decide) ?_
  obtain ⟨h141, eh142, hf⟩ := nm_some hf
  refine z_newI (N := 32) (κ := 95) d_M_init_177 (by decide) rfl (by decide) (by decide) (by decide) ?_
  refine z_hp eh142 ?_
  obtain ⟨g144, hf⟩ := gd_some hf
  obtain ⟨h145, eh146, hf⟩ := nm_some hf
  refine z_putR d_M_init_179 (fl_K (isK_eq g144) fl_M_71_8) (pu_K (isK_eq g144) (fun q hq => by cases (Option.some.inj hq); exact Or.inr ⟨rfl, rfl⟩)) (fi_K (isK_eq g144) rfl) rfl ?_
  refine z_hp eh146 ?_
  refine z_aload_n 0 d_M_init_182 rfl rfl ?_
  refine z_bipush (v := (nI 32)) d_M_init_183 (by decide) ?_
  obtain ⟨h148, eh149, hf⟩ := nm_some hf
  refine z_newI (N := 32) (κ := 96) d_M_init_185 (by decide) rfl (by decide) (by decide) (by decide) ?_
  refine z_hp eh149 ?_
  obtain ⟨g151, hf⟩ := gd_some hf
  obtain ⟨h152, eh153, hf⟩ := nm_some hf
  refine z_putR d_M_init_187 (fl_K (isK_eq g151) fl_M_74_8) (pu_K (isK_eq g151) (fun q hq => by cases (Option.some.inj hq); exact Or.inr ⟨rfl, rfl⟩)) (fi_K (isK_eq g151) rfl) rfl ?_
  refine z_hp eh153 ?_
  refine z_aload_n 0 d_M_init_190 rfl rfl ?_
  refine z_bipush (v := (nI 32)) d_M_init_191 (by decide) ?_
  obtain ⟨h155, eh156, hf⟩ := nm_some hf
  refine z_newI (N := 32) (κ := 97) d_M_init_193 (by decide) rfl (by decide) (by decide) (by decide) ?_
  refine z_hp eh156 ?_
  obtain ⟨g158, hf⟩ := gd_some hf
  obtain ⟨h159, eh160, hf⟩ := nm_some hf
  refine z_putR d_M_init_195 (fl_K (isK_eq g158) fl_M_77_8) (pu_K (isK_eq g158) (fun q hq => by cases (Option.some.inj hq); exact Or.inr ⟨rfl, rfl⟩)) (fi_K (isK_eq g158) rfl) rfl ?_
  refine z_hp eh160 ?_
  refine z_aload_n 0 d_M_init_198 rfl rfl ?_
  refine z_bipush (v := (nI 32)) d_M_init_199 (by decide) ?_
  obtain ⟨h162, eh163, hf⟩ := nm_some hf
  refine z_newI (N := 32) (κ := 98) d_M_init_201 (by decide) rfl (by decide) (by decide) (by decide) ?_
  refine z_hp eh163 ?_
  obtain ⟨g165, hf⟩ := gd_some hf
  obtain ⟨h166, eh167, hf⟩ := nm_some hf
  refine z_putR d_M_init_203 (fl_K (isK_eq g165) fl_M_80_8) (pu_K (isK_eq g165) (fun q hq => by cases (Option.some.inj hq); exact Or.inr ⟨rfl, rfl⟩)) (fi_K (isK_eq g165) rfl) rfl ?_
  refine z_hp eh167 ?_
  refine z_aload_n 0 d_M_init_206 rfl rfl ?_
  refine z_iconst (v := (1 : Int32)) d_M_init_207 (by decide) ?_
  obtain ⟨h169, eh170, hf⟩ := nm_some hf
  refine z_putI d_M_init_208 (fl_K (isK_eq (isK_wR eh167 g165)) fl_M_83_8) (pu_K (isK_eq (isK_wR eh167 g165)) (fun q hq => by cases (Option.some.inj hq); exact Or.inl rfl)) (fi_K (isK_eq (isK_wR eh167 g165)) rfl) rfl ?_
  refine z_hp eh170 ?_
  refine z_aload_n 0 d_M_init_211 rfl rfl ?_
  refine z_bipush (v := (nI 48)) d_M_init_212 (by decide) ?_
  obtain ⟨h172, eh173, hf⟩ := nm_some hf
  refine z_newI (N := 48) (κ := 99) d_M_init_214 (by decide) rfl (by decide) (by decide) (by decide) ?_
  refine z_hp eh173 ?_
  obtain ⟨g175, hf⟩ := gd_some hf
  obtain ⟨h176, eh177, hf⟩ := nm_some hf
  refine z_putR d_M_init_216 (fl_K (isK_eq g175) fl_M_87_8) (pu_K (isK_eq g175) (fun q hq => by cases (Option.some.inj hq); exact Or.inr ⟨rfl, rfl⟩)) (fi_K (isK_eq g175) rfl) rfl ?_
  refine z_hp eh177 ?_
  refine z_aload_n 0 d_M_init_219 rfl rfl ?_
  refine z_bipush (v := (nI 48)) d_M_init_220 (by decide) ?_
  obtain ⟨h179, eh180, hf⟩ := nm_some hf
  refine z_newI (N := 48) (κ := 100) d_M_init_222 (by decide) rfl (by decide) (by decide) (by decide) ?_
  refine z_hp eh180 ?_
  obtain ⟨g182, hf⟩ := gd_some hf
  obtain ⟨h183, eh184, hf⟩ := nm_some hf
  refine z_putR d_M_init_224 (fl_K (isK_eq g182) fl_M_90_8) (pu_K (isK_eq g182) (fun q hq => by cases (Option.some.inj hq); exact Or.inr ⟨rfl, rfl⟩)) (fi_K (isK_eq g182) rfl) rfl ?_
  refine z_hp eh184 ?_
  refine z_aload_n 0 d_M_init_227 rfl rfl ?_
  refine z_bipush (v := (nI 48)) d_M_init_228 (by decide) ?_
  obtain ⟨h186, eh187, hf⟩ := nm_some hf
  refine z_newI (N := 48) (κ := 101) d_M_init_230 (by decide) rfl (by decide) (by decide) (by decide) ?_
  refine z_hp eh187 ?_
  obtain ⟨g189, hf⟩ := gd_some hf
  obtain ⟨h190, eh191, hf⟩ := nm_some hf
  refine z_putR d_M_init_232 (fl_K (isK_eq g189) fl_M_93_8) (pu_K (isK_eq g189) (fun q hq => by cases (Option.some.inj hq); exact Or.inr ⟨rfl, rfl⟩)) (fi_K (isK_eq g189) rfl) rfl ?_
  refine z_hp eh191 ?_
  refine z_aload_n 0 d_M_init_235 rfl rfl ?_
  refine z_iconst (v := (1 : Int32)) d_M_init_236 (by decide) ?_
  obtain ⟨h193, eh194, hf⟩ := nm_some hf
  refine z_putI d_M_init_237 (fl_K (isK_eq (isK_wR eh191 g189)) fl_M_96_8) (pu_K (isK_eq (isK_wR eh191 g189)) (fun q hq => by cases (Option.some.inj hq); exact Or.inl rfl)) (fi_K (isK_eq (isK_wR eh191 g189)) rfl) rfl ?_
  refine z_hp eh194 ?_
  refine z_aload_n 0 d_M_init_240 rfl rfl ?_
  refine z_iconst (v := (1 : Int32)) d_M_init_241 (by decide) ?_
  obtain ⟨h196, eh197, hf⟩ := nm_some hf
  refine z_putI d_M_init_242 (fl_K (isK_eq (isK_wI eh194 (isK_wR eh191 g189))) fl_M_99_8) (pu_K (isK_eq (isK_wI eh194 (isK_wR eh191 g189))) (fun q hq => by cases (Option.some.inj hq); exact Or.inl rfl)) (fi_K (isK_eq (isK_wI eh194 (isK_wR eh191 g189))) rfl) rfl ?_
  refine z_hp eh197 ?_
  refine z_aload_n 0 d_M_init_245 rfl rfl ?_
  refine z_iconst (v := (nI 4)) d_M_init_246 (by decide) ?_
  obtain ⟨h199, eh200, hf⟩ := nm_some hf
  refine z_newI (N := 4) (κ := 102) d_M_init_247 (by decide) rfl (by decide) (by decide) (by decide) ?_
  refine z_hp eh200 ?_
  obtain ⟨g202, hf⟩ := gd_some hf
  obtain ⟨h203, eh204, hf⟩ := nm_some hf
  refine z_putR d_M_init_249 (fl_K (isK_eq g202) fl_M_102_8) (pu_K (isK_eq g202) (fun q hq => by cases (Option.some.inj hq); exact Or.inr ⟨rfl, rfl⟩)) (fi_K (isK_eq g202) rfl) rfl ?_
  refine z_hp eh204 ?_
  refine z_iconst (v := (0 : Int32)) d_M_init_252 (by decide) ?_
  refine z_istore_n (ls2 := [(1, vi (0 : Int32)), (0, vr (some a0))]) d_M_init_253 rfl (by decide) rfl ?_
  obtain ⟨x215, el216, hf⟩ := bd_some hf
  refine z_ls [1, 0] rfl ?_
  refine zl_M_init_254 el216 ?_
  cases (Option.some.inj hf)
  exact z_ret d_M_init_273 rfl
set_option maxRecDepth 100000 in
set_option maxHeartbeats 4000000 in
theorem fr_M_init {C : Ct} {mi : Nat} {a0 : Nat} {h h' : Hp} (hf : f_M_init a0 h = some h') : Keep W_M_init h h' := by
  unfold f_M_init at hf
  obtain ⟨h1, eh2, hf⟩ := nm_some hf
  have K3 := (Keep.refl W_M_init _).trans (kw_N eh2)
  obtain ⟨g4, hf⟩ := gd_some hf
  obtain ⟨h5, eh6, hf⟩ := nm_some hf
  have K7 := K3.trans (kw_R eh6 (isK_eq g4) (Or.inl (by decide)))
  obtain ⟨h8, eh9, hf⟩ := nm_some hf
  have K10 := K7.trans (kw_N eh9)
  obtain ⟨g11, hf⟩ := gd_some hf
  obtain ⟨h12, eh13, hf⟩ := nm_some hf
  have K14 := K10.trans (kw_R eh13 (isK_eq g11) (Or.inl (by decide)))
  obtain ⟨h15, eh16, hf⟩ := nm_some hf
  have K17 := K14.trans (kw_N eh16)
  obtain ⟨g18, hf⟩ := gd_some hf
  obtain ⟨h19, eh20, hf⟩ := nm_some hf
  have K21 := K17.trans (kw_R eh20 (isK_eq g18) (Or.inl (by decide)))
  obtain ⟨h22, eh23, hf⟩ := nm_some hf
  have K24 := K21.trans (kw_N eh23)
  obtain ⟨g25, hf⟩ := gd_some hf
  obtain ⟨h26, eh27, hf⟩ := nm_some hf
  have K28 := K24.trans (kw_R eh27 (isK_eq g25) (Or.inl (by decide)))
  obtain ⟨h29, eh30, hf⟩ := nm_some hf
  have K31 := K28.trans (kw_N eh30)
  obtain ⟨g32, hf⟩ := gd_some hf
  obtain ⟨h33, eh34, hf⟩ := nm_some hf
  have K35 := K31.trans (kw_R eh34 (isK_eq g32) (Or.inl (by decide)))
  obtain ⟨h36, eh37, hf⟩ := nm_some hf
  have K38 := K35.trans (kw_N eh37)
  obtain ⟨g39, hf⟩ := gd_some hf
  obtain ⟨h40, eh41, hf⟩ := nm_some hf
  have K42 := K38.trans (kw_R eh41 (isK_eq g39) (Or.inl (by decide)))
  obtain ⟨h43, eh44, hf⟩ := nm_some hf
  have K45 := K42.trans (kw_N eh44)
  obtain ⟨g46, hf⟩ := gd_some hf
  obtain ⟨h47, eh48, hf⟩ := nm_some hf
  have K49 := K45.trans (kw_R eh48 (isK_eq g46) (Or.inl (by decide)))
  obtain ⟨h50, eh51, hf⟩ := nm_some hf
  have K52 := K49.trans (kw_N eh51)
  obtain ⟨g53, hf⟩ := gd_some hf
  obtain ⟨h54, eh55, hf⟩ := nm_some hf
  have K56 := K52.trans (kw_R eh55 (isK_eq g53) (Or.inl (by decide)))
  obtain ⟨h57, eh58, hf⟩ := nm_some hf
  have K59 := K56.trans (kw_N eh58)
  obtain ⟨g60, hf⟩ := gd_some hf
  obtain ⟨h61, eh62, hf⟩ := nm_some hf
  have K63 := K59.trans (kw_R eh62 (isK_eq g60) (Or.inl (by decide)))
  obtain ⟨h64, eh65, hf⟩ := nm_some hf
  have K66 := K63.trans (kw_N eh65)
  obtain ⟨g67, hf⟩ := gd_some hf
  obtain ⟨h68, eh69, hf⟩ := nm_some hf
  have K70 := K66.trans (kw_R eh69 (isK_eq g67) (Or.inl (by decide)))
  obtain ⟨h71, eh72, hf⟩ := nm_some hf
  have K73 := K70.trans (kw_N eh72)
  obtain ⟨g74, hf⟩ := gd_some hf
  obtain ⟨h75, eh76, hf⟩ := nm_some hf
  have K77 := K73.trans (kw_R eh76 (isK_eq g74) (Or.inl (by decide)))
  obtain ⟨h78, eh79, hf⟩ := nm_some hf
  have K80 := K77.trans (kw_N eh79)
  obtain ⟨g81, hf⟩ := gd_some hf
  obtain ⟨h82, eh83, hf⟩ := nm_some hf
  have K84 := K80.trans (kw_R eh83 (isK_eq g81) (Or.inl (by decide)))
  obtain ⟨h85, eh86, hf⟩ := nm_some hf
  have K87 := K84.trans (kw_N eh86)
  obtain ⟨g88, hf⟩ := gd_some hf
  obtain ⟨h89, eh90, hf⟩ := nm_some hf
  have K91 := K87.trans (kw_R eh90 (isK_eq g88) (Or.inl (by decide)))
  obtain ⟨h92, eh93, hf⟩ := nm_some hf
  have K94 := K91.trans (kw_N eh93)
  obtain ⟨g95, hf⟩ := gd_some hf
  obtain ⟨h96, eh97, hf⟩ := nm_some hf
  have K98 := K94.trans (kw_R eh97 (isK_eq g95) (Or.inl (by decide)))
  obtain ⟨h99, eh100, hf⟩ := nm_some hf
  have K101 := K98.trans (kw_N eh100)
  obtain ⟨g102, hf⟩ := gd_some hf
  obtain ⟨h103, eh104, hf⟩ := nm_some hf
  have K105 := K101.trans (kw_R eh104 (isK_eq g102) (Or.inl (by decide)))
  obtain ⟨h106, eh107, hf⟩ := nm_some hf
  have K108 := K105.trans (kw_N eh107)
  obtain ⟨g109, hf⟩ := gd_some hf
  obtain ⟨h110, eh111, hf⟩ := nm_some hf
  have K112 := K108.trans (kw_R eh111 (isK_eq g109) (Or.inl (by decide)))
  obtain ⟨h113, eh114, hf⟩ := nm_some hf
  have K115 := K112.trans (kw_N eh114)
  obtain ⟨g116, hf⟩ := gd_some hf
  obtain ⟨h117, eh118, hf⟩ := nm_some hf
  have K119 := K115.trans (kw_R eh118 (isK_eq g116) (Or.inl (by decide)))
  obtain ⟨h120, eh121, hf⟩ := nm_some hf
  have K122 := K119.trans (kw_N eh121)
  obtain ⟨g123, hf⟩ := gd_some hf
  obtain ⟨h124, eh125, hf⟩ := nm_some hf
  have K126 := K122.trans (kw_R eh125 (isK_eq g123) (Or.inl (by decide)))
  obtain ⟨h127, eh128, hf⟩ := nm_some hf
  have K129 := K126.trans (kw_N eh128)
  obtain ⟨g130, hf⟩ := gd_some hf
  obtain ⟨h131, eh132, hf⟩ := nm_some hf
  have K133 := K129.trans (kw_R eh132 (isK_eq g130) (Or.inl (by decide)))
  obtain ⟨h134, eh135, hf⟩ := nm_some hf
  have K136 := K133.trans (kw_N eh135)
  obtain ⟨g137, hf⟩ := gd_some hf
  obtain ⟨h138, eh139, hf⟩ := nm_some hf
  have K140 := K136.trans (kw_R eh139 (isK_eq g137) (Or.inl (by decide)))
  obtain ⟨h141, eh142, hf⟩ := nm_some hf
  have K143 := K140.trans (kw_N eh142)
  obtain ⟨g144, hf⟩ := gd_some hf
  obtain ⟨h145, eh146, hf⟩ := nm_some hf
  have K147 := K143.trans (kw_R eh146 (isK_eq g144) (Or.inl (by decide)))
  obtain ⟨h148, eh149, hf⟩ := nm_some hf
  have K150 := K147.trans (kw_N eh149)
  obtain ⟨g151, hf⟩ := gd_some hf
  obtain ⟨h152, eh153, hf⟩ := nm_some hf
  have K154 := K150.trans (kw_R eh153 (isK_eq g151) (Or.inl (by decide)))
  obtain ⟨h155, eh156, hf⟩ := nm_some hf
  have K157 := K154.trans (kw_N eh156)
  obtain ⟨g158, hf⟩ := gd_some hf
  obtain ⟨h159, eh160, hf⟩ := nm_some hf
  have K161 := K157.trans (kw_R eh160 (isK_eq g158) (Or.inl (by decide)))
  obtain ⟨h162, eh163, hf⟩ := nm_some hf
  have K164 := K161.trans (kw_N eh163)
  obtain ⟨g165, hf⟩ := gd_some hf
  obtain ⟨h166, eh167, hf⟩ := nm_some hf
  have K168 := K164.trans (kw_R eh167 (isK_eq g165) (Or.inl (by decide)))
  obtain ⟨h169, eh170, hf⟩ := nm_some hf
  have K171 := K168.trans (kw_I eh170 (isK_eq (isK_wR eh167 g165)) (Or.inl (by decide)))
  obtain ⟨h172, eh173, hf⟩ := nm_some hf
  have K174 := K171.trans (kw_N eh173)
  obtain ⟨g175, hf⟩ := gd_some hf
  obtain ⟨h176, eh177, hf⟩ := nm_some hf
  have K178 := K174.trans (kw_R eh177 (isK_eq g175) (Or.inl (by decide)))
  obtain ⟨h179, eh180, hf⟩ := nm_some hf
  have K181 := K178.trans (kw_N eh180)
  obtain ⟨g182, hf⟩ := gd_some hf
  obtain ⟨h183, eh184, hf⟩ := nm_some hf
  have K185 := K181.trans (kw_R eh184 (isK_eq g182) (Or.inl (by decide)))
  obtain ⟨h186, eh187, hf⟩ := nm_some hf
  have K188 := K185.trans (kw_N eh187)
  obtain ⟨g189, hf⟩ := gd_some hf
  obtain ⟨h190, eh191, hf⟩ := nm_some hf
  have K192 := K188.trans (kw_R eh191 (isK_eq g189) (Or.inl (by decide)))
  obtain ⟨h193, eh194, hf⟩ := nm_some hf
  have K195 := K192.trans (kw_I eh194 (isK_eq (isK_wR eh191 g189)) (Or.inl (by decide)))
  obtain ⟨h196, eh197, hf⟩ := nm_some hf
  have K198 := K195.trans (kw_I eh197 (isK_eq (isK_wI eh194 (isK_wR eh191 g189))) (Or.inl (by decide)))
  obtain ⟨h199, eh200, hf⟩ := nm_some hf
  have K201 := K198.trans (kw_N eh200)
  obtain ⟨g202, hf⟩ := gd_some hf
  obtain ⟨h203, eh204, hf⟩ := nm_some hf
  have K205 := K201.trans (kw_R eh204 (isK_eq g202) (Or.inl (by decide)))
  obtain ⟨x215, el216, hf⟩ := bd_some hf
  have K217 := K205.trans (kl_M_init_254 (C := C) (mi := mi) el216)
  cases (Option.some.inj hf)
  exact K217
theorem c_M_init {l : Launch} {C : Ct} {mi : Nat} {a0 : Nat} {h h' : Hp} (hf : f_M_init a0 h = some h') : Mt l C mi m_M_init 1 [vr (some a0)] h none h' := mt_V rfl rfl (by decide) (Nat.le_of_ble_eq_true rfl) (zf_M_init hf)
-- VersionMapsModel.writeMap(IIII)I
def m_M_writeMap : Mi := (⟨"VersionMapsModel", "writeMap", "(IIII)I"⟩, prog_11_method_29_code, 11, (Option.some Jvm.ClassFile.FieldType.int), .ireturn)
theorem cw_M_writeMap : cw_ok m_M_writeMap 4 := ⟨by decide +kernel, by decide +kernel, by decide +kernel, by decide +kernel⟩
theorem im_M_writeMap : Cond.instanceMethod m_M_writeMap.1 ∈ lw_w := by decide +kernel
theorem se_M_writeMap : Cond.selects "VersionMapsModel" m_M_writeMap.1 m_M_writeMap.1 ∈ lw_w := by decide +kernel
theorem d_M_writeMap_0 : decode prog_11_method_29_code 0 = .ok (.iload_n 3, 1) := by decide +kernel
theorem d_M_writeMap_1 : decode prog_11_method_29_code 1 = .ok (.istore 5, 2) := by decide +kernel
theorem d_M_writeMap_3 : decode prog_11_method_29_code 3 = .ok (.aload_n 0, 1) := by decide +kernel
theorem d_M_writeMap_4 : decode prog_11_method_29_code 4 = .ok (.iload 4, 2) := by decide +kernel
theorem d_M_writeMap_6 : decode prog_11_method_29_code 6 = .ok (.invokevirtual 108, 3) := by decide +kernel
theorem d_M_writeMap_9 : decode prog_11_method_29_code 9 = .ok (.istore 6, 2) := by decide +kernel
theorem d_M_writeMap_11 : decode prog_11_method_29_code 11 = .ok (.iconst 0, 1) := by decide +kernel
theorem d_M_writeMap_12 : decode prog_11_method_29_code 12 = .ok (.istore 7, 2) := by decide +kernel
theorem d_M_writeMap_14 : decode prog_11_method_29_code 14 = .ok (.iload 7, 2) := by decide +kernel
theorem d_M_writeMap_16 : decode prog_11_method_29_code 16 = .ok (.iconst 4, 1) := by decide +kernel
theorem d_M_writeMap_17 : decode prog_11_method_29_code 17 = .ok (.if_icmp .ge 141, 3) := by decide +kernel
theorem d_M_writeMap_20 : decode prog_11_method_29_code 20 = .ok (.aload_n 0, 1) := by decide +kernel
theorem d_M_writeMap_21 : decode prog_11_method_29_code 21 = .ok (.getfield 13, 3) := by decide +kernel
theorem d_M_writeMap_24 : decode prog_11_method_29_code 24 = .ok (.iconst 4, 1) := by decide +kernel
theorem d_M_writeMap_25 : decode prog_11_method_29_code 25 = .ok (.iload_n 1, 1) := by decide +kernel
theorem d_M_writeMap_26 : decode prog_11_method_29_code 26 = .ok (.imul, 1) := by decide +kernel
theorem d_M_writeMap_27 : decode prog_11_method_29_code 27 = .ok (.iload 7, 2) := by decide +kernel
theorem d_M_writeMap_29 : decode prog_11_method_29_code 29 = .ok (.iadd, 1) := by decide +kernel
theorem d_M_writeMap_30 : decode prog_11_method_29_code 30 = .ok (.baload, 1) := by decide +kernel
theorem d_M_writeMap_31 : decode prog_11_method_29_code 31 = .ok (.ifCond .eq 121, 3) := by decide +kernel
theorem d_M_writeMap_34 : decode prog_11_method_29_code 34 = .ok (.aload_n 0, 1) := by decide +kernel
theorem d_M_writeMap_35 : decode prog_11_method_29_code 35 = .ok (.iload_n 1, 1) := by decide +kernel
theorem d_M_writeMap_36 : decode prog_11_method_29_code 36 = .ok (.iload 7, 2) := by decide +kernel
theorem d_M_writeMap_38 : decode prog_11_method_29_code 38 = .ok (.invokevirtual 143, 3) := by decide +kernel
theorem d_M_writeMap_41 : decode prog_11_method_29_code 41 = .ok (.ifCond .ne 6, 3) := by decide +kernel
theorem d_M_writeMap_44 : decode prog_11_method_29_code 44 = .ok (.goto 108, 3) := by decide +kernel
theorem d_M_writeMap_47 : decode prog_11_method_29_code 47 = .ok (.aload_n 0, 1) := by decide +kernel
theorem d_M_writeMap_48 : decode prog_11_method_29_code 48 = .ok (.iload_n 2, 1) := by decide +kernel
theorem d_M_writeMap_49 : decode prog_11_method_29_code 49 = .ok (.iload 5, 2) := by decide +kernel
theorem d_M_writeMap_51 : decode prog_11_method_29_code 51 = .ok (.iconst 0, 1) := by decide +kernel
theorem d_M_writeMap_52 : decode prog_11_method_29_code 52 = .ok (.iload_n 1, 1) := by decide +kernel
theorem d_M_writeMap_53 : decode prog_11_method_29_code 53 = .ok (.iload 7, 2) := by decide +kernel
theorem d_M_writeMap_55 : decode prog_11_method_29_code 55 = .ok (.invokevirtual 173, 3) := by decide +kernel
theorem d_M_writeMap_58 : decode prog_11_method_29_code 58 = .ok (.istore 8, 2) := by decide +kernel
theorem d_M_writeMap_60 : decode prog_11_method_29_code 60 = .ok (.iconst 0, 1) := by decide +kernel
theorem d_M_writeMap_61 : decode prog_11_method_29_code 61 = .ok (.istore 9, 2) := by decide +kernel
theorem d_M_writeMap_63 : decode prog_11_method_29_code 63 = .ok (.iload 9, 2) := by decide +kernel
theorem d_M_writeMap_65 : decode prog_11_method_29_code 65 = .ok (.bipush 8, 2) := by decide +kernel
theorem d_M_writeMap_67 : decode prog_11_method_29_code 67 = .ok (.if_icmp .ge 82, 3) := by decide +kernel
theorem d_M_writeMap_70 : decode prog_11_method_29_code 70 = .ok (.bipush 32, 2) := by decide +kernel
theorem d_M_writeMap_72 : decode prog_11_method_29_code 72 = .ok (.iload_n 1, 1) := by decide +kernel
theorem d_M_writeMap_73 : decode prog_11_method_29_code 73 = .ok (.imul, 1) := by decide +kernel
theorem d_M_writeMap_74 : decode prog_11_method_29_code 74 = .ok (.bipush 8, 2) := by decide +kernel
theorem d_M_writeMap_76 : decode prog_11_method_29_code 76 = .ok (.iload 7, 2) := by decide +kernel
theorem d_M_writeMap_78 : decode prog_11_method_29_code 78 = .ok (.imul, 1) := by decide +kernel
theorem d_M_writeMap_79 : decode prog_11_method_29_code 79 = .ok (.iadd, 1) := by decide +kernel
theorem d_M_writeMap_80 : decode prog_11_method_29_code 80 = .ok (.iload 9, 2) := by decide +kernel
theorem d_M_writeMap_82 : decode prog_11_method_29_code 82 = .ok (.iadd, 1) := by decide +kernel
theorem d_M_writeMap_83 : decode prog_11_method_29_code 83 = .ok (.istore 10, 2) := by decide +kernel
theorem d_M_writeMap_85 : decode prog_11_method_29_code 85 = .ok (.aload_n 0, 1) := by decide +kernel
theorem d_M_writeMap_86 : decode prog_11_method_29_code 86 = .ok (.getfield 41, 3) := by decide +kernel
theorem d_M_writeMap_89 : decode prog_11_method_29_code 89 = .ok (.bipush 8, 2) := by decide +kernel
theorem d_M_writeMap_91 : decode prog_11_method_29_code 91 = .ok (.iload 8, 2) := by decide +kernel
theorem d_M_writeMap_93 : decode prog_11_method_29_code 93 = .ok (.imul, 1) := by decide +kernel
theorem d_M_writeMap_94 : decode prog_11_method_29_code 94 = .ok (.iload 9, 2) := by decide +kernel
theorem d_M_writeMap_96 : decode prog_11_method_29_code 96 = .ok (.iadd, 1) := by decide +kernel
theorem d_M_writeMap_97 : decode prog_11_method_29_code 97 = .ok (.aload_n 0, 1) := by decide +kernel
theorem d_M_writeMap_98 : decode prog_11_method_29_code 98 = .ok (.getfield 7, 3) := by decide +kernel
theorem d_M_writeMap_101 : decode prog_11_method_29_code 101 = .ok (.iload 10, 2) := by decide +kernel
theorem d_M_writeMap_103 : decode prog_11_method_29_code 103 = .ok (.baload, 1) := by decide +kernel
theorem d_M_writeMap_104 : decode prog_11_method_29_code 104 = .ok (.ifCond .eq 13, 3) := by decide +kernel
theorem d_M_writeMap_107 : decode prog_11_method_29_code 107 = .ok (.aload_n 0, 1) := by decide +kernel
theorem d_M_writeMap_108 : decode prog_11_method_29_code 108 = .ok (.getfield 19, 3) := by decide +kernel
theorem d_M_writeMap_111 : decode prog_11_method_29_code 111 = .ok (.iload 10, 2) := by decide +kernel
theorem d_M_writeMap_113 : decode prog_11_method_29_code 113 = .ok (.iaload, 1) := by decide +kernel
theorem d_M_writeMap_114 : decode prog_11_method_29_code 114 = .ok (.goto 4, 3) := by decide +kernel
theorem d_M_writeMap_117 : decode prog_11_method_29_code 117 = .ok (.iconst 0, 1) := by decide +kernel
theorem d_M_writeMap_118 : decode prog_11_method_29_code 118 = .ok (.iastore, 1) := by decide +kernel
theorem d_M_writeMap_119 : decode prog_11_method_29_code 119 = .ok (.aload_n 0, 1) := by decide +kernel
theorem d_M_writeMap_120 : decode prog_11_method_29_code 120 = .ok (.getfield 7, 3) := by decide +kernel
theorem d_M_writeMap_123 : decode prog_11_method_29_code 123 = .ok (.iload 10, 2) := by decide +kernel
theorem d_M_writeMap_125 : decode prog_11_method_29_code 125 = .ok (.baload, 1) := by decide +kernel
theorem d_M_writeMap_126 : decode prog_11_method_29_code 126 = .ok (.ifCond .eq 17, 3) := by decide +kernel
theorem d_M_writeMap_129 : decode prog_11_method_29_code 129 = .ok (.aload_n 0, 1) := by decide +kernel
theorem d_M_writeMap_130 : decode prog_11_method_29_code 130 = .ok (.getfield 38, 3) := by decide +kernel
theorem d_M_writeMap_133 : decode prog_11_method_29_code 133 = .ok (.iload 8, 2) := by decide +kernel
theorem d_M_writeMap_135 : decode prog_11_method_29_code 135 = .ok (.dup2, 1) := by decide +kernel
theorem d_M_writeMap_136 : decode prog_11_method_29_code 136 = .ok (.iaload, 1) := by decide +kernel
theorem d_M_writeMap_137 : decode prog_11_method_29_code 137 = .ok (.iconst 1, 1) := by decide +kernel
theorem d_M_writeMap_138 : decode prog_11_method_29_code 138 = .ok (.iload 9, 2) := by decide +kernel
theorem d_M_writeMap_140 : decode prog_11_method_29_code 140 = .ok (.ishl, 1) := by decide +kernel
theorem d_M_writeMap_141 : decode prog_11_method_29_code 141 = .ok (.ior, 1) := by decide +kernel
theorem d_M_writeMap_142 : decode prog_11_method_29_code 142 = .ok (.iastore, 1) := by decide +kernel
theorem d_M_writeMap_143 : decode prog_11_method_29_code 143 = .ok (.iinc 9 1, 3) := by decide +kernel
theorem d_M_writeMap_146 : decode prog_11_method_29_code 146 = .ok (.goto (-83), 3) := by decide +kernel
theorem d_M_writeMap_149 : decode prog_11_method_29_code 149 = .ok (.iinc 5 1, 3) := by decide +kernel
theorem d_M_writeMap_152 : decode prog_11_method_29_code 152 = .ok (.iinc 7 1, 3) := by decide +kernel
theorem d_M_writeMap_155 : decode prog_11_method_29_code 155 = .ok (.goto (-141), 3) := by decide +kernel
theorem d_M_writeMap_158 : decode prog_11_method_29_code 158 = .ok (.aload_n 0, 1) := by decide +kernel
theorem d_M_writeMap_159 : decode prog_11_method_29_code 159 = .ok (.iload_n 1, 1) := by decide +kernel
theorem d_M_writeMap_160 : decode prog_11_method_29_code 160 = .ok (.invokevirtual 150, 3) := by decide +kernel
theorem d_M_writeMap_163 : decode prog_11_method_29_code 163 = .ok (.ifCond .ne 6, 3) := by decide +kernel
theorem d_M_writeMap_166 : decode prog_11_method_29_code 166 = .ok (.iload 5, 2) := by decide +kernel
theorem d_M_writeMap_168 : decode prog_11_method_29_code 168 = .ok (.ireturn, 1) := by decide +kernel
theorem d_M_writeMap_169 : decode prog_11_method_29_code 169 = .ok (.aload_n 0, 1) := by decide +kernel
theorem d_M_writeMap_170 : decode prog_11_method_29_code 170 = .ok (.iload_n 2, 1) := by decide +kernel
theorem d_M_writeMap_171 : decode prog_11_method_29_code 171 = .ok (.iload 5, 2) := by decide +kernel
theorem d_M_writeMap_173 : decode prog_11_method_29_code 173 = .ok (.iconst 1, 1) := by decide +kernel
theorem d_M_writeMap_174 : decode prog_11_method_29_code 174 = .ok (.iload_n 1, 1) := by decide +kernel
theorem d_M_writeMap_175 : decode prog_11_method_29_code 175 = .ok (.iconst 0, 1) := by decide +kernel
theorem d_M_writeMap_176 : decode prog_11_method_29_code 176 = .ok (.invokevirtual 173, 3) := by decide +kernel
theorem d_M_writeMap_179 : decode prog_11_method_29_code 179 = .ok (.istore 7, 2) := by decide +kernel
theorem d_M_writeMap_181 : decode prog_11_method_29_code 181 = .ok (.iload_n 3, 1) := by decide +kernel
theorem d_M_writeMap_182 : decode prog_11_method_29_code 182 = .ok (.istore 8, 2) := by decide +kernel
theorem d_M_writeMap_184 : decode prog_11_method_29_code 184 = .ok (.aload_n 0, 1) := by decide +kernel
theorem d_M_writeMap_185 : decode prog_11_method_29_code 185 = .ok (.getfield 102, 3) := by decide +kernel
theorem d_M_writeMap_188 : decode prog_11_method_29_code 188 = .ok (.iload_n 1, 1) := by decide +kernel
theorem d_M_writeMap_189 : decode prog_11_method_29_code 189 = .ok (.bipush 32, 2) := by decide +kernel
theorem d_M_writeMap_191 : decode prog_11_method_29_code 191 = .ok (.iload_n 2, 1) := by decide +kernel
theorem d_M_writeMap_192 : decode prog_11_method_29_code 192 = .ok (.imul, 1) := by decide +kernel
theorem d_M_writeMap_193 : decode prog_11_method_29_code 193 = .ok (.iload 5, 2) := by decide +kernel
theorem d_M_writeMap_195 : decode prog_11_method_29_code 195 = .ok (.iadd, 1) := by decide +kernel
theorem d_M_writeMap_196 : decode prog_11_method_29_code 196 = .ok (.iastore, 1) := by decide +kernel
theorem d_M_writeMap_197 : decode prog_11_method_29_code 197 = .ok (.iconst 0, 1) := by decide +kernel
theorem d_M_writeMap_198 : decode prog_11_method_29_code 198 = .ok (.istore 9, 2) := by decide +kernel
theorem d_M_writeMap_200 : decode prog_11_method_29_code 200 = .ok (.iload 9, 2) := by decide +kernel
theorem d_M_writeMap_202 : decode prog_11_method_29_code 202 = .ok (.iconst 4, 1) := by decide +kernel
theorem d_M_writeMap_203 : decode prog_11_method_29_code 203 = .ok (.if_icmp .ge 95, 3) := by decide +kernel
theorem d_M_writeMap_206 : decode prog_11_method_29_code 206 = .ok (.aload_n 0, 1) := by decide +kernel
theorem d_M_writeMap_207 : decode prog_11_method_29_code 207 = .ok (.getfield 13, 3) := by decide +kernel
theorem d_M_writeMap_210 : decode prog_11_method_29_code 210 = .ok (.iconst 4, 1) := by decide +kernel
theorem d_M_writeMap_211 : decode prog_11_method_29_code 211 = .ok (.iload_n 1, 1) := by decide +kernel
theorem d_M_writeMap_212 : decode prog_11_method_29_code 212 = .ok (.imul, 1) := by decide +kernel
theorem d_M_writeMap_213 : decode prog_11_method_29_code 213 = .ok (.iload 9, 2) := by decide +kernel
theorem d_M_writeMap_215 : decode prog_11_method_29_code 215 = .ok (.iadd, 1) := by decide +kernel
theorem d_M_writeMap_216 : decode prog_11_method_29_code 216 = .ok (.baload, 1) := by decide +kernel
theorem d_M_writeMap_217 : decode prog_11_method_29_code 217 = .ok (.istore 10, 2) := by decide +kernel
theorem d_M_writeMap_219 : decode prog_11_method_29_code 219 = .ok (.iload 10, 2) := by decide +kernel
theorem d_M_writeMap_221 : decode prog_11_method_29_code 221 = .ok (.ifCond .ne 39, 3) := by decide +kernel
theorem d_M_writeMap_224 : decode prog_11_method_29_code 224 = .ok (.aload_n 0, 1) := by decide +kernel
theorem d_M_writeMap_225 : decode prog_11_method_29_code 225 = .ok (.getfield 44, 3) := by decide +kernel
theorem d_M_writeMap_228 : decode prog_11_method_29_code 228 = .ok (.iconst 4, 1) := by decide +kernel
theorem d_M_writeMap_229 : decode prog_11_method_29_code 229 = .ok (.iload 7, 2) := by decide +kernel
theorem d_M_writeMap_231 : decode prog_11_method_29_code 231 = .ok (.imul, 1) := by decide +kernel
theorem d_M_writeMap_232 : decode prog_11_method_29_code 232 = .ok (.iload 9, 2) := by decide +kernel
theorem d_M_writeMap_234 : decode prog_11_method_29_code 234 = .ok (.iadd, 1) := by decide +kernel
theorem d_M_writeMap_235 : decode prog_11_method_29_code 235 = .ok (.iload 6, 2) := by decide +kernel
theorem d_M_writeMap_237 : decode prog_11_method_29_code 237 = .ok (.ifCond .ge 7, 3) := by decide +kernel
theorem d_M_writeMap_240 : decode prog_11_method_29_code 240 = .ok (.iconst 0, 1) := by decide +kernel
theorem d_M_writeMap_241 : decode prog_11_method_29_code 241 = .ok (.goto 15, 3) := by decide +kernel
theorem d_M_writeMap_244 : decode prog_11_method_29_code 244 = .ok (.aload_n 0, 1) := by decide +kernel
theorem d_M_writeMap_245 : decode prog_11_method_29_code 245 = .ok (.getfield 44, 3) := by decide +kernel
theorem d_M_writeMap_248 : decode prog_11_method_29_code 248 = .ok (.iconst 4, 1) := by decide +kernel
theorem d_M_writeMap_249 : decode prog_11_method_29_code 249 = .ok (.iload 6, 2) := by decide +kernel
theorem d_M_writeMap_251 : decode prog_11_method_29_code 251 = .ok (.imul, 1) := by decide +kernel
theorem d_M_writeMap_252 : decode prog_11_method_29_code 252 = .ok (.iload 9, 2) := by decide +kernel
theorem d_M_writeMap_254 : decode prog_11_method_29_code 254 = .ok (.iadd, 1) := by decide +kernel
theorem d_M_writeMap_255 : decode prog_11_method_29_code 255 = .ok (.iaload, 1) := by decide +kernel
theorem d_M_writeMap_256 : decode prog_11_method_29_code 256 = .ok (.iastore, 1) := by decide +kernel
theorem d_M_writeMap_257 : decode prog_11_method_29_code 257 = .ok (.goto 35, 3) := by decide +kernel
theorem d_M_writeMap_260 : decode prog_11_method_29_code 260 = .ok (.aload_n 0, 1) := by decide +kernel
theorem d_M_writeMap_261 : decode prog_11_method_29_code 261 = .ok (.iload_n 1, 1) := by decide +kernel
theorem d_M_writeMap_262 : decode prog_11_method_29_code 262 = .ok (.iload 9, 2) := by decide +kernel
theorem d_M_writeMap_264 : decode prog_11_method_29_code 264 = .ok (.invokevirtual 143, 3) := by decide +kernel
theorem d_M_writeMap_267 : decode prog_11_method_29_code 267 = .ok (.ifCond .eq 25, 3) := by decide +kernel
theorem d_M_writeMap_270 : decode prog_11_method_29_code 270 = .ok (.aload_n 0, 1) := by decide +kernel
theorem d_M_writeMap_271 : decode prog_11_method_29_code 271 = .ok (.getfield 44, 3) := by decide +kernel
theorem d_M_writeMap_274 : decode prog_11_method_29_code 274 = .ok (.iconst 4, 1) := by decide +kernel
theorem d_M_writeMap_275 : decode prog_11_method_29_code 275 = .ok (.iload 7, 2) := by decide +kernel
theorem d_M_writeMap_277 : decode prog_11_method_29_code 277 = .ok (.imul, 1) := by decide +kernel
theorem d_M_writeMap_278 : decode prog_11_method_29_code 278 = .ok (.iload 9, 2) := by decide +kernel
theorem d_M_writeMap_280 : decode prog_11_method_29_code 280 = .ok (.iadd, 1) := by decide +kernel
theorem d_M_writeMap_281 : decode prog_11_method_29_code 281 = .ok (.bipush 32, 2) := by decide +kernel
theorem d_M_writeMap_283 : decode prog_11_method_29_code 283 = .ok (.iload_n 2, 1) := by decide +kernel
theorem d_M_writeMap_284 : decode prog_11_method_29_code 284 = .ok (.imul, 1) := by decide +kernel
theorem d_M_writeMap_285 : decode prog_11_method_29_code 285 = .ok (.iload 8, 2) := by decide +kernel
theorem d_M_writeMap_287 : decode prog_11_method_29_code 287 = .ok (.iadd, 1) := by decide +kernel
theorem d_M_writeMap_288 : decode prog_11_method_29_code 288 = .ok (.iastore, 1) := by decide +kernel
theorem d_M_writeMap_289 : decode prog_11_method_29_code 289 = .ok (.iinc 8 1, 3) := by decide +kernel
theorem d_M_writeMap_292 : decode prog_11_method_29_code 292 = .ok (.iinc 9 1, 3) := by decide +kernel
theorem d_M_writeMap_295 : decode prog_11_method_29_code 295 = .ok (.goto (-95), 3) := by decide +kernel
theorem d_M_writeMap_298 : decode prog_11_method_29_code 298 = .ok (.iload 5, 2) := by decide +kernel
theorem d_M_writeMap_300 : decode prog_11_method_29_code 300 = .ok (.iconst 1, 1) := by decide +kernel
theorem d_M_writeMap_301 : decode prog_11_method_29_code 301 = .ok (.iadd, 1) := by decide +kernel
theorem d_M_writeMap_302 : decode prog_11_method_29_code 302 = .ok (.ireturn, 1) := by decide +kernel
def W_M_writeMap : Wl := ([], [79, 80, 81, 82, 83, 84, 85, 86, 102])
def j_M_writeMap_118_L63 (y0 : Nat) (y1 : Int32) (y2 : Int32) (y3 : Int32) (y5 : Int32) (y6 : Int32) (y7 : Int32) (y8 : Int32) (y9 : Int32) (y10 : Int32) (w0 : Int32) (w1 : Int32) (w2 : Option Nat) (h : Hp) : Option ((Int32 × Hp) ⊕ (Hp)) :=
  dr w2 fun a30 => gd (isK h a30 85) (gd (inb w1 (hpL h a30)) (nm (wI h a30 w1.toNatClampNeg w0) fun h34 => gd (isK h34 y0 8) (dr (hpR h34 y0 0) fun a38 => gd (isK h34 a38 75) (gd (inb y10 (hpL h34 a38)) (if (hpI h34 a38 y10.toNatClampNeg) = 0 then (some (.inl ((y9 + (1 : Int32)), h34))) else (dr (hpR h34 y0 9) fun a43 => gd (isK h34 a43 84) (gd (inb y8 (hpL h34 a43)) (nm (wI h34 a43 y8.toNatClampNeg ((hpI h34 a43 y8.toNatClampNeg) ||| ((1 : Int32) <<< (y9 &&& 31)))) fun h47 => some (.inl ((y9 + (1 : Int32)), h47))))))))))
set_option maxRecDepth 100000 in
set_option maxHeartbeats 4000000 in
theorem zj_M_writeMap_118_L63 {l : Launch} {C : Ct} {mi : Nat} {y0 : Nat} {y1 : Int32} {y2 : Int32} {y3 : Int32} {y5 : Int32} {y6 : Int32} {y7 : Int32} {y8 : Int32} {y9 : Int32} {y10 : Int32} {w0 : Int32} {w1 : Int32} {w2 : Option Nat} {h h' : Hp} {v : Int32} {q : ((Int32 × Hp) ⊕ (Hp))} (hf : j_M_writeMap_118_L63 y0 y1 y2 y3 y5 y6 y7 y8 y9 y10 w0 w1 w2 h = some q) (kc : ∀ s, q = .inl s → Z l C mi m_M_writeMap 2 63 [(0, vr (some y0)), (1, vi y1), (2, vi y2), (3, vi y3), (5, vi y5), (6, vi y6), (7, vi y7), (8, vi y8), (9, vi s.1)] [] s.2 (some (vi v)) h') (ke : ∀ x, q = .inr x → Z l C mi m_M_writeMap 2 149 [(0, vr (some y0)), (1, vi y1), (2, vi y2), (3, vi y3), (5, vi y5), (6, vi y6), (7, vi y7)] [] x (some (vi v)) h') : Z l C mi m_M_writeMap 2 118 [(0, vr (some y0)), (1, vi y1), (2, vi y2), (3, vi y3), (5, vi y5), (6, vi y6), (7, vi y7), (8, vi y8), (9, vi y9), (10, vi y10)] [vi w0, vi w1, vr w2] h (some (vi v)) h' := by
  unfold j_M_writeMap_118_L63 at hf
  obtain ⟨a30, e31, hf⟩ := dr_some hf
  obtain ⟨g32, hf⟩ := gd_some hf
  obtain ⟨g33, hf⟩ := gd_some hf
  obtain ⟨h34, eh35, hf⟩ := nm_some hf
  refine z_iast d_M_writeMap_118 e31 (by rw [isK_eq g32]; decide) (by rw [isK_eq g32]; rfl) (inb_vp g33) ?_
  refine z_hp eh35 ?_
  refine z_aload_n 0 d_M_writeMap_119 rfl rfl ?_
  obtain ⟨g37, hf⟩ := gd_some hf
  refine z_getR d_M_writeMap_120 (fl_K (isK_eq g37) fl_M_7_8) (fi_K (isK_eq g37) rfl) rfl ?_
  refine z_iload 9 d_M_writeMap_123 rfl ?_
  obtain ⟨a38, e39, hf⟩ := dr_some hf
  obtain ⟨g40, hf⟩ := gd_some hf
  obtain ⟨g41, hf⟩ := gd_some hf
  refine z_zald d_M_writeMap_125 e39 (by rw [isK_eq g40]; decide) (by rw [isK_eq g40]; rfl) (inb_vp g41) ?_
  refine z_if_eq (tgt := 143) d_M_writeMap_126 (by decide) (fun c42 => ?_) (fun c42 => ?_)
  · rw [if_pos c42] at hf
    refine z_iinc (ls2 := [(9, vi (y9 + (1 : Int32))), (0, vr (some y0)), (1, vi y1), (2, vi y2), (3, vi y3), (5, vi y5), (6, vi y6), (7, vi y7), (8, vi y8), (10, vi y10)]) 8 d_M_writeMap_143 rfl rfl (by decide) rfl ?_
    refine z_goto (tgt := 63) d_M_writeMap_146 (by decide) ?_
    refine z_ls [1, 2, 3, 4, 5, 6, 7, 8, 0] rfl ?_
    exact kc ((y9 + (1 : Int32)), h34) (Option.some.inj hf).symm
  · rw [if_neg c42] at hf
    refine z_aload_n 0 d_M_writeMap_129 rfl rfl ?_
    refine z_getR d_M_writeMap_130 (fl_K (isK_eq g37) fl_M_38_8) (fi_K (isK_eq g37) rfl) rfl ?_
    refine z_iload 7 d_M_writeMap_133 rfl ?_
    refine z_dup2 d_M_writeMap_135 rfl rfl ?_
    obtain ⟨a43, e44, hf⟩ := dr_some hf
    obtain ⟨g45, hf⟩ := gd_some hf
    obtain ⟨g46, hf⟩ := gd_some hf
    refine z_iald d_M_writeMap_136 e44 (by rw [isK_eq g45]; decide) (by rw [isK_eq g45]; rfl) (inb_vp g46) ?_
    refine z_iconst (v := (1 : Int32)) d_M_writeMap_137 (by decide) ?_
    refine z_iload 8 d_M_writeMap_138 rfl ?_
    refine z_ishl d_M_writeMap_140 ?_
    refine z_ior d_M_writeMap_141 ?_
    obtain ⟨h47, eh48, hf⟩ := nm_some hf
    refine z_iast d_M_writeMap_142 e44 (by rw [isK_eq g45]; decide) (by rw [isK_eq g45]; rfl) (inb_vp g46) ?_
    refine z_hp eh48 ?_
    refine z_iinc (ls2 := [(9, vi (y9 + (1 : Int32))), (0, vr (some y0)), (1, vi y1), (2, vi y2), (3, vi y3), (5, vi y5), (6, vi y6), (7, vi y7), (8, vi y8), (10, vi y10)]) 8 d_M_writeMap_143 rfl rfl (by decide) rfl ?_
    refine z_goto (tgt := 63) d_M_writeMap_146 (by decide) ?_
    refine z_ls [1, 2, 3, 4, 5, 6, 7, 8, 0] rfl ?_
    exact kc ((y9 + (1 : Int32)), h47) (Option.some.inj hf).symm
set_option maxRecDepth 100000 in
set_option maxHeartbeats 4000000 in
theorem kj_M_writeMap_118_L63 {C : Ct} {mi : Nat} {y0 : Nat} {y1 : Int32} {y2 : Int32} {y3 : Int32} {y5 : Int32} {y6 : Int32} {y7 : Int32} {y8 : Int32} {y9 : Int32} {y10 : Int32} {w0 : Int32} {w1 : Int32} {w2 : Option Nat} {h : Hp} {q : ((Int32 × Hp) ⊕ (Hp))} (hf : j_M_writeMap_118_L63 y0 y1 y2 y3 y5 y6 y7 y8 y9 y10 w0 w1 w2 h = some q) : Keep W_M_writeMap h (Sum.elim (fun s : Int32 × Hp => s.2) (fun x : Hp => x) q) := by
  unfold j_M_writeMap_118_L63 at hf
  obtain ⟨a30, e31, hf⟩ := dr_some hf
  obtain ⟨g32, hf⟩ := gd_some hf
  obtain ⟨g33, hf⟩ := gd_some hf
  obtain ⟨h34, eh35, hf⟩ := nm_some hf
  have K36 := (Keep.refl W_M_writeMap _).trans (kw_I eh35 (isK_eq g32) (Or.inr (by decide)))
  obtain ⟨g37, hf⟩ := gd_some hf
  obtain ⟨a38, e39, hf⟩ := dr_some hf
  obtain ⟨g40, hf⟩ := gd_some hf
  obtain ⟨g41, hf⟩ := gd_some hf
  rcases Classical.em ((hpI h34 a38 y10.toNatClampNeg) = 0) with c42 | c42
  · rw [if_pos c42] at hf
    cases (Option.some.inj hf)
    exact K36
  · rw [if_neg c42] at hf
    obtain ⟨a43, e44, hf⟩ := dr_some hf
    obtain ⟨g45, hf⟩ := gd_some hf
    obtain ⟨g46, hf⟩ := gd_some hf
    obtain ⟨h47, eh48, hf⟩ := nm_some hf
    have K49 := K36.trans (kw_I eh48 (isK_eq g45) (Or.inr (by decide)))
    cases (Option.some.inj hf)
    exact K49
def b_M_writeMap_63 (y0 : Nat) (y1 : Int32) (y2 : Int32) (y3 : Int32) (y5 : Int32) (y6 : Int32) (y7 : Int32) (y8 : Int32) (y9 : Int32) (h : Hp) : Option ((Int32 × Hp) ⊕ (Hp)) :=
  if (nI 8) ≤ y9 then (some (.inr h)) else (gd (isK h y0 8) (dr (hpR h y0 0) fun a25 => gd (isK h a25 75) (gd (inb ((((nI 32) * y1) + ((nI 8) * y7)) + y9) (hpL h a25)) (if (hpI h a25 ((((nI 32) * y1) + ((nI 8) * y7)) + y9).toNatClampNeg) = 0 then (j_M_writeMap_118_L63 y0 y1 y2 y3 y5 y6 y7 y8 y9 ((((nI 32) * y1) + ((nI 8) * y7)) + y9) (0 : Int32) (((nI 8) * y8) + y9) (hpR h y0 10) h) else (dr (hpR h y0 3) fun a50 => gd (isK h a50 78) (gd (inb ((((nI 32) * y1) + ((nI 8) * y7)) + y9) (hpL h a50)) (j_M_writeMap_118_L63 y0 y1 y2 y3 y5 y6 y7 y8 y9 ((((nI 32) * y1) + ((nI 8) * y7)) + y9) (hpI h a50 ((((nI 32) * y1) + ((nI 8) * y7)) + y9).toNatClampNeg) (((nI 8) * y8) + y9) (hpR h y0 10) h)))))))
set_option maxRecDepth 100000 in
set_option maxHeartbeats 4000000 in
theorem zb_M_writeMap_63 {l : Launch} {C : Ct} {mi : Nat} {y0 : Nat} {y1 : Int32} {y2 : Int32} {y3 : Int32} {y5 : Int32} {y6 : Int32} {y7 : Int32} {y8 : Int32} {y9 : Int32} {h h' : Hp} {v : Int32} {q : ((Int32 × Hp) ⊕ (Hp))} (hf : b_M_writeMap_63 y0 y1 y2 y3 y5 y6 y7 y8 y9 h = some q) (kc : ∀ s, q = .inl s → Z l C mi m_M_writeMap 2 63 [(0, vr (some y0)), (1, vi y1), (2, vi y2), (3, vi y3), (5, vi y5), (6, vi y6), (7, vi y7), (8, vi y8), (9, vi s.1)] [] s.2 (some (vi v)) h') (ke : ∀ x, q = .inr x → Z l C mi m_M_writeMap 2 149 [(0, vr (some y0)), (1, vi y1), (2, vi y2), (3, vi y3), (5, vi y5), (6, vi y6), (7, vi y7)] [] x (some (vi v)) h') : Z l C mi m_M_writeMap 2 63 [(0, vr (some y0)), (1, vi y1), (2, vi y2), (3, vi y3), (5, vi y5), (6, vi y6), (7, vi y7), (8, vi y8), (9, vi y9)] [] h (some (vi v)) h' := by
  unfold b_M_writeMap_63 at hf
  refine z_iload 8 d_M_writeMap_63 rfl ?_
  refine z_bipush (v := (nI 8)) d_M_writeMap_65 (by decide) ?_
  refine z_icmp_ge (tgt := 149) d_M_writeMap_67 (by decide) (fun c23 => ?_) (fun c23 => ?_)
  · rw [if_pos c23] at hf
    refine z_ls [0, 1, 2, 3, 4, 5, 6] rfl ?_
    exact ke h (Option.some.inj hf).symm
  · rw [if_neg c23] at hf
    refine z_bipush (v := (nI 32)) d_M_writeMap_70 (by decide) ?_
    refine z_iload_n 1 d_M_writeMap_72 rfl rfl ?_
    refine z_imul d_M_writeMap_73 ?_
    refine z_bipush (v := (nI 8)) d_M_writeMap_74 (by decide) ?_
    refine z_iload 6 d_M_writeMap_76 rfl ?_
    refine z_imul d_M_writeMap_78 ?_
    refine z_iadd d_M_writeMap_79 ?_
    refine z_iload 8 d_M_writeMap_80 rfl ?_
    refine z_iadd d_M_writeMap_82 ?_
    refine z_istore (ls2 := [(10, vi ((((nI 32) * y1) + ((nI 8) * y7)) + y9)), (0, vr (some y0)), (1, vi y1), (2, vi y2), (3, vi y3), (5, vi y5), (6, vi y6), (7, vi y7), (8, vi y8), (9, vi y9)]) d_M_writeMap_83 (by decide) rfl ?_
    refine z_aload_n 1 d_M_writeMap_85 rfl rfl ?_
    obtain ⟨g24, hf⟩ := gd_some hf
    refine z_getR d_M_writeMap_86 (fl_K (isK_eq g24) fl_M_41_8) (fi_K (isK_eq g24) rfl) rfl ?_
    refine z_bipush (v := (nI 8)) d_M_writeMap_89 (by decide) ?_
    refine z_iload 8 d_M_writeMap_91 rfl ?_
    refine z_imul d_M_writeMap_93 ?_
    refine z_iload 9 d_M_writeMap_94 rfl ?_
    refine z_iadd d_M_writeMap_96 ?_
    refine z_aload_n 1 d_M_writeMap_97 rfl rfl ?_
    refine z_getR d_M_writeMap_98 (fl_K (isK_eq g24) fl_M_7_8) (fi_K (isK_eq g24) rfl) rfl ?_
    refine z_iload 0 d_M_writeMap_101 rfl ?_
    obtain ⟨a25, e26, hf⟩ := dr_some hf
    obtain ⟨g27, hf⟩ := gd_some hf
    obtain ⟨g28, hf⟩ := gd_some hf
    refine z_zald d_M_writeMap_103 e26 (by rw [isK_eq g27]; decide) (by rw [isK_eq g27]; rfl) (inb_vp g28) ?_
    refine z_if_eq (tgt := 117) d_M_writeMap_104 (by decide) (fun c29 => ?_) (fun c29 => ?_)
    · rw [if_pos c29] at hf
      refine z_iconst (v := (0 : Int32)) d_M_writeMap_117 (by decide) ?_
      refine z_ls [1, 2, 3, 4, 5, 6, 7, 8, 9, 0] rfl ?_
      exact zj_M_writeMap_118_L63 hf kc ke
    · rw [if_neg c29] at hf
      refine z_aload_n 1 d_M_writeMap_107 rfl rfl ?_
      refine z_getR d_M_writeMap_108 (fl_K (isK_eq g24) fl_M_19_8) (fi_K (isK_eq g24) rfl) rfl ?_
      refine z_iload 0 d_M_writeMap_111 rfl ?_
      obtain ⟨a50, e51, hf⟩ := dr_some hf
      obtain ⟨g52, hf⟩ := gd_some hf
      obtain ⟨g53, hf⟩ := gd_some hf
      refine z_iald d_M_writeMap_113 e51 (by rw [isK_eq g52]; decide) (by rw [isK_eq g52]; rfl) (inb_vp g53) ?_
      refine z_goto (tgt := 118) d_M_writeMap_114 (by decide) ?_
      refine z_ls [1, 2, 3, 4, 5, 6, 7, 8, 9, 0] rfl ?_
      exact zj_M_writeMap_118_L63 hf kc ke
set_option maxRecDepth 100000 in
set_option maxHeartbeats 4000000 in
theorem kb_M_writeMap_63 {C : Ct} {mi : Nat} {y0 : Nat} {y1 : Int32} {y2 : Int32} {y3 : Int32} {y5 : Int32} {y6 : Int32} {y7 : Int32} {y8 : Int32} {y9 : Int32} {h : Hp} {q : ((Int32 × Hp) ⊕ (Hp))} (hf : b_M_writeMap_63 y0 y1 y2 y3 y5 y6 y7 y8 y9 h = some q) : Keep W_M_writeMap h (Sum.elim (fun s : Int32 × Hp => s.2) (fun x : Hp => x) q) := by
  unfold b_M_writeMap_63 at hf
  rcases Classical.em ((nI 8) ≤ y9) with c23 | c23
  · rw [if_pos c23] at hf
    cases (Option.some.inj hf)
    exact (Keep.refl W_M_writeMap _)
  · rw [if_neg c23] at hf
    obtain ⟨g24, hf⟩ := gd_some hf
    obtain ⟨a25, e26, hf⟩ := dr_some hf
    obtain ⟨g27, hf⟩ := gd_some hf
    obtain ⟨g28, hf⟩ := gd_some hf
    rcases Classical.em ((hpI h a25 ((((nI 32) * y1) + ((nI 8) * y7)) + y9).toNatClampNeg) = 0) with c29 | c29
    · rw [if_pos c29] at hf
      exact (Keep.refl W_M_writeMap _).trans (kj_M_writeMap_118_L63 (C := C) (mi := mi) hf)
    · rw [if_neg c29] at hf
      obtain ⟨a50, e51, hf⟩ := dr_some hf
      obtain ⟨g52, hf⟩ := gd_some hf
      obtain ⟨g53, hf⟩ := gd_some hf
      exact (Keep.refl W_M_writeMap _).trans (kj_M_writeMap_118_L63 (C := C) (mi := mi) hf)
def l_M_writeMap_63 (y0 : Nat) (y1 : Int32) (y2 : Int32) (y3 : Int32) (y5 : Int32) (y6 : Int32) (y7 : Int32) (y8 : Int32) (s : Int32 × Hp) : Option (Hp) := lp (fun s => b_M_writeMap_63 y0 y1 y2 y3 y5 y6 y7 y8 s.1 s.2) FU s
theorem zzl_M_writeMap_63 {l : Launch} {C : Ct} {mi : Nat} {y0 : Nat} {y1 : Int32} {y2 : Int32} {y3 : Int32} {y5 : Int32} {y6 : Int32} {y7 : Int32} {y8 : Int32} {h' : Hp} {v : Int32} : ∀ (n : Nat) (s : Int32 × Hp) (x : (Hp)), lp (fun s : Int32 × Hp => b_M_writeMap_63 y0 y1 y2 y3 y5 y6 y7 y8 s.1 s.2) n s = some x → Z l C mi m_M_writeMap 2 149 [(0, vr (some y0)), (1, vi y1), (2, vi y2), (3, vi y3), (5, vi y5), (6, vi y6), (7, vi y7)] [] x (some (vi v)) h' → Z l C mi m_M_writeMap 2 63 [(0, vr (some y0)), (1, vi y1), (2, vi y2), (3, vi y3), (5, vi y5), (6, vi y6), (7, vi y7), (8, vi y8), (9, vi s.1)] [] s.2 (some (vi v)) h' := by
  intro n
  induction n with
  | zero => intro s x hl; cases hl
  | succ n ih =>
    intro s x hl ke
    rcases lp_some hl with ⟨s2, hb, hl2⟩ | hb
    · exact zb_M_writeMap_63 hb (fun s3 e3 => by cases e3; refine z_ls [0, 1, 2, 3, 4, 5, 6, 7, 8] rfl ?_; exact ih s2 x hl2 ke) (fun x e3 => by cases e3)
    · exact zb_M_writeMap_63 hb (fun s3 e3 => by cases e3) (fun x e3 => by cases e3; exact ke)
theorem zl_M_writeMap_63 {l : Launch} {C : Ct} {mi : Nat} {y0 : Nat} {y1 : Int32} {y2 : Int32} {y3 : Int32} {y5 : Int32} {y6 : Int32} {y7 : Int32} {y8 : Int32} {h' : Hp} {v : Int32} {s : Int32 × Hp} {x : (Hp)} (hl : l_M_writeMap_63 y0 y1 y2 y3 y5 y6 y7 y8 s = some x) (ke : Z l C mi m_M_writeMap 2 149 [(0, vr (some y0)), (1, vi y1), (2, vi y2), (3, vi y3), (5, vi y5), (6, vi y6), (7, vi y7)] [] x (some (vi v)) h') : Z l C mi m_M_writeMap 2 63 [(0, vr (some y0)), (1, vi y1), (2, vi y2), (3, vi y3), (5, vi y5), (6, vi y6), (7, vi y7), (8, vi y8), (9, vi s.1)] [] s.2 (some (vi v)) h' := zzl_M_writeMap_63 FU s x hl ke
theorem kl_M_writeMap_63 {C : Ct} {mi : Nat} {y0 : Nat} {y1 : Int32} {y2 : Int32} {y3 : Int32} {y5 : Int32} {y6 : Int32} {y7 : Int32} {y8 : Int32} {s : Int32 × Hp} {q : (Hp)} (hl : l_M_writeMap_63 y0 y1 y2 y3 y5 y6 y7 y8 s = some q) : Keep W_M_writeMap s.2 ((fun x : Hp => x) q) := lpk (sh := (fun s : Int32 × Hp => s.2)) (rh := (fun x : Hp => x)) (fun s q hb => kb_M_writeMap_63 (C := C) (mi := mi) hb) FU s q hl
def b_M_writeMap_14 (y0 : Nat) (y1 : Int32) (y2 : Int32) (y3 : Int32) (y5 : Int32) (y6 : Int32) (y7 : Int32) (h : Hp) : Option ((Int32 × Int32 × Hp) ⊕ (Int32 × Hp)) :=
  if (nI 4) ≤ y7 then (some (.inr (y5, h))) else (gd (isK h y0 8) (dr (hpR h y0 1) fun a8 => gd (isK h a8 76) (gd (inb (((nI 4) * y1) + y7) (hpL h a8)) (if (hpI h a8 (((nI 4) * y1) + y7).toNatClampNeg) = 0 then (some (.inl (y5, (y7 + (1 : Int32)), h))) else (cl (f_M_leafHas y0 y1 y7 h) fun v15 h13 => if v15 = 0 then (some (.inl (y5, (y7 + (1 : Int32)), h13))) else (gd (isK h13 y0 8) (cl (f_M_add y0 y2 y5 (0 : Int32) y1 y7 h13) fun v21 h19 => bd (l_M_writeMap_63 y0 y1 y2 y3 y5 y6 y7 v21 ((0 : Int32), h19)) fun x54 => some (.inl ((y5 + (1 : Int32)), (y7 + (1 : Int32)), x54)))))))))
set_option maxRecDepth 100000 in
set_option maxHeartbeats 4000000 in
theorem zb_M_writeMap_14 {l : Launch} {C : Ct} {mi : Nat} {y0 : Nat} {y1 : Int32} {y2 : Int32} {y3 : Int32} {y5 : Int32} {y6 : Int32} {y7 : Int32} {h h' : Hp} {v : Int32} {q : ((Int32 × Int32 × Hp) ⊕ (Int32 × Hp))} (hf : b_M_writeMap_14 y0 y1 y2 y3 y5 y6 y7 h = some q) (kc : ∀ s, q = .inl s → Z l C mi m_M_writeMap 2 14 [(0, vr (some y0)), (1, vi y1), (2, vi y2), (3, vi y3), (5, vi s.1), (6, vi y6), (7, vi s.2.1)] [] s.2.2 (some (vi v)) h') (ke : ∀ x, q = .inr x → Z l C mi m_M_writeMap 2 158 [(0, vr (some y0)), (1, vi y1), (2, vi y2), (3, vi y3), (5, vi x.1), (6, vi y6)] [] x.2 (some (vi v)) h') : Z l C mi m_M_writeMap 2 14 [(0, vr (some y0)), (1, vi y1), (2, vi y2), (3, vi y3), (5, vi y5), (6, vi y6), (7, vi y7)] [] h (some (vi v)) h' := by
  unfold b_M_writeMap_14 at hf
  refine z_iload 6 d_M_writeMap_14 rfl ?_
  refine z_iconst (v := (nI 4)) d_M_writeMap_16 (by decide) ?_
  refine z_icmp_ge (tgt := 158) d_M_writeMap_17 (by decide) (fun c6 => ?_) (fun c6 => ?_)
  · rw [if_pos c6] at hf
    refine z_ls [0, 1, 2, 3, 4, 5] rfl ?_
    exact ke (y5, h) (Option.some.inj hf).symm
  · rw [if_neg c6] at hf
    refine z_aload_n 0 d_M_writeMap_20 rfl rfl ?_
    obtain ⟨g7, hf⟩ := gd_some hf
    refine z_getR d_M_writeMap_21 (fl_K (isK_eq g7) fl_M_13_8) (fi_K (isK_eq g7) rfl) rfl ?_
    refine z_iconst (v := (nI 4)) d_M_writeMap_24 (by decide) ?_
    refine z_iload_n 1 d_M_writeMap_25 rfl rfl ?_
    refine z_imul d_M_writeMap_26 ?_
    refine z_iload 6 d_M_writeMap_27 rfl ?_
    refine z_iadd d_M_writeMap_29 ?_
    obtain ⟨a8, e9, hf⟩ := dr_some hf
    obtain ⟨g10, hf⟩ := gd_some hf
    obtain ⟨g11, hf⟩ := gd_some hf
    refine z_zald d_M_writeMap_30 e9 (by rw [isK_eq g10]; decide) (by rw [isK_eq g10]; rfl) (inb_vp g11) ?_
    refine z_if_eq (tgt := 152) d_M_writeMap_31 (by decide) (fun c12 => ?_) (fun c12 => ?_)
    · rw [if_pos c12] at hf
      refine z_iinc (ls2 := [(7, vi (y7 + (1 : Int32))), (0, vr (some y0)), (1, vi y1), (2, vi y2), (3, vi y3), (5, vi y5), (6, vi y6)]) 6 d_M_writeMap_152 rfl rfl (by decide) rfl ?_
      refine z_goto (tgt := 14) d_M_writeMap_155 (by decide) ?_
      refine z_ls [1, 2, 3, 4, 5, 6, 0] rfl ?_
      exact kc (y5, (y7 + (1 : Int32)), h) (Option.some.inj hf).symm
    · rw [if_neg c12] at hf
      refine z_aload_n 0 d_M_writeMap_34 rfl rfl ?_
      refine z_iload_n 1 d_M_writeMap_35 rfl rfl ?_
      refine z_iload 6 d_M_writeMap_36 rfl ?_
      obtain ⟨v15, h13, ec14, hf⟩ := cl_some hf
      refine z_callVx rfl (c_M_leafHas ec14) d_M_writeMap_38 cw_M_leafHas lk_M_143 im_M_leafHas se_M_leafHas (kc_K (isK_eq g7) kc_8) ⟨by decide, by decide⟩ (Nat.le_of_ble_eq_true rfl) rfl ?_
      refine z_if_ne (tgt := 47) d_M_writeMap_41 (by decide) (fun c17 => ?_) (fun c17 => ?_)
      · rw [if_neg c17] at hf
        refine z_aload_n 0 d_M_writeMap_47 rfl rfl ?_
        refine z_iload_n 2 d_M_writeMap_48 rfl rfl ?_
        refine z_iload 4 d_M_writeMap_49 rfl ?_
        refine z_iconst (v := (0 : Int32)) d_M_writeMap_51 (by decide) ?_
        refine z_iload_n 1 d_M_writeMap_52 rfl rfl ?_
        refine z_iload 6 d_M_writeMap_53 rfl ?_
        obtain ⟨g18, hf⟩ := gd_some hf
        obtain ⟨v21, h19, ec20, hf⟩ := cl_some hf
        refine z_callVx rfl (c_M_add ec20) d_M_writeMap_55 cw_M_add lk_M_173 im_M_add se_M_add (kc_K (isK_eq g18) kc_8) ⟨by decide, by decide⟩ (Nat.le_of_ble_eq_true rfl) rfl ?_
        refine z_istore (ls2 := [(8, vi v21), (0, vr (some y0)), (1, vi y1), (2, vi y2), (3, vi y3), (5, vi y5), (6, vi y6), (7, vi y7)]) d_M_writeMap_58 (by decide) rfl ?_
        refine z_iconst (v := (0 : Int32)) d_M_writeMap_60 (by decide) ?_
        refine z_istore (ls2 := [(9, vi (0 : Int32)), (8, vi v21), (0, vr (some y0)), (1, vi y1), (2, vi y2), (3, vi y3), (5, vi y5), (6, vi y6), (7, vi y7)]) d_M_writeMap_61 (by decide) rfl ?_
        obtain ⟨x54, el55, hf⟩ := bd_some hf
        refine z_ls [2, 3, 4, 5, 6, 7, 8, 1, 0] rfl ?_
        refine zl_M_writeMap_63 el55 ?_
        refine z_iinc (ls2 := [(5, vi (y5 + (1 : Int32))), (0, vr (some y0)), (1, vi y1), (2, vi y2), (3, vi y3), (6, vi y6), (7, vi y7)]) 4 d_M_writeMap_149 rfl rfl (by decide) rfl ?_
        refine z_iinc (ls2 := [(7, vi (y7 + (1 : Int32))), (5, vi (y5 + (1 : Int32))), (0, vr (some y0)), (1, vi y1), (2, vi y2), (3, vi y3), (6, vi y6)]) 6 d_M_writeMap_152 rfl rfl (by decide) rfl ?_
        refine z_goto (tgt := 14) d_M_writeMap_155 (by decide) ?_
        refine z_ls [2, 3, 4, 5, 1, 6, 0] rfl ?_
        exact kc ((y5 + (1 : Int32)), (y7 + (1 : Int32)), x54) (Option.some.inj hf).symm
      · rw [if_pos c17] at hf
        refine z_goto (tgt := 152) d_M_writeMap_44 (by decide) ?_
        refine z_iinc (ls2 := [(7, vi (y7 + (1 : Int32))), (0, vr (some y0)), (1, vi y1), (2, vi y2), (3, vi y3), (5, vi y5), (6, vi y6)]) 6 d_M_writeMap_152 rfl rfl (by decide) rfl ?_
        refine z_goto (tgt := 14) d_M_writeMap_155 (by decide) ?_
        refine z_ls [1, 2, 3, 4, 5, 6, 0] rfl ?_
        exact kc (y5, (y7 + (1 : Int32)), h13) (Option.some.inj hf).symm
set_option maxRecDepth 100000 in
set_option maxHeartbeats 4000000 in
theorem kb_M_writeMap_14 {C : Ct} {mi : Nat} {y0 : Nat} {y1 : Int32} {y2 : Int32} {y3 : Int32} {y5 : Int32} {y6 : Int32} {y7 : Int32} {h : Hp} {q : ((Int32 × Int32 × Hp) ⊕ (Int32 × Hp))} (hf : b_M_writeMap_14 y0 y1 y2 y3 y5 y6 y7 h = some q) : Keep W_M_writeMap h (Sum.elim (fun s : Int32 × Int32 × Hp => s.2.2) (fun x : Int32 × Hp => x.2) q) := by
  unfold b_M_writeMap_14 at hf
  rcases Classical.em ((nI 4) ≤ y7) with c6 | c6
  · rw [if_pos c6] at hf
    cases (Option.some.inj hf)
    exact (Keep.refl W_M_writeMap _)
  · rw [if_neg c6] at hf
    obtain ⟨g7, hf⟩ := gd_some hf
    obtain ⟨a8, e9, hf⟩ := dr_some hf
    obtain ⟨g10, hf⟩ := gd_some hf
    obtain ⟨g11, hf⟩ := gd_some hf
    rcases Classical.em ((hpI h a8 (((nI 4) * y1) + y7).toNatClampNeg) = 0) with c12 | c12
    · rw [if_pos c12] at hf
      cases (Option.some.inj hf)
      exact (Keep.refl W_M_writeMap _)
    · rw [if_neg c12] at hf
      obtain ⟨v15, h13, ec14, hf⟩ := cl_some hf
      have K16 := (Keep.refl W_M_writeMap _).trans ((fr_M_leafHas (C := C) (mi := mi) ec14).mono (by decide) (by decide))
      rcases (Classical.em (v15 = 0)).symm with c17 | c17
      · rw [if_neg c17] at hf
        obtain ⟨g18, hf⟩ := gd_some hf
        obtain ⟨v21, h19, ec20, hf⟩ := cl_some hf
        have K22 := K16.trans ((fr_M_add (C := C) (mi := mi) ec20).mono (by decide) (by decide))
        obtain ⟨x54, el55, hf⟩ := bd_some hf
        have K56 := K22.trans (kl_M_writeMap_63 (C := C) (mi := mi) el55)
        cases (Option.some.inj hf)
        exact K56
      · rw [if_pos c17] at hf
        cases (Option.some.inj hf)
        exact K16
def l_M_writeMap_14 (y0 : Nat) (y1 : Int32) (y2 : Int32) (y3 : Int32) (y6 : Int32) (s : Int32 × Int32 × Hp) : Option (Int32 × Hp) := lp (fun s => b_M_writeMap_14 y0 y1 y2 y3 s.1 y6 s.2.1 s.2.2) FU s
theorem zzl_M_writeMap_14 {l : Launch} {C : Ct} {mi : Nat} {y0 : Nat} {y1 : Int32} {y2 : Int32} {y3 : Int32} {y6 : Int32} {h' : Hp} {v : Int32} : ∀ (n : Nat) (s : Int32 × Int32 × Hp) (x : (Int32 × Hp)), lp (fun s : Int32 × Int32 × Hp => b_M_writeMap_14 y0 y1 y2 y3 s.1 y6 s.2.1 s.2.2) n s = some x → Z l C mi m_M_writeMap 2 158 [(0, vr (some y0)), (1, vi y1), (2, vi y2), (3, vi y3), (5, vi x.1), (6, vi y6)] [] x.2 (some (vi v)) h' → Z l C mi m_M_writeMap 2 14 [(0, vr (some y0)), (1, vi y1), (2, vi y2), (3, vi y3), (5, vi s.1), (6, vi y6), (7, vi s.2.1)] [] s.2.2 (some (vi v)) h' := by
  intro n
  induction n with
  | zero => intro s x hl; cases hl
  | succ n ih =>
    intro s x hl ke
    rcases lp_some hl with ⟨s2, hb, hl2⟩ | hb
    · exact zb_M_writeMap_14 hb (fun s3 e3 => by cases e3; refine z_ls [0, 1, 2, 3, 4, 5, 6] rfl ?_; exact ih s2 x hl2 ke) (fun x e3 => by cases e3)
    · exact zb_M_writeMap_14 hb (fun s3 e3 => by cases e3) (fun x e3 => by cases e3; exact ke)
theorem zl_M_writeMap_14 {l : Launch} {C : Ct} {mi : Nat} {y0 : Nat} {y1 : Int32} {y2 : Int32} {y3 : Int32} {y6 : Int32} {h' : Hp} {v : Int32} {s : Int32 × Int32 × Hp} {x : (Int32 × Hp)} (hl : l_M_writeMap_14 y0 y1 y2 y3 y6 s = some x) (ke : Z l C mi m_M_writeMap 2 158 [(0, vr (some y0)), (1, vi y1), (2, vi y2), (3, vi y3), (5, vi x.1), (6, vi y6)] [] x.2 (some (vi v)) h') : Z l C mi m_M_writeMap 2 14 [(0, vr (some y0)), (1, vi y1), (2, vi y2), (3, vi y3), (5, vi s.1), (6, vi y6), (7, vi s.2.1)] [] s.2.2 (some (vi v)) h' := zzl_M_writeMap_14 FU s x hl ke
theorem kl_M_writeMap_14 {C : Ct} {mi : Nat} {y0 : Nat} {y1 : Int32} {y2 : Int32} {y3 : Int32} {y6 : Int32} {s : Int32 × Int32 × Hp} {q : (Int32 × Hp)} (hl : l_M_writeMap_14 y0 y1 y2 y3 y6 s = some q) : Keep W_M_writeMap s.2.2 ((fun x : Int32 × Hp => x.2) q) := lpk (sh := (fun s : Int32 × Int32 × Hp => s.2.2)) (rh := (fun x : Int32 × Hp => x.2)) (fun s q hb => kb_M_writeMap_14 (C := C) (mi := mi) hb) FU s q hl
def b_M_writeMap_200 (y0 : Nat) (y1 : Int32) (y2 : Int32) (y5 : Int32) (y6 : Int32) (y7 : Int32) (y8 : Int32) (y9 : Int32) (h : Hp) : Option ((Int32 × Int32 × Hp) ⊕ (Hp)) :=
  if (nI 4) ≤ y9 then (some (.inr h)) else (gd (isK h y0 8) (dr (hpR h y0 1) fun a81 => gd (isK h a81 76) (gd (inb (((nI 4) * y1) + y9) (hpL h a81)) (if (hpI h a81 (((nI 4) * y1) + y9).toNatClampNeg) = 0 then (if 0 ≤ y6 then (dr (hpR h y0 11) fun a100 => gd (isK h a100 86) (gd (inb (((nI 4) * y6) + y9) (hpL h a100)) (gd (inb (((nI 4) * y7) + y9) (hpL h a100)) (nm (wI h a100 (((nI 4) * y7) + y9).toNatClampNeg (hpI h a100 (((nI 4) * y6) + y9).toNatClampNeg)) fun h105 => some (.inl (y8, (y9 + (1 : Int32)), h105)))))) else (dr (hpR h y0 11) fun a108 => gd (isK h a108 86) (gd (inb (((nI 4) * y7) + y9) (hpL h a108)) (nm (wI h a108 (((nI 4) * y7) + y9).toNatClampNeg (0 : Int32)) fun h112 => some (.inl (y8, (y9 + (1 : Int32)), h112)))))) else (cl (f_M_leafHas y0 y1 y9 h) fun v88 h86 => if v88 = 0 then (some (.inl (y8, (y9 + (1 : Int32)), h86))) else (gd (isK h86 y0 8) (dr (hpR h86 y0 11) fun a92 => gd (isK h86 a92 86) (gd (inb (((nI 4) * y7) + y9) (hpL h86 a92)) (nm (wI h86 a92 (((nI 4) * y7) + y9).toNatClampNeg (((nI 32) * y2) + y8)) fun h96 => some (.inl ((y8 + (1 : Int32)), (y9 + (1 : Int32)), h96)))))))))))
set_option maxRecDepth 100000 in
set_option maxHeartbeats 4000000 in
theorem zb_M_writeMap_200 {l : Launch} {C : Ct} {mi : Nat} {y0 : Nat} {y1 : Int32} {y2 : Int32} {y5 : Int32} {y6 : Int32} {y7 : Int32} {y8 : Int32} {y9 : Int32} {h h' : Hp} {v : Int32} {q : ((Int32 × Int32 × Hp) ⊕ (Hp))} (hf : b_M_writeMap_200 y0 y1 y2 y5 y6 y7 y8 y9 h = some q) (kc : ∀ s, q = .inl s → Z l C mi m_M_writeMap 2 200 [(0, vr (some y0)), (1, vi y1), (2, vi y2), (5, vi y5), (6, vi y6), (7, vi y7), (8, vi s.1), (9, vi s.2.1)] [] s.2.2 (some (vi v)) h') (ke : ∀ x, q = .inr x → Z l C mi m_M_writeMap 2 298 [(5, vi y5)] [] x (some (vi v)) h') : Z l C mi m_M_writeMap 2 200 [(0, vr (some y0)), (1, vi y1), (2, vi y2), (5, vi y5), (6, vi y6), (7, vi y7), (8, vi y8), (9, vi y9)] [] h (some (vi v)) h' := by
  unfold b_M_writeMap_200 at hf
  refine z_iload 7 d_M_writeMap_200 rfl ?_
  refine z_iconst (v := (nI 4)) d_M_writeMap_202 (by decide) ?_
  refine z_icmp_ge (tgt := 298) d_M_writeMap_203 (by decide) (fun c79 => ?_) (fun c79 => ?_)
  · rw [if_pos c79] at hf
    refine z_ls [3] rfl ?_
    exact ke h (Option.some.inj hf).symm
  · rw [if_neg c79] at hf
    refine z_aload_n 0 d_M_writeMap_206 rfl rfl ?_
    obtain ⟨g80, hf⟩ := gd_some hf
    refine z_getR d_M_writeMap_207 (fl_K (isK_eq g80) fl_M_13_8) (fi_K (isK_eq g80) rfl) rfl ?_
    refine z_iconst (v := (nI 4)) d_M_writeMap_210 (by decide) ?_
    refine z_iload_n 1 d_M_writeMap_211 rfl rfl ?_
    refine z_imul d_M_writeMap_212 ?_
    refine z_iload 7 d_M_writeMap_213 rfl ?_
    refine z_iadd d_M_writeMap_215 ?_
    obtain ⟨a81, e82, hf⟩ := dr_some hf
    obtain ⟨g83, hf⟩ := gd_some hf
    obtain ⟨g84, hf⟩ := gd_some hf
    refine z_zald d_M_writeMap_216 e82 (by rw [isK_eq g83]; decide) (by rw [isK_eq g83]; rfl) (inb_vp g84) ?_
    refine z_istore (ls2 := [(10, vi (hpI h a81 (((nI 4) * y1) + y9).toNatClampNeg)), (0, vr (some y0)), (1, vi y1), (2, vi y2), (5, vi y5), (6, vi y6), (7, vi y7), (8, vi y8), (9, vi y9)]) d_M_writeMap_217 (by decide) rfl ?_
    refine z_iload 0 d_M_writeMap_219 rfl ?_
    refine z_if_ne (tgt := 260) d_M_writeMap_221 (by decide) (fun c85 => ?_) (fun c85 => ?_)
    · rw [if_neg c85] at hf
      refine z_aload_n 1 d_M_writeMap_260 rfl rfl ?_
      refine z_iload_n 2 d_M_writeMap_261 rfl rfl ?_
      refine z_iload 8 d_M_writeMap_262 rfl ?_
      obtain ⟨v88, h86, ec87, hf⟩ := cl_some hf
      refine z_callVx rfl (c_M_leafHas ec87) d_M_writeMap_264 cw_M_leafHas lk_M_143 im_M_leafHas se_M_leafHas (kc_K (isK_eq g80) kc_8) ⟨by decide, by decide⟩ (Nat.le_of_ble_eq_true rfl) rfl ?_
      refine z_if_eq (tgt := 292) d_M_writeMap_267 (by decide) (fun c90 => ?_) (fun c90 => ?_)
      · rw [if_pos c90] at hf
        refine z_iinc (ls2 := [(9, vi (y9 + (1 : Int32))), (10, vi (hpI h a81 (((nI 4) * y1) + y9).toNatClampNeg)), (0, vr (some y0)), (1, vi y1), (2, vi y2), (5, vi y5), (6, vi y6), (7, vi y7), (8, vi y8)]) 8 d_M_writeMap_292 rfl rfl (by decide) rfl ?_
        refine z_goto (tgt := 200) d_M_writeMap_295 (by decide) ?_
        refine z_ls [2, 3, 4, 5, 6, 7, 8, 0] rfl ?_
        exact kc (y8, (y9 + (1 : Int32)), h86) (Option.some.inj hf).symm
      · rw [if_neg c90] at hf
        refine z_aload_n 1 d_M_writeMap_270 rfl rfl ?_
        obtain ⟨g91, hf⟩ := gd_some hf
        refine z_getR d_M_writeMap_271 (fl_K (isK_eq g91) fl_M_44_8) (fi_K (isK_eq g91) rfl) rfl ?_
        refine z_iconst (v := (nI 4)) d_M_writeMap_274 (by decide) ?_
        refine z_iload 6 d_M_writeMap_275 rfl ?_
        refine z_imul d_M_writeMap_277 ?_
        refine z_iload 8 d_M_writeMap_278 rfl ?_
        refine z_iadd d_M_writeMap_280 ?_
        refine z_bipush (v := (nI 32)) d_M_writeMap_281 (by decide) ?_
        refine z_iload_n 3 d_M_writeMap_283 rfl rfl ?_
        refine z_imul d_M_writeMap_284 ?_
        refine z_iload 7 d_M_writeMap_285 rfl ?_
        refine z_iadd d_M_writeMap_287 ?_
        obtain ⟨a92, e93, hf⟩ := dr_some hf
        obtain ⟨g94, hf⟩ := gd_some hf
        obtain ⟨g95, hf⟩ := gd_some hf
        obtain ⟨h96, eh97, hf⟩ := nm_some hf
        refine z_iast d_M_writeMap_288 e93 (by rw [isK_eq g94]; decide) (by rw [isK_eq g94]; rfl) (inb_vp g95) ?_
        refine z_hp eh97 ?_
        refine z_iinc (ls2 := [(8, vi (y8 + (1 : Int32))), (10, vi (hpI h a81 (((nI 4) * y1) + y9).toNatClampNeg)), (0, vr (some y0)), (1, vi y1), (2, vi y2), (5, vi y5), (6, vi y6), (7, vi y7), (9, vi y9)]) 7 d_M_writeMap_289 rfl rfl (by decide) rfl ?_
        refine z_iinc (ls2 := [(9, vi (y9 + (1 : Int32))), (8, vi (y8 + (1 : Int32))), (10, vi (hpI h a81 (((nI 4) * y1) + y9).toNatClampNeg)), (0, vr (some y0)), (1, vi y1), (2, vi y2), (5, vi y5), (6, vi y6), (7, vi y7)]) 8 d_M_writeMap_292 rfl rfl (by decide) rfl ?_
        refine z_goto (tgt := 200) d_M_writeMap_295 (by decide) ?_
        refine z_ls [3, 4, 5, 6, 7, 8, 1, 0] rfl ?_
        exact kc ((y8 + (1 : Int32)), (y9 + (1 : Int32)), h96) (Option.some.inj hf).symm
    · rw [if_pos c85] at hf
      refine z_aload_n 1 d_M_writeMap_224 rfl rfl ?_
      refine z_getR d_M_writeMap_225 (fl_K (isK_eq g80) fl_M_44_8) (fi_K (isK_eq g80) rfl) rfl ?_
      refine z_iconst (v := (nI 4)) d_M_writeMap_228 (by decide) ?_
      refine z_iload 6 d_M_writeMap_229 rfl ?_
      refine z_imul d_M_writeMap_231 ?_
      refine z_iload 8 d_M_writeMap_232 rfl ?_
      refine z_iadd d_M_writeMap_234 ?_
      refine z_iload 5 d_M_writeMap_235 rfl ?_
      refine z_if_ge (tgt := 244) d_M_writeMap_237 (by decide) (fun c99 => ?_) (fun c99 => ?_)
      · rw [if_pos c99] at hf
        refine z_aload_n 1 d_M_writeMap_244 rfl rfl ?_
        refine z_getR d_M_writeMap_245 (fl_K (isK_eq g80) fl_M_44_8) (fi_K (isK_eq g80) rfl) rfl ?_
        refine z_iconst (v := (nI 4)) d_M_writeMap_248 (by decide) ?_
        refine z_iload 5 d_M_writeMap_249 rfl ?_
        refine z_imul d_M_writeMap_251 ?_
        refine z_iload 8 d_M_writeMap_252 rfl ?_
        refine z_iadd d_M_writeMap_254 ?_
        obtain ⟨a100, e101, hf⟩ := dr_some hf
        obtain ⟨g102, hf⟩ := gd_some hf
        obtain ⟨g103, hf⟩ := gd_some hf
        refine z_iald d_M_writeMap_255 e101 (by rw [isK_eq g102]; decide) (by rw [isK_eq g102]; rfl) (inb_vp g103) ?_
        obtain ⟨g104, hf⟩ := gd_some hf
        obtain ⟨h105, eh106, hf⟩ := nm_some hf
        refine z_iast d_M_writeMap_256 e101 (by rw [isK_eq g102]; decide) (by rw [isK_eq g102]; rfl) (inb_vp g104) ?_
        refine z_hp eh106 ?_
        refine z_goto (tgt := 292) d_M_writeMap_257 (by decide) ?_
        refine z_iinc (ls2 := [(9, vi (y9 + (1 : Int32))), (10, vi (hpI h a81 (((nI 4) * y1) + y9).toNatClampNeg)), (0, vr (some y0)), (1, vi y1), (2, vi y2), (5, vi y5), (6, vi y6), (7, vi y7), (8, vi y8)]) 8 d_M_writeMap_292 rfl rfl (by decide) rfl ?_
        refine z_goto (tgt := 200) d_M_writeMap_295 (by decide) ?_
        refine z_ls [2, 3, 4, 5, 6, 7, 8, 0] rfl ?_
        exact kc (y8, (y9 + (1 : Int32)), h105) (Option.some.inj hf).symm
      · rw [if_neg c99] at hf
        refine z_iconst (v := (0 : Int32)) d_M_writeMap_240 (by decide) ?_
        refine z_goto (tgt := 256) d_M_writeMap_241 (by decide) ?_
        obtain ⟨a108, e109, hf⟩ := dr_some hf
        obtain ⟨g110, hf⟩ := gd_some hf
        obtain ⟨g111, hf⟩ := gd_some hf
        obtain ⟨h112, eh113, hf⟩ := nm_some hf
        refine z_iast d_M_writeMap_256 e109 (by rw [isK_eq g110]; decide) (by rw [isK_eq g110]; rfl) (inb_vp g111) ?_
        refine z_hp eh113 ?_
        refine z_goto (tgt := 292) d_M_writeMap_257 (by decide) ?_
        refine z_iinc (ls2 := [(9, vi (y9 + (1 : Int32))), (10, vi (hpI h a81 (((nI 4) * y1) + y9).toNatClampNeg)), (0, vr (some y0)), (1, vi y1), (2, vi y2), (5, vi y5), (6, vi y6), (7, vi y7), (8, vi y8)]) 8 d_M_writeMap_292 rfl rfl (by decide) rfl ?_
        refine z_goto (tgt := 200) d_M_writeMap_295 (by decide) ?_
        refine z_ls [2, 3, 4, 5, 6, 7, 8, 0] rfl ?_
        exact kc (y8, (y9 + (1 : Int32)), h112) (Option.some.inj hf).symm
set_option maxRecDepth 100000 in
set_option maxHeartbeats 4000000 in
theorem kb_M_writeMap_200 {C : Ct} {mi : Nat} {y0 : Nat} {y1 : Int32} {y2 : Int32} {y5 : Int32} {y6 : Int32} {y7 : Int32} {y8 : Int32} {y9 : Int32} {h : Hp} {q : ((Int32 × Int32 × Hp) ⊕ (Hp))} (hf : b_M_writeMap_200 y0 y1 y2 y5 y6 y7 y8 y9 h = some q) : Keep W_M_writeMap h (Sum.elim (fun s : Int32 × Int32 × Hp => s.2.2) (fun x : Hp => x) q) := by
  unfold b_M_writeMap_200 at hf
  rcases Classical.em ((nI 4) ≤ y9) with c79 | c79
  · rw [if_pos c79] at hf
    cases (Option.some.inj hf)
    exact (Keep.refl W_M_writeMap _)
  · rw [if_neg c79] at hf
    obtain ⟨g80, hf⟩ := gd_some hf
    obtain ⟨a81, e82, hf⟩ := dr_some hf
    obtain ⟨g83, hf⟩ := gd_some hf
    obtain ⟨g84, hf⟩ := gd_some hf
    rcases (Classical.em ((hpI h a81 (((nI 4) * y1) + y9).toNatClampNeg) = 0)).symm with c85 | c85
    · rw [if_neg c85] at hf
      obtain ⟨v88, h86, ec87, hf⟩ := cl_some hf
      have K89 := (Keep.refl W_M_writeMap _).trans ((fr_M_leafHas (C := C) (mi := mi) ec87).mono (by decide) (by decide))
      rcases Classical.em (v88 = 0) with c90 | c90
      · rw [if_pos c90] at hf
        cases (Option.some.inj hf)
        exact K89
      · rw [if_neg c90] at hf
        obtain ⟨g91, hf⟩ := gd_some hf
        obtain ⟨a92, e93, hf⟩ := dr_some hf
        obtain ⟨g94, hf⟩ := gd_some hf
        obtain ⟨g95, hf⟩ := gd_some hf
        obtain ⟨h96, eh97, hf⟩ := nm_some hf
        have K98 := K89.trans (kw_I eh97 (isK_eq g94) (Or.inr (by decide)))
        cases (Option.some.inj hf)
        exact K98
    · rw [if_pos c85] at hf
      rcases Classical.em (0 ≤ y6) with c99 | c99
      · rw [if_pos c99] at hf
        obtain ⟨a100, e101, hf⟩ := dr_some hf
        obtain ⟨g102, hf⟩ := gd_some hf
        obtain ⟨g103, hf⟩ := gd_some hf
        obtain ⟨g104, hf⟩ := gd_some hf
        obtain ⟨h105, eh106, hf⟩ := nm_some hf
        have K107 := (Keep.refl W_M_writeMap _).trans (kw_I eh106 (isK_eq g102) (Or.inr (by decide)))
        cases (Option.some.inj hf)
        exact K107
      · rw [if_neg c99] at hf
        obtain ⟨a108, e109, hf⟩ := dr_some hf
        obtain ⟨g110, hf⟩ := gd_some hf
        obtain ⟨g111, hf⟩ := gd_some hf
        obtain ⟨h112, eh113, hf⟩ := nm_some hf
        have K114 := (Keep.refl W_M_writeMap _).trans (kw_I eh113 (isK_eq g110) (Or.inr (by decide)))
        cases (Option.some.inj hf)
        exact K114
def l_M_writeMap_200 (y0 : Nat) (y1 : Int32) (y2 : Int32) (y5 : Int32) (y6 : Int32) (y7 : Int32) (s : Int32 × Int32 × Hp) : Option (Hp) := lp (fun s => b_M_writeMap_200 y0 y1 y2 y5 y6 y7 s.1 s.2.1 s.2.2) FU s
theorem zzl_M_writeMap_200 {l : Launch} {C : Ct} {mi : Nat} {y0 : Nat} {y1 : Int32} {y2 : Int32} {y5 : Int32} {y6 : Int32} {y7 : Int32} {h' : Hp} {v : Int32} : ∀ (n : Nat) (s : Int32 × Int32 × Hp) (x : (Hp)), lp (fun s : Int32 × Int32 × Hp => b_M_writeMap_200 y0 y1 y2 y5 y6 y7 s.1 s.2.1 s.2.2) n s = some x → Z l C mi m_M_writeMap 2 298 [(5, vi y5)] [] x (some (vi v)) h' → Z l C mi m_M_writeMap 2 200 [(0, vr (some y0)), (1, vi y1), (2, vi y2), (5, vi y5), (6, vi y6), (7, vi y7), (8, vi s.1), (9, vi s.2.1)] [] s.2.2 (some (vi v)) h' := by
  intro n
  induction n with
  | zero => intro s x hl; cases hl
  | succ n ih =>
    intro s x hl ke
    rcases lp_some hl with ⟨s2, hb, hl2⟩ | hb
    · exact zb_M_writeMap_200 hb (fun s3 e3 => by cases e3; refine z_ls [0, 1, 2, 3, 4, 5, 6, 7] rfl ?_; exact ih s2 x hl2 ke) (fun x e3 => by cases e3)
    · exact zb_M_writeMap_200 hb (fun s3 e3 => by cases e3) (fun x e3 => by cases e3; exact ke)
theorem zl_M_writeMap_200 {l : Launch} {C : Ct} {mi : Nat} {y0 : Nat} {y1 : Int32} {y2 : Int32} {y5 : Int32} {y6 : Int32} {y7 : Int32} {h' : Hp} {v : Int32} {s : Int32 × Int32 × Hp} {x : (Hp)} (hl : l_M_writeMap_200 y0 y1 y2 y5 y6 y7 s = some x) (ke : Z l C mi m_M_writeMap 2 298 [(5, vi y5)] [] x (some (vi v)) h') : Z l C mi m_M_writeMap 2 200 [(0, vr (some y0)), (1, vi y1), (2, vi y2), (5, vi y5), (6, vi y6), (7, vi y7), (8, vi s.1), (9, vi s.2.1)] [] s.2.2 (some (vi v)) h' := zzl_M_writeMap_200 FU s x hl ke
theorem kl_M_writeMap_200 {C : Ct} {mi : Nat} {y0 : Nat} {y1 : Int32} {y2 : Int32} {y5 : Int32} {y6 : Int32} {y7 : Int32} {s : Int32 × Int32 × Hp} {q : (Hp)} (hl : l_M_writeMap_200 y0 y1 y2 y5 y6 y7 s = some q) : Keep W_M_writeMap s.2.2 ((fun x : Hp => x) q) := lpk (sh := (fun s : Int32 × Int32 × Hp => s.2.2)) (rh := (fun x : Hp => x)) (fun s q hb => kb_M_writeMap_200 (C := C) (mi := mi) hb) FU s q hl
def f_M_writeMap (a0 : Nat) (p1 : Int32) (p2 : Int32) (p3 : Int32) (p4 : Int32) (h : Hp) : Option (Int32 × Hp) :=
  gd (isK h a0 8) (cl (f_M_page a0 p4 h) fun v4 h2 => bd (l_M_writeMap_14 a0 p1 p2 p3 v4 (p3, (0 : Int32), h2)) fun x57 => gd (isK x57.2 a0 8) (cl (f_M_mapHas a0 p1 x57.2) fun v63 h61 => if v63 = 0 then (some (x57.1, h61)) else (gd (isK h61 a0 8) (cl (f_M_add a0 p2 x57.1 (1 : Int32) p1 (0 : Int32) h61) fun v69 h67 => gd (isK h67 a0 8) (dr (hpR h67 a0 33) fun a72 => gd (isK h67 a72 102) (gd (inb p1 (hpL h67 a72)) (nm (wI h67 a72 p1.toNatClampNeg (((nI 32) * p2) + x57.1)) fun h76 => bd (l_M_writeMap_200 a0 p1 p2 x57.1 v4 v69 (p3, (0 : Int32), h76)) fun x115 => some ((x57.1 + (1 : Int32)), x115))))))))
set_option maxRecDepth 100000 in
set_option maxHeartbeats 4000000 in
theorem zf_M_writeMap {l : Launch} {C : Ct} {mi : Nat} {a0 : Nat} {p1 : Int32} {p2 : Int32} {p3 : Int32} {p4 : Int32} {h h' : Hp} {v : Int32} (hf : f_M_writeMap a0 p1 p2 p3 p4 h = some (v, h')) : Z l C mi m_M_writeMap 2 0 [(0, vr (some a0)), (1, vi p1), (2, vi p2), (3, vi p3), (4, vi p4)] [] h (some (vi v)) h' := by
  unfold f_M_writeMap at hf
  refine z_iload_n 3 d_M_writeMap_0 rfl rfl ?_
  refine z_istore (ls2 := [(5, vi p3), (0, vr (some a0)), (1, vi p1), (2, vi p2), (3, vi p3), (4, vi p4)]) d_M_writeMap_1 (by decide) rfl ?_
  refine z_aload_n 1 d_M_writeMap_3 rfl rfl ?_
  refine z_iload 5 d_M_writeMap_4 rfl ?_
  obtain ⟨g1, hf⟩ := gd_some hf
  obtain ⟨v4, h2, ec3, hf⟩ := cl_some hf
  refine z_callVx rfl (c_M_page ec3) d_M_writeMap_6 cw_M_page lk_M_108 im_M_page se_M_page (kc_K (isK_eq g1) kc_8) ⟨by decide, by decide⟩ (Nat.le_of_ble_eq_true rfl) rfl ?_
  refine z_istore (ls2 := [(6, vi v4), (5, vi p3), (0, vr (some a0)), (1, vi p1), (2, vi p2), (3, vi p3), (4, vi p4)]) d_M_writeMap_9 (by decide) rfl ?_
  refine z_iconst (v := (0 : Int32)) d_M_writeMap_11 (by decide) ?_
  refine z_istore (ls2 := [(7, vi (0 : Int32)), (6, vi v4), (5, vi p3), (0, vr (some a0)), (1, vi p1), (2, vi p2), (3, vi p3), (4, vi p4)]) d_M_writeMap_12 (by decide) rfl ?_
  obtain ⟨x57, el58, hf⟩ := bd_some hf
  refine z_ls [3, 4, 5, 6, 2, 1, 0] rfl ?_
  refine zl_M_writeMap_14 el58 ?_
  refine z_aload_n 0 d_M_writeMap_158 rfl rfl ?_
  refine z_iload_n 1 d_M_writeMap_159 rfl rfl ?_
  obtain ⟨g60, hf⟩ := gd_some hf
  obtain ⟨v63, h61, ec62, hf⟩ := cl_some hf
  refine z_callVx rfl (c_M_mapHas ec62) d_M_writeMap_160 cw_M_mapHas lk_M_150 im_M_mapHas se_M_mapHas (kc_K (isK_eq g60) kc_8) ⟨by decide, by decide⟩ (Nat.le_of_ble_eq_true rfl) rfl ?_
  refine z_if_ne (tgt := 169) d_M_writeMap_163 (by decide) (fun c65 => ?_) (fun c65 => ?_)
  · rw [if_neg c65] at hf
    refine z_aload_n 0 d_M_writeMap_169 rfl rfl ?_
    refine z_iload_n 2 d_M_writeMap_170 rfl rfl ?_
    refine z_iload 4 d_M_writeMap_171 rfl ?_
    refine z_iconst (v := (1 : Int32)) d_M_writeMap_173 (by decide) ?_
    refine z_iload_n 1 d_M_writeMap_174 rfl rfl ?_
    refine z_iconst (v := (0 : Int32)) d_M_writeMap_175 (by decide) ?_
    obtain ⟨g66, hf⟩ := gd_some hf
    obtain ⟨v69, h67, ec68, hf⟩ := cl_some hf
    refine z_callVx rfl (c_M_add ec68) d_M_writeMap_176 cw_M_add lk_M_173 im_M_add se_M_add (kc_K (isK_eq g66) kc_8) ⟨by decide, by decide⟩ (Nat.le_of_ble_eq_true rfl) rfl ?_
    refine z_istore (ls2 := [(7, vi v69), (0, vr (some a0)), (1, vi p1), (2, vi p2), (3, vi p3), (5, vi x57.1), (6, vi v4)]) d_M_writeMap_179 (by decide) rfl ?_
    refine z_iload_n 4 d_M_writeMap_181 rfl rfl ?_
    refine z_istore (ls2 := [(8, vi p3), (7, vi v69), (0, vr (some a0)), (1, vi p1), (2, vi p2), (3, vi p3), (5, vi x57.1), (6, vi v4)]) d_M_writeMap_182 (by decide) rfl ?_
    refine z_aload_n 2 d_M_writeMap_184 rfl rfl ?_
    obtain ⟨g71, hf⟩ := gd_some hf
    refine z_getR d_M_writeMap_185 (fl_K (isK_eq g71) fl_M_102_8) (fi_K (isK_eq g71) rfl) rfl ?_
    refine z_iload_n 3 d_M_writeMap_188 rfl rfl ?_
    refine z_bipush (v := (nI 32)) d_M_writeMap_189 (by decide) ?_
    refine z_iload_n 4 d_M_writeMap_191 rfl rfl ?_
    refine z_imul d_M_writeMap_192 ?_
    refine z_iload 6 d_M_writeMap_193 rfl ?_
    refine z_iadd d_M_writeMap_195 ?_
    obtain ⟨a72, e73, hf⟩ := dr_some hf
    obtain ⟨g74, hf⟩ := gd_some hf
    obtain ⟨g75, hf⟩ := gd_some hf
    obtain ⟨h76, eh77, hf⟩ := nm_some hf
    refine z_iast d_M_writeMap_196 e73 (by rw [isK_eq g74]; decide) (by rw [isK_eq g74]; rfl) (inb_vp g75) ?_
    refine z_hp eh77 ?_
    refine z_iconst (v := (0 : Int32)) d_M_writeMap_197 (by decide) ?_
    refine z_istore (ls2 := [(9, vi (0 : Int32)), (8, vi p3), (7, vi v69), (0, vr (some a0)), (1, vi p1), (2, vi p2), (3, vi p3), (5, vi x57.1), (6, vi v4)]) d_M_writeMap_198 (by decide) rfl ?_
    obtain ⟨x115, el116, hf⟩ := bd_some hf
    refine z_ls [3, 4, 5, 7, 8, 2, 1, 0] rfl ?_
    refine zl_M_writeMap_200 el116 ?_
    refine z_iload 0 d_M_writeMap_298 rfl ?_
    refine z_iconst (v := (1 : Int32)) d_M_writeMap_300 (by decide) ?_
    refine z_iadd d_M_writeMap_301 ?_
    obtain ⟨rfl, rfl⟩ := Prod.mk.inj (Option.some.inj hf)
    exact z_ret d_M_writeMap_302 rfl
  · rw [if_pos c65] at hf
    refine z_iload 4 d_M_writeMap_166 rfl ?_
    obtain ⟨rfl, rfl⟩ := Prod.mk.inj (Option.some.inj hf)
    exact z_ret d_M_writeMap_168 rfl
set_option maxRecDepth 100000 in
set_option maxHeartbeats 4000000 in
theorem fr_M_writeMap {C : Ct} {mi : Nat} {a0 : Nat} {p1 : Int32} {p2 : Int32} {p3 : Int32} {p4 : Int32} {h h' : Hp} {v : Int32} (hf : f_M_writeMap a0 p1 p2 p3 p4 h = some (v, h')) : Keep W_M_writeMap h h' := by
  unfold f_M_writeMap at hf
  obtain ⟨g1, hf⟩ := gd_some hf
  obtain ⟨v4, h2, ec3, hf⟩ := cl_some hf
  have K5 := (Keep.refl W_M_writeMap _).trans ((fr_M_page (C := C) (mi := mi) ec3).mono (by decide) (by decide))
  obtain ⟨x57, el58, hf⟩ := bd_some hf
  have K59 := K5.trans (kl_M_writeMap_14 (C := C) (mi := mi) el58)
  obtain ⟨g60, hf⟩ := gd_some hf
  obtain ⟨v63, h61, ec62, hf⟩ := cl_some hf
  have K64 := K59.trans ((fr_M_mapHas (C := C) (mi := mi) ec62).mono (by decide) (by decide))
  rcases (Classical.em (v63 = 0)).symm with c65 | c65
  · rw [if_neg c65] at hf
    obtain ⟨g66, hf⟩ := gd_some hf
    obtain ⟨v69, h67, ec68, hf⟩ := cl_some hf
    have K70 := K64.trans ((fr_M_add (C := C) (mi := mi) ec68).mono (by decide) (by decide))
    obtain ⟨g71, hf⟩ := gd_some hf
    obtain ⟨a72, e73, hf⟩ := dr_some hf
    obtain ⟨g74, hf⟩ := gd_some hf
    obtain ⟨g75, hf⟩ := gd_some hf
    obtain ⟨h76, eh77, hf⟩ := nm_some hf
    have K78 := K70.trans (kw_I eh77 (isK_eq g74) (Or.inr (by decide)))
    obtain ⟨x115, el116, hf⟩ := bd_some hf
    have K117 := K78.trans (kl_M_writeMap_200 (C := C) (mi := mi) el116)
    obtain ⟨rfl, rfl⟩ := Prod.mk.inj (Option.some.inj hf)
    exact K117
  · rw [if_pos c65] at hf
    obtain ⟨rfl, rfl⟩ := Prod.mk.inj (Option.some.inj hf)
    exact K64
theorem c_M_writeMap {l : Launch} {C : Ct} {mi : Nat} {a0 : Nat} {p1 : Int32} {p2 : Int32} {p3 : Int32} {p4 : Int32} {h h' : Hp} {v : Int32} (hf : f_M_writeMap a0 p1 p2 p3 p4 h = some (v, h')) : Mt l C mi m_M_writeMap 2 [vr (some a0), vi p1, vi p2, vi p3, vi p4] h (some (vi v)) h' := mt_I (ty := .int) rfl rfl rfl (by decide) (Nat.le_of_ble_eq_true rfl) (zf_M_writeMap hf)
-- VersionMapsModel.commit()I
def m_M_commit : Mi := (⟨"VersionMapsModel", "commit", "()I"⟩, prog_11_method_28_code, 9, (Option.some Jvm.ClassFile.FieldType.int), .ireturn)
theorem cw_M_commit : cw_ok m_M_commit 0 := ⟨by decide +kernel, by decide +kernel, by decide +kernel, by decide +kernel⟩
theorem im_M_commit : Cond.instanceMethod m_M_commit.1 ∈ lw_w := by decide +kernel
theorem se_M_commit : Cond.selects "VersionMapsModel" m_M_commit.1 m_M_commit.1 ∈ lw_w := by decide +kernel
theorem d_M_commit_0 : decode prog_11_method_28_code 0 = .ok (.iconst 0, 1) := by decide +kernel
theorem d_M_commit_1 : decode prog_11_method_28_code 1 = .ok (.istore_n 1, 1) := by decide +kernel
theorem d_M_commit_2 : decode prog_11_method_28_code 2 = .ok (.iconst 0, 1) := by decide +kernel
theorem d_M_commit_3 : decode prog_11_method_28_code 3 = .ok (.istore_n 2, 1) := by decide +kernel
theorem d_M_commit_4 : decode prog_11_method_28_code 4 = .ok (.iload_n 2, 1) := by decide +kernel
theorem d_M_commit_5 : decode prog_11_method_28_code 5 = .ok (.iconst 4, 1) := by decide +kernel
theorem d_M_commit_6 : decode prog_11_method_28_code 6 = .ok (.if_icmp .ge 17, 3) := by decide +kernel
theorem d_M_commit_9 : decode prog_11_method_28_code 9 = .ok (.iload_n 1, 1) := by decide +kernel
theorem d_M_commit_10 : decode prog_11_method_28_code 10 = .ok (.aload_n 0, 1) := by decide +kernel
theorem d_M_commit_11 : decode prog_11_method_28_code 11 = .ok (.iload_n 2, 1) := by decide +kernel
theorem d_M_commit_12 : decode prog_11_method_28_code 12 = .ok (.invokevirtual 146, 3) := by decide +kernel
theorem d_M_commit_15 : decode prog_11_method_28_code 15 = .ok (.ior, 1) := by decide +kernel
theorem d_M_commit_16 : decode prog_11_method_28_code 16 = .ok (.istore_n 1, 1) := by decide +kernel
theorem d_M_commit_17 : decode prog_11_method_28_code 17 = .ok (.iinc 2 1, 3) := by decide +kernel
theorem d_M_commit_20 : decode prog_11_method_28_code 20 = .ok (.goto (-16), 3) := by decide +kernel
theorem d_M_commit_23 : decode prog_11_method_28_code 23 = .ok (.iload_n 1, 1) := by decide +kernel
theorem d_M_commit_24 : decode prog_11_method_28_code 24 = .ok (.ifCond .ne 8, 3) := by decide +kernel
theorem d_M_commit_27 : decode prog_11_method_28_code 27 = .ok (.aload_n 0, 1) := by decide +kernel
theorem d_M_commit_28 : decode prog_11_method_28_code 28 = .ok (.getfield 119, 3) := by decide +kernel
theorem d_M_commit_31 : decode prog_11_method_28_code 31 = .ok (.ireturn, 1) := by decide +kernel
theorem d_M_commit_32 : decode prog_11_method_28_code 32 = .ok (.aload_n 0, 1) := by decide +kernel
theorem d_M_commit_33 : decode prog_11_method_28_code 33 = .ok (.invokevirtual 159, 3) := by decide +kernel
theorem d_M_commit_36 : decode prog_11_method_28_code 36 = .ok (.istore_n 2, 1) := by decide +kernel
theorem d_M_commit_37 : decode prog_11_method_28_code 37 = .ok (.aload_n 0, 1) := by decide +kernel
theorem d_M_commit_38 : decode prog_11_method_28_code 38 = .ok (.iload_n 2, 1) := by decide +kernel
theorem d_M_commit_39 : decode prog_11_method_28_code 39 = .ok (.iconst 1, 1) := by decide +kernel
theorem d_M_commit_40 : decode prog_11_method_28_code 40 = .ok (.iadd, 1) := by decide +kernel
theorem d_M_commit_41 : decode prog_11_method_28_code 41 = .ok (.iconst 2, 1) := by decide +kernel
theorem d_M_commit_42 : decode prog_11_method_28_code 42 = .ok (.idiv, 1) := by decide +kernel
theorem d_M_commit_43 : decode prog_11_method_28_code 43 = .ok (.invokevirtual 163, 3) := by decide +kernel
theorem d_M_commit_46 : decode prog_11_method_28_code 46 = .ok (.istore_n 3, 1) := by decide +kernel
theorem d_M_commit_47 : decode prog_11_method_28_code 47 = .ok (.iload_n 3, 1) := by decide +kernel
theorem d_M_commit_48 : decode prog_11_method_28_code 48 = .ok (.ifCond .ge 6, 3) := by decide +kernel
theorem d_M_commit_51 : decode prog_11_method_28_code 51 = .ok (.bipush (-2), 2) := by decide +kernel
theorem d_M_commit_53 : decode prog_11_method_28_code 53 = .ok (.ireturn, 1) := by decide +kernel
theorem d_M_commit_54 : decode prog_11_method_28_code 54 = .ok (.aload_n 0, 1) := by decide +kernel
theorem d_M_commit_55 : decode prog_11_method_28_code 55 = .ok (.invokevirtual 166, 3) := by decide +kernel
theorem d_M_commit_58 : decode prog_11_method_28_code 58 = .ok (.aload_n 0, 1) := by decide +kernel
theorem d_M_commit_59 : decode prog_11_method_28_code 59 = .ok (.getfield 83, 3) := by decide +kernel
theorem d_M_commit_62 : decode prog_11_method_28_code 62 = .ok (.istore 4, 2) := by decide +kernel
theorem d_M_commit_64 : decode prog_11_method_28_code 64 = .ok (.iconst 0, 1) := by decide +kernel
theorem d_M_commit_65 : decode prog_11_method_28_code 65 = .ok (.istore 5, 2) := by decide +kernel
theorem d_M_commit_67 : decode prog_11_method_28_code 67 = .ok (.aload_n 0, 1) := by decide +kernel
theorem d_M_commit_68 : decode prog_11_method_28_code 68 = .ok (.aload_n 0, 1) := by decide +kernel
theorem d_M_commit_69 : decode prog_11_method_28_code 69 = .ok (.getfield 93, 3) := by decide +kernel
theorem d_M_commit_72 : decode prog_11_method_28_code 72 = .ok (.aload_n 0, 1) := by decide +kernel
theorem d_M_commit_73 : decode prog_11_method_28_code 73 = .ok (.aload_n 0, 1) := by decide +kernel
theorem d_M_commit_74 : decode prog_11_method_28_code 74 = .ok (.getfield 119, 3) := by decide +kernel
theorem d_M_commit_77 : decode prog_11_method_28_code 77 = .ok (.invokevirtual 133, 3) := by decide +kernel
theorem d_M_commit_80 : decode prog_11_method_28_code 80 = .ok (.iaload, 1) := by decide +kernel
theorem d_M_commit_81 : decode prog_11_method_28_code 81 = .ok (.invokevirtual 108, 3) := by decide +kernel
theorem d_M_commit_84 : decode prog_11_method_28_code 84 = .ok (.istore 6, 2) := by decide +kernel
theorem d_M_commit_86 : decode prog_11_method_28_code 86 = .ok (.aload_n 0, 1) := by decide +kernel
theorem d_M_commit_87 : decode prog_11_method_28_code 87 = .ok (.dup, 1) := by decide +kernel
theorem d_M_commit_88 : decode prog_11_method_28_code 88 = .ok (.getfield 83, 3) := by decide +kernel
theorem d_M_commit_91 : decode prog_11_method_28_code 91 = .ok (.iconst 1, 1) := by decide +kernel
theorem d_M_commit_92 : decode prog_11_method_28_code 92 = .ok (.iadd, 1) := by decide +kernel
theorem d_M_commit_93 : decode prog_11_method_28_code 93 = .ok (.putfield 83, 3) := by decide +kernel
theorem d_M_commit_96 : decode prog_11_method_28_code 96 = .ok (.iconst 0, 1) := by decide +kernel
theorem d_M_commit_97 : decode prog_11_method_28_code 97 = .ok (.istore 7, 2) := by decide +kernel
theorem d_M_commit_99 : decode prog_11_method_28_code 99 = .ok (.iload 7, 2) := by decide +kernel
theorem d_M_commit_101 : decode prog_11_method_28_code 101 = .ok (.iconst 4, 1) := by decide +kernel
theorem d_M_commit_102 : decode prog_11_method_28_code 102 = .ok (.if_icmp .ge 75, 3) := by decide +kernel
theorem d_M_commit_105 : decode prog_11_method_28_code 105 = .ok (.iload 6, 2) := by decide +kernel
theorem d_M_commit_107 : decode prog_11_method_28_code 107 = .ok (.ifCond .ge 7, 3) := by decide +kernel
theorem d_M_commit_110 : decode prog_11_method_28_code 110 = .ok (.iconst 0, 1) := by decide +kernel
theorem d_M_commit_111 : decode prog_11_method_28_code 111 = .ok (.goto 15, 3) := by decide +kernel
theorem d_M_commit_114 : decode prog_11_method_28_code 114 = .ok (.aload_n 0, 1) := by decide +kernel
theorem d_M_commit_115 : decode prog_11_method_28_code 115 = .ok (.getfield 44, 3) := by decide +kernel
theorem d_M_commit_118 : decode prog_11_method_28_code 118 = .ok (.iconst 4, 1) := by decide +kernel
theorem d_M_commit_119 : decode prog_11_method_28_code 119 = .ok (.iload 6, 2) := by decide +kernel
theorem d_M_commit_121 : decode prog_11_method_28_code 121 = .ok (.imul, 1) := by decide +kernel
theorem d_M_commit_122 : decode prog_11_method_28_code 122 = .ok (.iload 7, 2) := by decide +kernel
theorem d_M_commit_124 : decode prog_11_method_28_code 124 = .ok (.iadd, 1) := by decide +kernel
theorem d_M_commit_125 : decode prog_11_method_28_code 125 = .ok (.iaload, 1) := by decide +kernel
theorem d_M_commit_126 : decode prog_11_method_28_code 126 = .ok (.istore 8, 2) := by decide +kernel
theorem d_M_commit_128 : decode prog_11_method_28_code 128 = .ok (.aload_n 0, 1) := by decide +kernel
theorem d_M_commit_129 : decode prog_11_method_28_code 129 = .ok (.getfield 102, 3) := by decide +kernel
theorem d_M_commit_132 : decode prog_11_method_28_code 132 = .ok (.iload 7, 2) := by decide +kernel
theorem d_M_commit_134 : decode prog_11_method_28_code 134 = .ok (.iload 8, 2) := by decide +kernel
theorem d_M_commit_136 : decode prog_11_method_28_code 136 = .ok (.iastore, 1) := by decide +kernel
theorem d_M_commit_137 : decode prog_11_method_28_code 137 = .ok (.aload_n 0, 1) := by decide +kernel
theorem d_M_commit_138 : decode prog_11_method_28_code 138 = .ok (.iload 7, 2) := by decide +kernel
theorem d_M_commit_140 : decode prog_11_method_28_code 140 = .ok (.invokevirtual 146, 3) := by decide +kernel
theorem d_M_commit_143 : decode prog_11_method_28_code 143 = .ok (.ifCond .ne 6, 3) := by decide +kernel
theorem d_M_commit_146 : decode prog_11_method_28_code 146 = .ok (.goto 25, 3) := by decide +kernel
theorem d_M_commit_149 : decode prog_11_method_28_code 149 = .ok (.aload_n 0, 1) := by decide +kernel
theorem d_M_commit_150 : decode prog_11_method_28_code 150 = .ok (.getfield 102, 3) := by decide +kernel
theorem d_M_commit_153 : decode prog_11_method_28_code 153 = .ok (.iload 7, 2) := by decide +kernel
theorem d_M_commit_155 : decode prog_11_method_28_code 155 = .ok (.iconst 0, 1) := by decide +kernel
theorem d_M_commit_156 : decode prog_11_method_28_code 156 = .ok (.iastore, 1) := by decide +kernel
theorem d_M_commit_157 : decode prog_11_method_28_code 157 = .ok (.aload_n 0, 1) := by decide +kernel
theorem d_M_commit_158 : decode prog_11_method_28_code 158 = .ok (.iload 7, 2) := by decide +kernel
theorem d_M_commit_160 : decode prog_11_method_28_code 160 = .ok (.iload 4, 2) := by decide +kernel
theorem d_M_commit_162 : decode prog_11_method_28_code 162 = .ok (.iload 5, 2) := by decide +kernel
theorem d_M_commit_164 : decode prog_11_method_28_code 164 = .ok (.iload 8, 2) := by decide +kernel
theorem d_M_commit_166 : decode prog_11_method_28_code 166 = .ok (.invokevirtual 169, 3) := by decide +kernel
theorem d_M_commit_169 : decode prog_11_method_28_code 169 = .ok (.istore 5, 2) := by decide +kernel
theorem d_M_commit_171 : decode prog_11_method_28_code 171 = .ok (.iinc 7 1, 3) := by decide +kernel
theorem d_M_commit_174 : decode prog_11_method_28_code 174 = .ok (.goto (-75), 3) := by decide +kernel
theorem d_M_commit_177 : decode prog_11_method_28_code 177 = .ok (.aload_n 0, 1) := by decide +kernel
theorem d_M_commit_178 : decode prog_11_method_28_code 178 = .ok (.iload 4, 2) := by decide +kernel
theorem d_M_commit_180 : decode prog_11_method_28_code 180 = .ok (.iload 5, 2) := by decide +kernel
theorem d_M_commit_182 : decode prog_11_method_28_code 182 = .ok (.iconst 2, 1) := by decide +kernel
theorem d_M_commit_183 : decode prog_11_method_28_code 183 = .ok (.iconst 0, 1) := by decide +kernel
theorem d_M_commit_184 : decode prog_11_method_28_code 184 = .ok (.aload_n 0, 1) := by decide +kernel
theorem d_M_commit_185 : decode prog_11_method_28_code 185 = .ok (.getfield 119, 3) := by decide +kernel
theorem d_M_commit_188 : decode prog_11_method_28_code 188 = .ok (.iconst 1, 1) := by decide +kernel
theorem d_M_commit_189 : decode prog_11_method_28_code 189 = .ok (.iadd, 1) := by decide +kernel
theorem d_M_commit_190 : decode prog_11_method_28_code 190 = .ok (.invokevirtual 173, 3) := by decide +kernel
theorem d_M_commit_193 : decode prog_11_method_28_code 193 = .ok (.istore 7, 2) := by decide +kernel
theorem d_M_commit_195 : decode prog_11_method_28_code 195 = .ok (.iconst 0, 1) := by decide +kernel
theorem d_M_commit_196 : decode prog_11_method_28_code 196 = .ok (.istore 8, 2) := by decide +kernel
theorem d_M_commit_198 : decode prog_11_method_28_code 198 = .ok (.iload 8, 2) := by decide +kernel
theorem d_M_commit_200 : decode prog_11_method_28_code 200 = .ok (.iconst 4, 1) := by decide +kernel
theorem d_M_commit_201 : decode prog_11_method_28_code 201 = .ok (.if_icmp .ge 28, 3) := by decide +kernel
theorem d_M_commit_204 : decode prog_11_method_28_code 204 = .ok (.aload_n 0, 1) := by decide +kernel
theorem d_M_commit_205 : decode prog_11_method_28_code 205 = .ok (.getfield 44, 3) := by decide +kernel
theorem d_M_commit_208 : decode prog_11_method_28_code 208 = .ok (.iconst 4, 1) := by decide +kernel
theorem d_M_commit_209 : decode prog_11_method_28_code 209 = .ok (.iload 7, 2) := by decide +kernel
theorem d_M_commit_211 : decode prog_11_method_28_code 211 = .ok (.imul, 1) := by decide +kernel
theorem d_M_commit_212 : decode prog_11_method_28_code 212 = .ok (.iload 8, 2) := by decide +kernel
theorem d_M_commit_214 : decode prog_11_method_28_code 214 = .ok (.iadd, 1) := by decide +kernel
theorem d_M_commit_215 : decode prog_11_method_28_code 215 = .ok (.aload_n 0, 1) := by decide +kernel
theorem d_M_commit_216 : decode prog_11_method_28_code 216 = .ok (.getfield 102, 3) := by decide +kernel
theorem d_M_commit_219 : decode prog_11_method_28_code 219 = .ok (.iload 8, 2) := by decide +kernel
theorem d_M_commit_221 : decode prog_11_method_28_code 221 = .ok (.iaload, 1) := by decide +kernel
theorem d_M_commit_222 : decode prog_11_method_28_code 222 = .ok (.iastore, 1) := by decide +kernel
theorem d_M_commit_223 : decode prog_11_method_28_code 223 = .ok (.iinc 8 1, 3) := by decide +kernel
theorem d_M_commit_226 : decode prog_11_method_28_code 226 = .ok (.goto (-28), 3) := by decide +kernel
theorem d_M_commit_229 : decode prog_11_method_28_code 229 = .ok (.aload_n 0, 1) := by decide +kernel
theorem d_M_commit_230 : decode prog_11_method_28_code 230 = .ok (.dup, 1) := by decide +kernel
theorem d_M_commit_231 : decode prog_11_method_28_code 231 = .ok (.getfield 119, 3) := by decide +kernel
theorem d_M_commit_234 : decode prog_11_method_28_code 234 = .ok (.iconst 1, 1) := by decide +kernel
theorem d_M_commit_235 : decode prog_11_method_28_code 235 = .ok (.iadd, 1) := by decide +kernel
theorem d_M_commit_236 : decode prog_11_method_28_code 236 = .ok (.putfield 119, 3) := by decide +kernel
theorem d_M_commit_239 : decode prog_11_method_28_code 239 = .ok (.aload_n 0, 1) := by decide +kernel
theorem d_M_commit_240 : decode prog_11_method_28_code 240 = .ok (.getfield 87, 3) := by decide +kernel
theorem d_M_commit_243 : decode prog_11_method_28_code 243 = .ok (.aload_n 0, 1) := by decide +kernel
theorem d_M_commit_244 : decode prog_11_method_28_code 244 = .ok (.getfield 96, 3) := by decide +kernel
theorem d_M_commit_247 : decode prog_11_method_28_code 247 = .ok (.aload_n 0, 1) := by decide +kernel
theorem d_M_commit_248 : decode prog_11_method_28_code 248 = .ok (.getfield 119, 3) := by decide +kernel
theorem d_M_commit_251 : decode prog_11_method_28_code 251 = .ok (.iastore, 1) := by decide +kernel
theorem d_M_commit_252 : decode prog_11_method_28_code 252 = .ok (.aload_n 0, 1) := by decide +kernel
theorem d_M_commit_253 : decode prog_11_method_28_code 253 = .ok (.getfield 90, 3) := by decide +kernel
theorem d_M_commit_256 : decode prog_11_method_28_code 256 = .ok (.aload_n 0, 1) := by decide +kernel
theorem d_M_commit_257 : decode prog_11_method_28_code 257 = .ok (.getfield 96, 3) := by decide +kernel
theorem d_M_commit_260 : decode prog_11_method_28_code 260 = .ok (.iconst 0, 1) := by decide +kernel
theorem d_M_commit_261 : decode prog_11_method_28_code 261 = .ok (.iastore, 1) := by decide +kernel
theorem d_M_commit_262 : decode prog_11_method_28_code 262 = .ok (.aload_n 0, 1) := by decide +kernel
theorem d_M_commit_263 : decode prog_11_method_28_code 263 = .ok (.getfield 93, 3) := by decide +kernel
theorem d_M_commit_266 : decode prog_11_method_28_code 266 = .ok (.aload_n 0, 1) := by decide +kernel
theorem d_M_commit_267 : decode prog_11_method_28_code 267 = .ok (.getfield 96, 3) := by decide +kernel
theorem d_M_commit_270 : decode prog_11_method_28_code 270 = .ok (.bipush 32, 2) := by decide +kernel
theorem d_M_commit_272 : decode prog_11_method_28_code 272 = .ok (.iload 4, 2) := by decide +kernel
theorem d_M_commit_274 : decode prog_11_method_28_code 274 = .ok (.imul, 1) := by decide +kernel
theorem d_M_commit_275 : decode prog_11_method_28_code 275 = .ok (.iload 5, 2) := by decide +kernel
theorem d_M_commit_277 : decode prog_11_method_28_code 277 = .ok (.iadd, 1) := by decide +kernel
theorem d_M_commit_278 : decode prog_11_method_28_code 278 = .ok (.iastore, 1) := by decide +kernel
theorem d_M_commit_279 : decode prog_11_method_28_code 279 = .ok (.aload_n 0, 1) := by decide +kernel
theorem d_M_commit_280 : decode prog_11_method_28_code 280 = .ok (.dup, 1) := by decide +kernel
theorem d_M_commit_281 : decode prog_11_method_28_code 281 = .ok (.getfield 96, 3) := by decide +kernel
theorem d_M_commit_284 : decode prog_11_method_28_code 284 = .ok (.iconst 1, 1) := by decide +kernel
theorem d_M_commit_285 : decode prog_11_method_28_code 285 = .ok (.iadd, 1) := by decide +kernel
theorem d_M_commit_286 : decode prog_11_method_28_code 286 = .ok (.putfield 96, 3) := by decide +kernel
theorem d_M_commit_289 : decode prog_11_method_28_code 289 = .ok (.aload_n 0, 1) := by decide +kernel
theorem d_M_commit_290 : decode prog_11_method_28_code 290 = .ok (.iload 4, 2) := by decide +kernel
theorem d_M_commit_292 : decode prog_11_method_28_code 292 = .ok (.iload_n 3, 1) := by decide +kernel
theorem d_M_commit_293 : decode prog_11_method_28_code 293 = .ok (.iload_n 2, 1) := by decide +kernel
theorem d_M_commit_294 : decode prog_11_method_28_code 294 = .ok (.aload_n 0, 1) := by decide +kernel
theorem d_M_commit_295 : decode prog_11_method_28_code 295 = .ok (.getfield 119, 3) := by decide +kernel
theorem d_M_commit_298 : decode prog_11_method_28_code 298 = .ok (.invokevirtual 177, 3) := by decide +kernel
theorem d_M_commit_301 : decode prog_11_method_28_code 301 = .ok (.aload_n 0, 1) := by decide +kernel
theorem d_M_commit_302 : decode prog_11_method_28_code 302 = .ok (.invokevirtual 140, 3) := by decide +kernel
theorem d_M_commit_305 : decode prog_11_method_28_code 305 = .ok (.aload_n 0, 1) := by decide +kernel
theorem d_M_commit_306 : decode prog_11_method_28_code 306 = .ok (.invokevirtual 181, 3) := by decide +kernel
theorem d_M_commit_309 : decode prog_11_method_28_code 309 = .ok (.aload_n 0, 1) := by decide +kernel
theorem d_M_commit_310 : decode prog_11_method_28_code 310 = .ok (.getfield 119, 3) := by decide +kernel
theorem d_M_commit_313 : decode prog_11_method_28_code 313 = .ok (.ireturn, 1) := by decide +kernel
def W_M_commit : Wl := ([(8, 19), (8, 25), (8, 26), (8, 30), (8, 31)], [76, 77, 79, 80, 81, 82, 83, 84, 85, 86, 88, 89, 92, 93, 94, 95, 96, 97, 98, 99, 100, 101, 102])
def b_M_commit_4 (y0 : Nat) (y1 : Int32) (y2 : Int32) (h : Hp) : Option ((Int32 × Int32 × Hp) ⊕ (Int32 × Hp)) :=
  if (nI 4) ≤ y2 then (some (.inr (y1, h))) else (gd (isK h y0 8) (cl (f_M_isTouched y0 y2 h) fun v5 h3 => some (.inl ((y1 ||| v5), (y2 + (1 : Int32)), h3))))
set_option maxRecDepth 100000 in
set_option maxHeartbeats 4000000 in
theorem zb_M_commit_4 {l : Launch} {C : Ct} {mi : Nat} {y0 : Nat} {y1 : Int32} {y2 : Int32} {h h' : Hp} {v : Int32} {q : ((Int32 × Int32 × Hp) ⊕ (Int32 × Hp))} (hf : b_M_commit_4 y0 y1 y2 h = some q) (kc : ∀ s, q = .inl s → Z l C mi m_M_commit 3 4 [(0, vr (some y0)), (1, vi s.1), (2, vi s.2.1)] [] s.2.2 (some (vi v)) h') (ke : ∀ x, q = .inr x → Z l C mi m_M_commit 3 23 [(0, vr (some y0)), (1, vi x.1)] [] x.2 (some (vi v)) h') : Z l C mi m_M_commit 3 4 [(0, vr (some y0)), (1, vi y1), (2, vi y2)] [] h (some (vi v)) h' := by
  unfold b_M_commit_4 at hf
  refine z_iload_n 2 d_M_commit_4 rfl rfl ?_
  refine z_iconst (v := (nI 4)) d_M_commit_5 (by decide) ?_
  refine z_icmp_ge (tgt := 23) d_M_commit_6 (by decide) (fun c1 => ?_) (fun c1 => ?_)
  · rw [if_pos c1] at hf
    refine z_ls [0, 1] rfl ?_
    exact ke (y1, h) (Option.some.inj hf).symm
  · rw [if_neg c1] at hf
    refine z_iload_n 1 d_M_commit_9 rfl rfl ?_
    refine z_aload_n 0 d_M_commit_10 rfl rfl ?_
    refine z_iload_n 2 d_M_commit_11 rfl rfl ?_
    obtain ⟨g2, hf⟩ := gd_some hf
    obtain ⟨v5, h3, ec4, hf⟩ := cl_some hf
    refine z_callVx rfl (c_M_isTouched ec4) d_M_commit_12 cw_M_isTouched lk_M_146 im_M_isTouched se_M_isTouched (kc_K (isK_eq g2) kc_8) ⟨by decide, by decide⟩ (Nat.le_of_ble_eq_true rfl) rfl ?_
    refine z_ior d_M_commit_15 ?_
    refine z_istore_n (ls2 := [(1, vi (y1 ||| v5)), (0, vr (some y0)), (2, vi y2)]) d_M_commit_16 rfl (by decide) rfl ?_
    refine z_iinc (ls2 := [(2, vi (y2 + (1 : Int32))), (1, vi (y1 ||| v5)), (0, vr (some y0))]) 2 d_M_commit_17 rfl rfl (by decide) rfl ?_
    refine z_goto (tgt := 4) d_M_commit_20 (by decide) ?_
    refine z_ls [2, 1, 0] rfl ?_
    exact kc ((y1 ||| v5), (y2 + (1 : Int32)), h3) (Option.some.inj hf).symm
set_option maxRecDepth 100000 in
set_option maxHeartbeats 4000000 in
theorem kb_M_commit_4 {C : Ct} {mi : Nat} {y0 : Nat} {y1 : Int32} {y2 : Int32} {h : Hp} {q : ((Int32 × Int32 × Hp) ⊕ (Int32 × Hp))} (hf : b_M_commit_4 y0 y1 y2 h = some q) : Keep W_M_commit h (Sum.elim (fun s : Int32 × Int32 × Hp => s.2.2) (fun x : Int32 × Hp => x.2) q) := by
  unfold b_M_commit_4 at hf
  rcases Classical.em ((nI 4) ≤ y2) with c1 | c1
  · rw [if_pos c1] at hf
    cases (Option.some.inj hf)
    exact (Keep.refl W_M_commit _)
  · rw [if_neg c1] at hf
    obtain ⟨g2, hf⟩ := gd_some hf
    obtain ⟨v5, h3, ec4, hf⟩ := cl_some hf
    have K6 := (Keep.refl W_M_commit _).trans ((fr_M_isTouched (C := C) (mi := mi) ec4).mono (by decide) (by decide))
    cases (Option.some.inj hf)
    exact K6
def l_M_commit_4 (y0 : Nat) (s : Int32 × Int32 × Hp) : Option (Int32 × Hp) := lp (fun s => b_M_commit_4 y0 s.1 s.2.1 s.2.2) FU s
theorem zzl_M_commit_4 {l : Launch} {C : Ct} {mi : Nat} {y0 : Nat} {h' : Hp} {v : Int32} : ∀ (n : Nat) (s : Int32 × Int32 × Hp) (x : (Int32 × Hp)), lp (fun s : Int32 × Int32 × Hp => b_M_commit_4 y0 s.1 s.2.1 s.2.2) n s = some x → Z l C mi m_M_commit 3 23 [(0, vr (some y0)), (1, vi x.1)] [] x.2 (some (vi v)) h' → Z l C mi m_M_commit 3 4 [(0, vr (some y0)), (1, vi s.1), (2, vi s.2.1)] [] s.2.2 (some (vi v)) h' := by
  intro n
  induction n with
  | zero => intro s x hl; cases hl
  | succ n ih =>
    intro s x hl ke
    rcases lp_some hl with ⟨s2, hb, hl2⟩ | hb
    · exact zb_M_commit_4 hb (fun s3 e3 => by cases e3; refine z_ls [0, 1, 2] rfl ?_; exact ih s2 x hl2 ke) (fun x e3 => by cases e3)
    · exact zb_M_commit_4 hb (fun s3 e3 => by cases e3) (fun x e3 => by cases e3; exact ke)
theorem zl_M_commit_4 {l : Launch} {C : Ct} {mi : Nat} {y0 : Nat} {h' : Hp} {v : Int32} {s : Int32 × Int32 × Hp} {x : (Int32 × Hp)} (hl : l_M_commit_4 y0 s = some x) (ke : Z l C mi m_M_commit 3 23 [(0, vr (some y0)), (1, vi x.1)] [] x.2 (some (vi v)) h') : Z l C mi m_M_commit 3 4 [(0, vr (some y0)), (1, vi s.1), (2, vi s.2.1)] [] s.2.2 (some (vi v)) h' := zzl_M_commit_4 FU s x hl ke
theorem kl_M_commit_4 {C : Ct} {mi : Nat} {y0 : Nat} {s : Int32 × Int32 × Hp} {q : (Int32 × Hp)} (hl : l_M_commit_4 y0 s = some q) : Keep W_M_commit s.2.2 ((fun x : Int32 × Hp => x.2) q) := lpk (sh := (fun s : Int32 × Int32 × Hp => s.2.2)) (rh := (fun x : Int32 × Hp => x.2)) (fun s q hb => kb_M_commit_4 (C := C) (mi := mi) hb) FU s q hl
def j_M_commit_126_L99 (y0 : Nat) (y2 : Int32) (y3 : Int32) (y4 : Int32) (y5 : Int32) (y6 : Int32) (y7 : Int32) (w0 : Int32) (h : Hp) : Option ((Int32 × Int32 × Hp) ⊕ (Int32 × Hp)) :=
  gd (isK h y0 8) (dr (hpR h y0 33) fun a52 => gd (isK h a52 102) (gd (inb y7 (hpL h a52)) (nm (wI h a52 y7.toNatClampNeg w0) fun h56 => cl (f_M_isTouched y0 y7 h56) fun v61 h59 => if v61 = 0 then (some (.inl (y5, (y7 + (1 : Int32)), h59))) else (gd (isK h59 y0 8) (dr (hpR h59 y0 33) fun a65 => gd (isK h59 a65 102) (gd (inb y7 (hpL h59 a65)) (nm (wI h59 a65 y7.toNatClampNeg (0 : Int32)) fun h69 => cl (f_M_writeMap y0 y7 y4 y5 w0 h69) fun v74 h72 => some (.inl (v74, (y7 + (1 : Int32)), h72)))))))))
set_option maxRecDepth 100000 in
set_option maxHeartbeats 4000000 in
theorem zj_M_commit_126_L99 {l : Launch} {C : Ct} {mi : Nat} {y0 : Nat} {y2 : Int32} {y3 : Int32} {y4 : Int32} {y5 : Int32} {y6 : Int32} {y7 : Int32} {w0 : Int32} {h h' : Hp} {v : Int32} {q : ((Int32 × Int32 × Hp) ⊕ (Int32 × Hp))} (hf : j_M_commit_126_L99 y0 y2 y3 y4 y5 y6 y7 w0 h = some q) (kc : ∀ s, q = .inl s → Z l C mi m_M_commit 3 99 [(0, vr (some y0)), (2, vi y2), (3, vi y3), (4, vi y4), (5, vi s.1), (6, vi y6), (7, vi s.2.1)] [] s.2.2 (some (vi v)) h') (ke : ∀ x, q = .inr x → Z l C mi m_M_commit 3 177 [(0, vr (some y0)), (2, vi y2), (3, vi y3), (4, vi y4), (5, vi x.1)] [] x.2 (some (vi v)) h') : Z l C mi m_M_commit 3 126 [(0, vr (some y0)), (2, vi y2), (3, vi y3), (4, vi y4), (5, vi y5), (6, vi y6), (7, vi y7)] [vi w0] h (some (vi v)) h' := by
  unfold j_M_commit_126_L99 at hf
  refine z_istore (ls2 := [(8, vi w0), (0, vr (some y0)), (2, vi y2), (3, vi y3), (4, vi y4), (5, vi y5), (6, vi y6), (7, vi y7)]) d_M_commit_126 (by decide) rfl ?_
  refine z_aload_n 1 d_M_commit_128 rfl rfl ?_
  obtain ⟨g51, hf⟩ := gd_some hf
  refine z_getR d_M_commit_129 (fl_K (isK_eq g51) fl_M_102_8) (fi_K (isK_eq g51) rfl) rfl ?_
  refine z_iload 7 d_M_commit_132 rfl ?_
  refine z_iload 0 d_M_commit_134 rfl ?_
  obtain ⟨a52, e53, hf⟩ := dr_some hf
  obtain ⟨g54, hf⟩ := gd_some hf
  obtain ⟨g55, hf⟩ := gd_some hf
  obtain ⟨h56, eh57, hf⟩ := nm_some hf
  refine z_iast d_M_commit_136 e53 (by rw [isK_eq g54]; decide) (by rw [isK_eq g54]; rfl) (inb_vp g55) ?_
  refine z_hp eh57 ?_
  refine z_aload_n 1 d_M_commit_137 rfl rfl ?_
  refine z_iload 7 d_M_commit_138 rfl ?_
  obtain ⟨v61, h59, ec60, hf⟩ := cl_some hf
  refine z_callVx rfl (c_M_isTouched ec60) d_M_commit_140 cw_M_isTouched lk_M_146 im_M_isTouched se_M_isTouched (kc_K (isK_eq (isK_wI eh57 g51)) kc_8) ⟨by decide, by decide⟩ (Nat.le_of_ble_eq_true rfl) rfl ?_
  refine z_if_ne (tgt := 149) d_M_commit_143 (by decide) (fun c63 => ?_) (fun c63 => ?_)
  · rw [if_neg c63] at hf
    refine z_aload_n 1 d_M_commit_149 rfl rfl ?_
    obtain ⟨g64, hf⟩ := gd_some hf
    refine z_getR d_M_commit_150 (fl_K (isK_eq g64) fl_M_102_8) (fi_K (isK_eq g64) rfl) rfl ?_
    refine z_iload 7 d_M_commit_153 rfl ?_
    refine z_iconst (v := (0 : Int32)) d_M_commit_155 (by decide) ?_
    obtain ⟨a65, e66, hf⟩ := dr_some hf
    obtain ⟨g67, hf⟩ := gd_some hf
    obtain ⟨g68, hf⟩ := gd_some hf
    obtain ⟨h69, eh70, hf⟩ := nm_some hf
    refine z_iast d_M_commit_156 e66 (by rw [isK_eq g67]; decide) (by rw [isK_eq g67]; rfl) (inb_vp g68) ?_
    refine z_hp eh70 ?_
    refine z_aload_n 1 d_M_commit_157 rfl rfl ?_
    refine z_iload 7 d_M_commit_158 rfl ?_
    refine z_iload 4 d_M_commit_160 rfl ?_
    refine z_iload 5 d_M_commit_162 rfl ?_
    refine z_iload 0 d_M_commit_164 rfl ?_
    obtain ⟨v74, h72, ec73, hf⟩ := cl_some hf
    refine z_callVx rfl (c_M_writeMap ec73) d_M_commit_166 cw_M_writeMap lk_M_169 im_M_writeMap se_M_writeMap (kc_K (isK_eq (isK_wI eh70 g64)) kc_8) ⟨by decide, by decide⟩ (Nat.le_of_ble_eq_true rfl) rfl ?_
    refine z_istore (ls2 := [(5, vi v74), (8, vi w0), (0, vr (some y0)), (2, vi y2), (3, vi y3), (4, vi y4), (6, vi y6), (7, vi y7)]) d_M_commit_169 (by decide) rfl ?_
    refine z_iinc (ls2 := [(7, vi (y7 + (1 : Int32))), (5, vi v74), (8, vi w0), (0, vr (some y0)), (2, vi y2), (3, vi y3), (4, vi y4), (6, vi y6)]) 7 d_M_commit_171 rfl rfl (by decide) rfl ?_
    refine z_goto (tgt := 99) d_M_commit_174 (by decide) ?_
    refine z_ls [3, 4, 5, 6, 1, 7, 0] rfl ?_
    exact kc (v74, (y7 + (1 : Int32)), h72) (Option.some.inj hf).symm
  · rw [if_pos c63] at hf
    refine z_goto (tgt := 171) d_M_commit_146 (by decide) ?_
    refine z_iinc (ls2 := [(7, vi (y7 + (1 : Int32))), (8, vi w0), (0, vr (some y0)), (2, vi y2), (3, vi y3), (4, vi y4), (5, vi y5), (6, vi y6)]) 7 d_M_commit_171 rfl rfl (by decide) rfl ?_
    refine z_goto (tgt := 99) d_M_commit_174 (by decide) ?_
    refine z_ls [2, 3, 4, 5, 6, 7, 0] rfl ?_
    exact kc (y5, (y7 + (1 : Int32)), h59) (Option.some.inj hf).symm
set_option maxRecDepth 100000 in
set_option maxHeartbeats 4000000 in
theorem kj_M_commit_126_L99 {C : Ct} {mi : Nat} {y0 : Nat} {y2 : Int32} {y3 : Int32} {y4 : Int32} {y5 : Int32} {y6 : Int32} {y7 : Int32} {w0 : Int32} {h : Hp} {q : ((Int32 × Int32 × Hp) ⊕ (Int32 × Hp))} (hf : j_M_commit_126_L99 y0 y2 y3 y4 y5 y6 y7 w0 h = some q) : Keep W_M_commit h (Sum.elim (fun s : Int32 × Int32 × Hp => s.2.2) (fun x : Int32 × Hp => x.2) q) := by
  unfold j_M_commit_126_L99 at hf
  obtain ⟨g51, hf⟩ := gd_some hf
  obtain ⟨a52, e53, hf⟩ := dr_some hf
  obtain ⟨g54, hf⟩ := gd_some hf
  obtain ⟨g55, hf⟩ := gd_some hf
  obtain ⟨h56, eh57, hf⟩ := nm_some hf
  have K58 := (Keep.refl W_M_commit _).trans (kw_I eh57 (isK_eq g54) (Or.inr (by decide)))
  obtain ⟨v61, h59, ec60, hf⟩ := cl_some hf
  have K62 := K58.trans ((fr_M_isTouched (C := C) (mi := mi) ec60).mono (by decide) (by decide))
  rcases (Classical.em (v61 = 0)).symm with c63 | c63
  · rw [if_neg c63] at hf
    obtain ⟨g64, hf⟩ := gd_some hf
    obtain ⟨a65, e66, hf⟩ := dr_some hf
    obtain ⟨g67, hf⟩ := gd_some hf
    obtain ⟨g68, hf⟩ := gd_some hf
    obtain ⟨h69, eh70, hf⟩ := nm_some hf
    have K71 := K62.trans (kw_I eh70 (isK_eq g67) (Or.inr (by decide)))
    obtain ⟨v74, h72, ec73, hf⟩ := cl_some hf
    have K75 := K71.trans ((fr_M_writeMap (C := C) (mi := mi) ec73).mono (by decide) (by decide))
    cases (Option.some.inj hf)
    exact K75
  · rw [if_pos c63] at hf
    cases (Option.some.inj hf)
    exact K62
def b_M_commit_99 (y0 : Nat) (y2 : Int32) (y3 : Int32) (y4 : Int32) (y5 : Int32) (y6 : Int32) (y7 : Int32) (h : Hp) : Option ((Int32 × Int32 × Hp) ⊕ (Int32 × Hp)) :=
  if (nI 4) ≤ y7 then (some (.inr (y5, h))) else (if 0 ≤ y6 then (gd (isK h y0 8) (dr (hpR h y0 11) fun a47 => gd (isK h a47 86) (gd (inb (((nI 4) * y6) + y7) (hpL h a47)) (j_M_commit_126_L99 y0 y2 y3 y4 y5 y6 y7 (hpI h a47 (((nI 4) * y6) + y7).toNatClampNeg) h)))) else (j_M_commit_126_L99 y0 y2 y3 y4 y5 y6 y7 (0 : Int32) h))
set_option maxRecDepth 100000 in
set_option maxHeartbeats 4000000 in
theorem zb_M_commit_99 {l : Launch} {C : Ct} {mi : Nat} {y0 : Nat} {y2 : Int32} {y3 : Int32} {y4 : Int32} {y5 : Int32} {y6 : Int32} {y7 : Int32} {h h' : Hp} {v : Int32} {q : ((Int32 × Int32 × Hp) ⊕ (Int32 × Hp))} (hf : b_M_commit_99 y0 y2 y3 y4 y5 y6 y7 h = some q) (kc : ∀ s, q = .inl s → Z l C mi m_M_commit 3 99 [(0, vr (some y0)), (2, vi y2), (3, vi y3), (4, vi y4), (5, vi s.1), (6, vi y6), (7, vi s.2.1)] [] s.2.2 (some (vi v)) h') (ke : ∀ x, q = .inr x → Z l C mi m_M_commit 3 177 [(0, vr (some y0)), (2, vi y2), (3, vi y3), (4, vi y4), (5, vi x.1)] [] x.2 (some (vi v)) h') : Z l C mi m_M_commit 3 99 [(0, vr (some y0)), (2, vi y2), (3, vi y3), (4, vi y4), (5, vi y5), (6, vi y6), (7, vi y7)] [] h (some (vi v)) h' := by
  unfold b_M_commit_99 at hf
  refine z_iload 6 d_M_commit_99 rfl ?_
  refine z_iconst (v := (nI 4)) d_M_commit_101 (by decide) ?_
  refine z_icmp_ge (tgt := 177) d_M_commit_102 (by decide) (fun c44 => ?_) (fun c44 => ?_)
  · rw [if_pos c44] at hf
    refine z_ls [0, 1, 2, 3, 4] rfl ?_
    exact ke (y5, h) (Option.some.inj hf).symm
  · rw [if_neg c44] at hf
    refine z_iload 5 d_M_commit_105 rfl ?_
    refine z_if_ge (tgt := 114) d_M_commit_107 (by decide) (fun c45 => ?_) (fun c45 => ?_)
    · rw [if_pos c45] at hf
      refine z_aload_n 0 d_M_commit_114 rfl rfl ?_
      obtain ⟨g46, hf⟩ := gd_some hf
      refine z_getR d_M_commit_115 (fl_K (isK_eq g46) fl_M_44_8) (fi_K (isK_eq g46) rfl) rfl ?_
      refine z_iconst (v := (nI 4)) d_M_commit_118 (by decide) ?_
      refine z_iload 5 d_M_commit_119 rfl ?_
      refine z_imul d_M_commit_121 ?_
      refine z_iload 6 d_M_commit_122 rfl ?_
      refine z_iadd d_M_commit_124 ?_
      obtain ⟨a47, e48, hf⟩ := dr_some hf
      obtain ⟨g49, hf⟩ := gd_some hf
      obtain ⟨g50, hf⟩ := gd_some hf
      refine z_iald d_M_commit_125 e48 (by rw [isK_eq g49]; decide) (by rw [isK_eq g49]; rfl) (inb_vp g50) ?_
      refine z_ls [0, 1, 2, 3, 4, 5, 6] rfl ?_
      exact zj_M_commit_126_L99 hf kc ke
    · rw [if_neg c45] at hf
      refine z_iconst (v := (0 : Int32)) d_M_commit_110 (by decide) ?_
      refine z_goto (tgt := 126) d_M_commit_111 (by decide) ?_
      refine z_ls [0, 1, 2, 3, 4, 5, 6] rfl ?_
      exact zj_M_commit_126_L99 hf kc ke
set_option maxRecDepth 100000 in
set_option maxHeartbeats 4000000 in
theorem kb_M_commit_99 {C : Ct} {mi : Nat} {y0 : Nat} {y2 : Int32} {y3 : Int32} {y4 : Int32} {y5 : Int32} {y6 : Int32} {y7 : Int32} {h : Hp} {q : ((Int32 × Int32 × Hp) ⊕ (Int32 × Hp))} (hf : b_M_commit_99 y0 y2 y3 y4 y5 y6 y7 h = some q) : Keep W_M_commit h (Sum.elim (fun s : Int32 × Int32 × Hp => s.2.2) (fun x : Int32 × Hp => x.2) q) := by
  unfold b_M_commit_99 at hf
  rcases Classical.em ((nI 4) ≤ y7) with c44 | c44
  · rw [if_pos c44] at hf
    cases (Option.some.inj hf)
    exact (Keep.refl W_M_commit _)
  · rw [if_neg c44] at hf
    rcases Classical.em (0 ≤ y6) with c45 | c45
    · rw [if_pos c45] at hf
      obtain ⟨g46, hf⟩ := gd_some hf
      obtain ⟨a47, e48, hf⟩ := dr_some hf
      obtain ⟨g49, hf⟩ := gd_some hf
      obtain ⟨g50, hf⟩ := gd_some hf
      exact (Keep.refl W_M_commit _).trans (kj_M_commit_126_L99 (C := C) (mi := mi) hf)
    · rw [if_neg c45] at hf
      exact (Keep.refl W_M_commit _).trans (kj_M_commit_126_L99 (C := C) (mi := mi) hf)
def l_M_commit_99 (y0 : Nat) (y2 : Int32) (y3 : Int32) (y4 : Int32) (y6 : Int32) (s : Int32 × Int32 × Hp) : Option (Int32 × Hp) := lp (fun s => b_M_commit_99 y0 y2 y3 y4 s.1 y6 s.2.1 s.2.2) FU s
theorem zzl_M_commit_99 {l : Launch} {C : Ct} {mi : Nat} {y0 : Nat} {y2 : Int32} {y3 : Int32} {y4 : Int32} {y6 : Int32} {h' : Hp} {v : Int32} : ∀ (n : Nat) (s : Int32 × Int32 × Hp) (x : (Int32 × Hp)), lp (fun s : Int32 × Int32 × Hp => b_M_commit_99 y0 y2 y3 y4 s.1 y6 s.2.1 s.2.2) n s = some x → Z l C mi m_M_commit 3 177 [(0, vr (some y0)), (2, vi y2), (3, vi y3), (4, vi y4), (5, vi x.1)] [] x.2 (some (vi v)) h' → Z l C mi m_M_commit 3 99 [(0, vr (some y0)), (2, vi y2), (3, vi y3), (4, vi y4), (5, vi s.1), (6, vi y6), (7, vi s.2.1)] [] s.2.2 (some (vi v)) h' := by
  intro n
  induction n with
  | zero => intro s x hl; cases hl
  | succ n ih =>
    intro s x hl ke
    rcases lp_some hl with ⟨s2, hb, hl2⟩ | hb
    · exact zb_M_commit_99 hb (fun s3 e3 => by cases e3; refine z_ls [0, 1, 2, 3, 4, 5, 6] rfl ?_; exact ih s2 x hl2 ke) (fun x e3 => by cases e3)
    · exact zb_M_commit_99 hb (fun s3 e3 => by cases e3) (fun x e3 => by cases e3; exact ke)
theorem zl_M_commit_99 {l : Launch} {C : Ct} {mi : Nat} {y0 : Nat} {y2 : Int32} {y3 : Int32} {y4 : Int32} {y6 : Int32} {h' : Hp} {v : Int32} {s : Int32 × Int32 × Hp} {x : (Int32 × Hp)} (hl : l_M_commit_99 y0 y2 y3 y4 y6 s = some x) (ke : Z l C mi m_M_commit 3 177 [(0, vr (some y0)), (2, vi y2), (3, vi y3), (4, vi y4), (5, vi x.1)] [] x.2 (some (vi v)) h') : Z l C mi m_M_commit 3 99 [(0, vr (some y0)), (2, vi y2), (3, vi y3), (4, vi y4), (5, vi s.1), (6, vi y6), (7, vi s.2.1)] [] s.2.2 (some (vi v)) h' := zzl_M_commit_99 FU s x hl ke
theorem kl_M_commit_99 {C : Ct} {mi : Nat} {y0 : Nat} {y2 : Int32} {y3 : Int32} {y4 : Int32} {y6 : Int32} {s : Int32 × Int32 × Hp} {q : (Int32 × Hp)} (hl : l_M_commit_99 y0 y2 y3 y4 y6 s = some q) : Keep W_M_commit s.2.2 ((fun x : Int32 × Hp => x.2) q) := lpk (sh := (fun s : Int32 × Int32 × Hp => s.2.2)) (rh := (fun x : Int32 × Hp => x.2)) (fun s q hb => kb_M_commit_99 (C := C) (mi := mi) hb) FU s q hl
def b_M_commit_198 (y0 : Nat) (y2 : Int32) (y3 : Int32) (y4 : Int32) (y5 : Int32) (y7 : Int32) (y8 : Int32) (h : Hp) : Option ((Int32 × Hp) ⊕ (Hp)) :=
  if (nI 4) ≤ y8 then (some (.inr h)) else (gd (isK h y0 8) (dr (hpR h y0 33) fun a86 => gd (isK h a86 102) (gd (inb y8 (hpL h a86)) (dr (hpR h y0 11) fun a90 => gd (isK h a90 86) (gd (inb (((nI 4) * y7) + y8) (hpL h a90)) (nm (wI h a90 (((nI 4) * y7) + y8).toNatClampNeg (hpI h a86 y8.toNatClampNeg)) fun h94 => some (.inl ((y8 + (1 : Int32)), h94))))))))
set_option maxRecDepth 100000 in
set_option maxHeartbeats 4000000 in
theorem zb_M_commit_198 {l : Launch} {C : Ct} {mi : Nat} {y0 : Nat} {y2 : Int32} {y3 : Int32} {y4 : Int32} {y5 : Int32} {y7 : Int32} {y8 : Int32} {h h' : Hp} {v : Int32} {q : ((Int32 × Hp) ⊕ (Hp))} (hf : b_M_commit_198 y0 y2 y3 y4 y5 y7 y8 h = some q) (kc : ∀ s, q = .inl s → Z l C mi m_M_commit 3 198 [(0, vr (some y0)), (2, vi y2), (3, vi y3), (4, vi y4), (5, vi y5), (7, vi y7), (8, vi s.1)] [] s.2 (some (vi v)) h') (ke : ∀ x, q = .inr x → Z l C mi m_M_commit 3 229 [(0, vr (some y0)), (2, vi y2), (3, vi y3), (4, vi y4), (5, vi y5)] [] x (some (vi v)) h') : Z l C mi m_M_commit 3 198 [(0, vr (some y0)), (2, vi y2), (3, vi y3), (4, vi y4), (5, vi y5), (7, vi y7), (8, vi y8)] [] h (some (vi v)) h' := by
  unfold b_M_commit_198 at hf
  refine z_iload 6 d_M_commit_198 rfl ?_
  refine z_iconst (v := (nI 4)) d_M_commit_200 (by decide) ?_
  refine z_icmp_ge (tgt := 229) d_M_commit_201 (by decide) (fun c84 => ?_) (fun c84 => ?_)
  · rw [if_pos c84] at hf
    refine z_ls [0, 1, 2, 3, 4] rfl ?_
    exact ke h (Option.some.inj hf).symm
  · rw [if_neg c84] at hf
    refine z_aload_n 0 d_M_commit_204 rfl rfl ?_
    obtain ⟨g85, hf⟩ := gd_some hf
    refine z_getR d_M_commit_205 (fl_K (isK_eq g85) fl_M_44_8) (fi_K (isK_eq g85) rfl) rfl ?_
    refine z_iconst (v := (nI 4)) d_M_commit_208 (by decide) ?_
    refine z_iload 5 d_M_commit_209 rfl ?_
    refine z_imul d_M_commit_211 ?_
    refine z_iload 6 d_M_commit_212 rfl ?_
    refine z_iadd d_M_commit_214 ?_
    refine z_aload_n 0 d_M_commit_215 rfl rfl ?_
    refine z_getR d_M_commit_216 (fl_K (isK_eq g85) fl_M_102_8) (fi_K (isK_eq g85) rfl) rfl ?_
    refine z_iload 6 d_M_commit_219 rfl ?_
    obtain ⟨a86, e87, hf⟩ := dr_some hf
    obtain ⟨g88, hf⟩ := gd_some hf
    obtain ⟨g89, hf⟩ := gd_some hf
    refine z_iald d_M_commit_221 e87 (by rw [isK_eq g88]; decide) (by rw [isK_eq g88]; rfl) (inb_vp g89) ?_
    obtain ⟨a90, e91, hf⟩ := dr_some hf
    obtain ⟨g92, hf⟩ := gd_some hf
    obtain ⟨g93, hf⟩ := gd_some hf
    obtain ⟨h94, eh95, hf⟩ := nm_some hf
    refine z_iast d_M_commit_222 e91 (by rw [isK_eq g92]; decide) (by rw [isK_eq g92]; rfl) (inb_vp g93) ?_
    refine z_hp eh95 ?_
    refine z_iinc (ls2 := [(8, vi (y8 + (1 : Int32))), (0, vr (some y0)), (2, vi y2), (3, vi y3), (4, vi y4), (5, vi y5), (7, vi y7)]) 6 d_M_commit_223 rfl rfl (by decide) rfl ?_
    refine z_goto (tgt := 198) d_M_commit_226 (by decide) ?_
    refine z_ls [1, 2, 3, 4, 5, 6, 0] rfl ?_
    exact kc ((y8 + (1 : Int32)), h94) (Option.some.inj hf).symm
set_option maxRecDepth 100000 in
set_option maxHeartbeats 4000000 in
theorem kb_M_commit_198 {C : Ct} {mi : Nat} {y0 : Nat} {y2 : Int32} {y3 : Int32} {y4 : Int32} {y5 : Int32} {y7 : Int32} {y8 : Int32} {h : Hp} {q : ((Int32 × Hp) ⊕ (Hp))} (hf : b_M_commit_198 y0 y2 y3 y4 y5 y7 y8 h = some q) : Keep W_M_commit h (Sum.elim (fun s : Int32 × Hp => s.2) (fun x : Hp => x) q) := by
  unfold b_M_commit_198 at hf
  rcases Classical.em ((nI 4) ≤ y8) with c84 | c84
  · rw [if_pos c84] at hf
    cases (Option.some.inj hf)
    exact (Keep.refl W_M_commit _)
  · rw [if_neg c84] at hf
    obtain ⟨g85, hf⟩ := gd_some hf
    obtain ⟨a86, e87, hf⟩ := dr_some hf
    obtain ⟨g88, hf⟩ := gd_some hf
    obtain ⟨g89, hf⟩ := gd_some hf
    obtain ⟨a90, e91, hf⟩ := dr_some hf
    obtain ⟨g92, hf⟩ := gd_some hf
    obtain ⟨g93, hf⟩ := gd_some hf
    obtain ⟨h94, eh95, hf⟩ := nm_some hf
    have K96 := (Keep.refl W_M_commit _).trans (kw_I eh95 (isK_eq g92) (Or.inr (by decide)))
    cases (Option.some.inj hf)
    exact K96
def l_M_commit_198 (y0 : Nat) (y2 : Int32) (y3 : Int32) (y4 : Int32) (y5 : Int32) (y7 : Int32) (s : Int32 × Hp) : Option (Hp) := lp (fun s => b_M_commit_198 y0 y2 y3 y4 y5 y7 s.1 s.2) FU s
theorem zzl_M_commit_198 {l : Launch} {C : Ct} {mi : Nat} {y0 : Nat} {y2 : Int32} {y3 : Int32} {y4 : Int32} {y5 : Int32} {y7 : Int32} {h' : Hp} {v : Int32} : ∀ (n : Nat) (s : Int32 × Hp) (x : (Hp)), lp (fun s : Int32 × Hp => b_M_commit_198 y0 y2 y3 y4 y5 y7 s.1 s.2) n s = some x → Z l C mi m_M_commit 3 229 [(0, vr (some y0)), (2, vi y2), (3, vi y3), (4, vi y4), (5, vi y5)] [] x (some (vi v)) h' → Z l C mi m_M_commit 3 198 [(0, vr (some y0)), (2, vi y2), (3, vi y3), (4, vi y4), (5, vi y5), (7, vi y7), (8, vi s.1)] [] s.2 (some (vi v)) h' := by
  intro n
  induction n with
  | zero => intro s x hl; cases hl
  | succ n ih =>
    intro s x hl ke
    rcases lp_some hl with ⟨s2, hb, hl2⟩ | hb
    · exact zb_M_commit_198 hb (fun s3 e3 => by cases e3; refine z_ls [0, 1, 2, 3, 4, 5, 6] rfl ?_; exact ih s2 x hl2 ke) (fun x e3 => by cases e3)
    · exact zb_M_commit_198 hb (fun s3 e3 => by cases e3) (fun x e3 => by cases e3; exact ke)
theorem zl_M_commit_198 {l : Launch} {C : Ct} {mi : Nat} {y0 : Nat} {y2 : Int32} {y3 : Int32} {y4 : Int32} {y5 : Int32} {y7 : Int32} {h' : Hp} {v : Int32} {s : Int32 × Hp} {x : (Hp)} (hl : l_M_commit_198 y0 y2 y3 y4 y5 y7 s = some x) (ke : Z l C mi m_M_commit 3 229 [(0, vr (some y0)), (2, vi y2), (3, vi y3), (4, vi y4), (5, vi y5)] [] x (some (vi v)) h') : Z l C mi m_M_commit 3 198 [(0, vr (some y0)), (2, vi y2), (3, vi y3), (4, vi y4), (5, vi y5), (7, vi y7), (8, vi s.1)] [] s.2 (some (vi v)) h' := zzl_M_commit_198 FU s x hl ke
theorem kl_M_commit_198 {C : Ct} {mi : Nat} {y0 : Nat} {y2 : Int32} {y3 : Int32} {y4 : Int32} {y5 : Int32} {y7 : Int32} {s : Int32 × Hp} {q : (Hp)} (hl : l_M_commit_198 y0 y2 y3 y4 y5 y7 s = some q) : Keep W_M_commit s.2 ((fun x : Hp => x) q) := lpk (sh := (fun s : Int32 × Hp => s.2)) (rh := (fun x : Hp => x)) (fun s q hb => kb_M_commit_198 (C := C) (mi := mi) hb) FU s q hl
def f_M_commit (a0 : Nat) (h : Hp) : Option (Int32 × Hp) :=
  bd (l_M_commit_4 a0 ((0 : Int32), (0 : Int32), h)) fun x7 => if x7.1 = 0 then (gd (isK x7.2 a0 8) (some ((hpI x7.2 a0 31), x7.2))) else (gd (isK x7.2 a0 8) (cl (f_M_pagesToWrite a0 x7.2) fun v14 h12 => gd (isK h12 a0 8) (cl (f_M_room a0 ((v14 + (1 : Int32)) / (nI 2)) h12) fun v19 h17 => if 0 ≤ v19 then (gd (isK h17 a0 8) (cv (f_M_purge a0 h17) fun h23 => gd (isK h23 a0 8) (cl (f_M_find a0 (hpI h23 a0 31) h23) fun v29 h27 => dr (hpR h23 a0 29) fun a31 => gd (isK h27 a31 101) (gd (inb v29 (hpL h27 a31)) (gd (isK h27 a0 8) (cl (f_M_page a0 (hpI h27 a31 v29.toNatClampNeg) h27) fun v38 h36 => gd (isK h36 a0 8) (nm (wI h36 a0 26 ((hpI h36 a0 26) + (1 : Int32))) fun h41 => bd (l_M_commit_99 a0 v14 v19 (hpI h23 a0 26) v38 ((0 : Int32), (0 : Int32), h41)) fun x76 => gd (isK x76.2 a0 8) (cl (f_M_add a0 (hpI h23 a0 26) x76.1 (nI 2) (0 : Int32) ((hpI x76.2 a0 31) + (1 : Int32)) x76.2) fun v82 h80 => bd (l_M_commit_198 a0 v14 v19 (hpI h23 a0 26) x76.1 v82 ((0 : Int32), h80)) fun x97 => gd (isK x97 a0 8) (nm (wI x97 a0 31 ((hpI x97 a0 31) + (1 : Int32))) fun h101 => dr (hpR h101 a0 27) fun a104 => gd (isK h101 a104 99) (gd (inb (hpI h101 a0 30) (hpL h101 a104)) (nm (wI h101 a104 (hpI h101 a0 30).toNatClampNeg (hpI h101 a0 31)) fun h108 => dr (hpR h108 a0 28) fun a111 => gd (isK h108 a111 100) (gd (inb (hpI h108 a0 30) (hpL h108 a111)) (nm (wI h108 a111 (hpI h108 a0 30).toNatClampNeg (0 : Int32)) fun h115 => dr (hpR h115 a0 29) fun a118 => gd (isK h115 a118 101) (gd (inb (hpI h115 a0 30) (hpL h115 a118)) (nm (wI h115 a118 (hpI h115 a0 30).toNatClampNeg (((nI 32) * (hpI h23 a0 26)) + x76.1)) fun h122 => nm (wI h122 a0 30 ((hpI h122 a0 30) + (1 : Int32))) fun h125 => cv (f_M_write a0 (hpI h23 a0 26) v19 v14 (hpI h125 a0 31) h125) fun h128 => gd (isK h128 a0 8) (cv (f_M_settle a0 h128) fun h132 => gd (isK h132 a0 8) (cv (f_M_drop a0 h132) fun h136 => gd (isK h136 a0 8) (some ((hpI h136 a0 31), h136))))))))))))))))))) else (some ((-2 : Int32), h17)))))
set_option maxRecDepth 100000 in
set_option maxHeartbeats 4000000 in
theorem zf_M_commit {l : Launch} {C : Ct} {mi : Nat} {a0 : Nat} {h h' : Hp} {v : Int32} (hf : f_M_commit a0 h = some (v, h')) : Z l C mi m_M_commit 3 0 [(0, vr (some a0))] [] h (some (vi v)) h' := by
  unfold f_M_commit at hf
  refine z_iconst (v := (0 : Int32)) d_M_commit_0 (by decide) ?_
  refine z_istore_n (ls2 := [(1, vi (0 : Int32)), (0, vr (some a0))]) d_M_commit_1 rfl (by decide) rfl ?_
  refine z_iconst (v := (0 : Int32)) d_M_commit_2 (by decide) ?_
  refine z_istore_n (ls2 := [(2, vi (0 : Int32)), (1, vi (0 : Int32)), (0, vr (some a0))]) d_M_commit_3 rfl (by decide) rfl ?_
  obtain ⟨x7, el8, hf⟩ := bd_some hf
  refine z_ls [2, 1, 0] rfl ?_
  refine zl_M_commit_4 el8 ?_
  refine z_iload_n 1 d_M_commit_23 rfl rfl ?_
  refine z_if_ne (tgt := 32) d_M_commit_24 (by decide) (fun c10 => ?_) (fun c10 => ?_)
  · rw [if_neg c10] at hf
    refine z_aload_n 0 d_M_commit_32 rfl rfl ?_
    obtain ⟨g11, hf⟩ := gd_some hf
    obtain ⟨v14, h12, ec13, hf⟩ := cl_some hf
    refine z_callVx rfl (c_M_pagesToWrite ec13) d_M_commit_33 cw_M_pagesToWrite lk_M_159 im_M_pagesToWrite se_M_pagesToWrite (kc_K (isK_eq g11) kc_8) ⟨by decide, by decide⟩ (Nat.le_of_ble_eq_true rfl) rfl ?_
    refine z_istore_n (ls2 := [(2, vi v14), (0, vr (some a0)), (1, vi x7.1)]) d_M_commit_36 rfl (by decide) rfl ?_
    refine z_aload_n 1 d_M_commit_37 rfl rfl ?_
    refine z_iload_n 0 d_M_commit_38 rfl rfl ?_
    refine z_iconst (v := (1 : Int32)) d_M_commit_39 (by decide) ?_
    refine z_iadd d_M_commit_40 ?_
    refine z_iconst (v := (nI 2)) d_M_commit_41 (by decide) ?_
    refine z_idiv d_M_commit_42 (by decide) ?_
    obtain ⟨g16, hf⟩ := gd_some hf
    obtain ⟨v19, h17, ec18, hf⟩ := cl_some hf
    refine z_callVx rfl (c_M_room ec18) d_M_commit_43 cw_M_room lk_M_163 im_M_room se_M_room (kc_K (isK_eq g16) kc_8) ⟨by decide, by decide⟩ (Nat.le_of_ble_eq_true rfl) rfl ?_
    refine z_istore_n (ls2 := [(3, vi v19), (2, vi v14), (0, vr (some a0)), (1, vi x7.1)]) d_M_commit_46 rfl (by decide) rfl ?_
    refine z_iload_n 0 d_M_commit_47 rfl rfl ?_
    refine z_if_ge (tgt := 54) d_M_commit_48 (by decide) (fun c21 => ?_) (fun c21 => ?_)
    · rw [if_pos c21] at hf
      refine z_aload_n 2 d_M_commit_54 rfl rfl ?_
      obtain ⟨g22, hf⟩ := gd_some hf
      obtain ⟨h23, ec24, hf⟩ := cv_some hf
      refine z_callVx rfl (c_M_purge ec24) d_M_commit_55 cw_M_purge lk_M_166 im_M_purge se_M_purge (kc_K (isK_eq g22) kc_8) ⟨by decide, by decide⟩ (Nat.le_of_ble_eq_true rfl) rfl ?_
      refine z_aload_n 2 d_M_commit_58 rfl rfl ?_
      obtain ⟨g26, hf⟩ := gd_some hf
      refine z_getI d_M_commit_59 (fl_K (isK_eq g26) fl_M_83_8) (fi_K (isK_eq g26) rfl) rfl ?_
      refine z_istore (ls2 := [(4, vi (hpI h23 a0 26)), (3, vi v19), (2, vi v14), (0, vr (some a0)), (1, vi x7.1)]) d_M_commit_62 (by decide) rfl ?_
      refine z_iconst (v := (0 : Int32)) d_M_commit_64 (by decide) ?_
      refine z_istore (ls2 := [(5, vi (0 : Int32)), (4, vi (hpI h23 a0 26)), (3, vi v19), (2, vi v14), (0, vr (some a0)), (1, vi x7.1)]) d_M_commit_65 (by decide) rfl ?_
      refine z_aload_n 4 d_M_commit_67 rfl rfl ?_
      refine z_aload_n 4 d_M_commit_68 rfl rfl ?_
      refine z_getR d_M_commit_69 (fl_K (isK_eq g26) fl_M_93_8) (fi_K (isK_eq g26) rfl) rfl ?_
      refine z_aload_n 4 d_M_commit_72 rfl rfl ?_
      refine z_aload_n 4 d_M_commit_73 rfl rfl ?_
      refine z_getI d_M_commit_74 (fl_K (isK_eq g26) fl_M_119_8) (fi_K (isK_eq g26) rfl) rfl ?_
      obtain ⟨v29, h27, ec28, hf⟩ := cl_some hf
      refine z_callVx rfl (c_M_find ec28) d_M_commit_77 cw_M_find lk_M_133 im_M_find se_M_find (kc_K (isK_eq g26) kc_8) ⟨by decide, by decide⟩ (Nat.le_of_ble_eq_true rfl) rfl ?_
      obtain ⟨a31, e32, hf⟩ := dr_some hf
      obtain ⟨g33, hf⟩ := gd_some hf
      obtain ⟨g34, hf⟩ := gd_some hf
      refine z_iald d_M_commit_80 e32 (by rw [isK_eq g33]; decide) (by rw [isK_eq g33]; rfl) (inb_vp g34) ?_
      obtain ⟨g35, hf⟩ := gd_some hf
      obtain ⟨v38, h36, ec37, hf⟩ := cl_some hf
      refine z_callVx rfl (c_M_page ec37) d_M_commit_81 cw_M_page lk_M_108 im_M_page se_M_page (kc_K (isK_eq g35) kc_8) ⟨by decide, by decide⟩ (Nat.le_of_ble_eq_true rfl) rfl ?_
      refine z_istore (ls2 := [(6, vi v38), (5, vi (0 : Int32)), (4, vi (hpI h23 a0 26)), (3, vi v19), (2, vi v14), (0, vr (some a0)), (1, vi x7.1)]) d_M_commit_84 (by decide) rfl ?_
      refine z_aload_n 5 d_M_commit_86 rfl rfl ?_
      refine z_dup d_M_commit_87 rfl ?_
      obtain ⟨g40, hf⟩ := gd_some hf
      refine z_getI d_M_commit_88 (fl_K (isK_eq g40) fl_M_83_8) (fi_K (isK_eq g40) rfl) rfl ?_
      refine z_iconst (v := (1 : Int32)) d_M_commit_91 (by decide) ?_
      refine z_iadd d_M_commit_92 ?_
      obtain ⟨h41, eh42, hf⟩ := nm_some hf
      refine z_putI d_M_commit_93 (fl_K (isK_eq g40) fl_M_83_8) (pu_K (isK_eq g40) (fun q hq => by cases (Option.some.inj hq); exact Or.inl rfl)) (fi_K (isK_eq g40) rfl) rfl ?_
      refine z_hp eh42 ?_
      refine z_iconst (v := (0 : Int32)) d_M_commit_96 (by decide) ?_
      refine z_istore (ls2 := [(7, vi (0 : Int32)), (6, vi v38), (5, vi (0 : Int32)), (4, vi (hpI h23 a0 26)), (3, vi v19), (2, vi v14), (0, vr (some a0)), (1, vi x7.1)]) d_M_commit_97 (by decide) rfl ?_
      obtain ⟨x76, el77, hf⟩ := bd_some hf
      refine z_ls [6, 5, 4, 3, 2, 1, 0] rfl ?_
      refine zl_M_commit_99 el77 ?_
      refine z_aload_n 0 d_M_commit_177 rfl rfl ?_
      refine z_iload 3 d_M_commit_178 rfl ?_
      refine z_iload 4 d_M_commit_180 rfl ?_
      refine z_iconst (v := (nI 2)) d_M_commit_182 (by decide) ?_
      refine z_iconst (v := (0 : Int32)) d_M_commit_183 (by decide) ?_
      refine z_aload_n 0 d_M_commit_184 rfl rfl ?_
      obtain ⟨g79, hf⟩ := gd_some hf
      refine z_getI d_M_commit_185 (fl_K (isK_eq g79) fl_M_119_8) (fi_K (isK_eq g79) rfl) rfl ?_
      refine z_iconst (v := (1 : Int32)) d_M_commit_188 (by decide) ?_
      refine z_iadd d_M_commit_189 ?_
      obtain ⟨v82, h80, ec81, hf⟩ := cl_some hf
      refine z_callVx rfl (c_M_add ec81) d_M_commit_190 cw_M_add lk_M_173 im_M_add se_M_add (kc_K (isK_eq g79) kc_8) ⟨by decide, by decide⟩ (Nat.le_of_ble_eq_true rfl) rfl ?_
      refine z_istore (ls2 := [(7, vi v82), (0, vr (some a0)), (2, vi v14), (3, vi v19), (4, vi (hpI h23 a0 26)), (5, vi x76.1)]) d_M_commit_193 (by decide) rfl ?_
      refine z_iconst (v := (0 : Int32)) d_M_commit_195 (by decide) ?_
      refine z_istore (ls2 := [(8, vi (0 : Int32)), (7, vi v82), (0, vr (some a0)), (2, vi v14), (3, vi v19), (4, vi (hpI h23 a0 26)), (5, vi x76.1)]) d_M_commit_196 (by decide) rfl ?_
      obtain ⟨x97, el98, hf⟩ := bd_some hf
      refine z_ls [2, 3, 4, 5, 6, 1, 0] rfl ?_
      refine zl_M_commit_198 el98 ?_
      refine z_aload_n 0 d_M_commit_229 rfl rfl ?_
      refine z_dup d_M_commit_230 rfl ?_
      obtain ⟨g100, hf⟩ := gd_some hf
      refine z_getI d_M_commit_231 (fl_K (isK_eq g100) fl_M_119_8) (fi_K (isK_eq g100) rfl) rfl ?_
      refine z_iconst (v := (1 : Int32)) d_M_commit_234 (by decide) ?_
      refine z_iadd d_M_commit_235 ?_
      obtain ⟨h101, eh102, hf⟩ := nm_some hf
      refine z_putI d_M_commit_236 (fl_K (isK_eq g100) fl_M_119_8) (pu_K (isK_eq g100) (fun q hq => by cases (Option.some.inj hq); exact Or.inl rfl)) (fi_K (isK_eq g100) rfl) rfl ?_
      refine z_hp eh102 ?_
      refine z_aload_n 0 d_M_commit_239 rfl rfl ?_
      refine z_getR d_M_commit_240 (fl_K (isK_eq (isK_wI eh102 g100)) fl_M_87_8) (fi_K (isK_eq (isK_wI eh102 g100)) rfl) rfl ?_
      refine z_aload_n 0 d_M_commit_243 rfl rfl ?_
      refine z_getI d_M_commit_244 (fl_K (isK_eq (isK_wI eh102 g100)) fl_M_96_8) (fi_K (isK_eq (isK_wI eh102 g100)) rfl) rfl ?_
      refine z_aload_n 0 d_M_commit_247 rfl rfl ?_
      refine z_getI d_M_commit_248 (fl_K (isK_eq (isK_wI eh102 g100)) fl_M_119_8) (fi_K (isK_eq (isK_wI eh102 g100)) rfl) rfl ?_
      obtain ⟨a104, e105, hf⟩ := dr_some hf
      obtain ⟨g106, hf⟩ := gd_some hf
      obtain ⟨g107, hf⟩ := gd_some hf
      obtain ⟨h108, eh109, hf⟩ := nm_some hf
      refine z_iast d_M_commit_251 e105 (by rw [isK_eq g106]; decide) (by rw [isK_eq g106]; rfl) (inb_vp g107) ?_
      refine z_hp eh109 ?_
      refine z_aload_n 0 d_M_commit_252 rfl rfl ?_
      refine z_getR d_M_commit_253 (fl_K (isK_eq (isK_wI eh109 (isK_wI eh102 g100))) fl_M_90_8) (fi_K (isK_eq (isK_wI eh109 (isK_wI eh102 g100))) rfl) rfl ?_
      refine z_aload_n 0 d_M_commit_256 rfl rfl ?_
      refine z_getI d_M_commit_257 (fl_K (isK_eq (isK_wI eh109 (isK_wI eh102 g100))) fl_M_96_8) (fi_K (isK_eq (isK_wI eh109 (isK_wI eh102 g100))) rfl) rfl ?_
      refine z_iconst (v := (0 : Int32)) d_M_commit_260 (by decide) ?_
      obtain ⟨a111, e112, hf⟩ := dr_some hf
      obtain ⟨g113, hf⟩ := gd_some hf
      obtain ⟨g114, hf⟩ := gd_some hf
      obtain ⟨h115, eh116, hf⟩ := nm_some hf
      refine z_iast d_M_commit_261 e112 (by rw [isK_eq g113]; decide) (by rw [isK_eq g113]; rfl) (inb_vp g114) ?_
      refine z_hp eh116 ?_
      refine z_aload_n 0 d_M_commit_262 rfl rfl ?_
      refine z_getR d_M_commit_263 (fl_K (isK_eq (isK_wI eh116 (isK_wI eh109 (isK_wI eh102 g100)))) fl_M_93_8) (fi_K (isK_eq (isK_wI eh116 (isK_wI eh109 (isK_wI eh102 g100)))) rfl) rfl ?_
      refine z_aload_n 0 d_M_commit_266 rfl rfl ?_
      refine z_getI d_M_commit_267 (fl_K (isK_eq (isK_wI eh116 (isK_wI eh109 (isK_wI eh102 g100)))) fl_M_96_8) (fi_K (isK_eq (isK_wI eh116 (isK_wI eh109 (isK_wI eh102 g100)))) rfl) rfl ?_
      refine z_bipush (v := (nI 32)) d_M_commit_270 (by decide) ?_
      refine z_iload 3 d_M_commit_272 rfl ?_
      refine z_imul d_M_commit_274 ?_
      refine z_iload 4 d_M_commit_275 rfl ?_
      refine z_iadd d_M_commit_277 ?_
      obtain ⟨a118, e119, hf⟩ := dr_some hf
      obtain ⟨g120, hf⟩ := gd_some hf
      obtain ⟨g121, hf⟩ := gd_some hf
      obtain ⟨h122, eh123, hf⟩ := nm_some hf
      refine z_iast d_M_commit_278 e119 (by rw [isK_eq g120]; decide) (by rw [isK_eq g120]; rfl) (inb_vp g121) ?_
      refine z_hp eh123 ?_
      refine z_aload_n 0 d_M_commit_279 rfl rfl ?_
      refine z_dup d_M_commit_280 rfl ?_
      refine z_getI d_M_commit_281 (fl_K (isK_eq (isK_wI eh123 (isK_wI eh116 (isK_wI eh109 (isK_wI eh102 g100))))) fl_M_96_8) (fi_K (isK_eq (isK_wI eh123 (isK_wI eh116 (isK_wI eh109 (isK_wI eh102 g100))))) rfl) rfl ?_
      refine z_iconst (v := (1 : Int32)) d_M_commit_284 (by decide) ?_
      refine z_iadd d_M_commit_285 ?_
      obtain ⟨h125, eh126, hf⟩ := nm_some hf
      refine z_putI d_M_commit_286 (fl_K (isK_eq (isK_wI eh123 (isK_wI eh116 (isK_wI eh109 (isK_wI eh102 g100))))) fl_M_96_8) (pu_K (isK_eq (isK_wI eh123 (isK_wI eh116 (isK_wI eh109 (isK_wI eh102 g100))))) (fun q hq => by cases (Option.some.inj hq); exact Or.inl rfl)) (fi_K (isK_eq (isK_wI eh123 (isK_wI eh116 (isK_wI eh109 (isK_wI eh102 g100))))) rfl) rfl ?_
      refine z_hp eh126 ?_
      refine z_aload_n 0 d_M_commit_289 rfl rfl ?_
      refine z_iload 3 d_M_commit_290 rfl ?_
      refine z_iload_n 2 d_M_commit_292 rfl rfl ?_
      refine z_iload_n 1 d_M_commit_293 rfl rfl ?_
      refine z_aload_n 0 d_M_commit_294 rfl rfl ?_
      refine z_getI d_M_commit_295 (fl_K (isK_eq (isK_wI eh126 (isK_wI eh123 (isK_wI eh116 (isK_wI eh109 (isK_wI eh102 g100)))))) fl_M_119_8) (fi_K (isK_eq (isK_wI eh126 (isK_wI eh123 (isK_wI eh116 (isK_wI eh109 (isK_wI eh102 g100)))))) rfl) rfl ?_
      obtain ⟨h128, ec129, hf⟩ := cv_some hf
      refine z_callVx rfl (c_M_write ec129) d_M_commit_298 cw_M_write lk_M_177 im_M_write se_M_write (kc_K (isK_eq (isK_wI eh126 (isK_wI eh123 (isK_wI eh116 (isK_wI eh109 (isK_wI eh102 g100)))))) kc_8) ⟨by decide, by decide⟩ (Nat.le_of_ble_eq_true rfl) rfl ?_
      refine z_aload_n 0 d_M_commit_301 rfl rfl ?_
      obtain ⟨g131, hf⟩ := gd_some hf
      obtain ⟨h132, ec133, hf⟩ := cv_some hf
      refine z_callVx rfl (c_M_settle ec133) d_M_commit_302 cw_M_settle lk_M_140 im_M_settle se_M_settle (kc_K (isK_eq g131) kc_8) ⟨by decide, by decide⟩ (Nat.le_of_ble_eq_true rfl) rfl ?_
      refine z_aload_n 0 d_M_commit_305 rfl rfl ?_
      obtain ⟨g135, hf⟩ := gd_some hf
      obtain ⟨h136, ec137, hf⟩ := cv_some hf
      refine z_callVx rfl (c_M_drop ec137) d_M_commit_306 cw_M_drop lk_M_181 im_M_drop se_M_drop (kc_K (isK_eq g135) kc_8) ⟨by decide, by decide⟩ (Nat.le_of_ble_eq_true rfl) rfl ?_
      refine z_aload_n 0 d_M_commit_309 rfl rfl ?_
      obtain ⟨g139, hf⟩ := gd_some hf
      refine z_getI d_M_commit_310 (fl_K (isK_eq g139) fl_M_119_8) (fi_K (isK_eq g139) rfl) rfl ?_
      obtain ⟨rfl, rfl⟩ := Prod.mk.inj (Option.some.inj hf)
      exact z_ret d_M_commit_313 rfl
    · rw [if_neg c21] at hf
      refine z_bipush (v := (-2 : Int32)) d_M_commit_51 (by decide) ?_
      obtain ⟨rfl, rfl⟩ := Prod.mk.inj (Option.some.inj hf)
      exact z_ret d_M_commit_53 rfl
  · rw [if_pos c10] at hf
    refine z_aload_n 0 d_M_commit_27 rfl rfl ?_
    obtain ⟨g140, hf⟩ := gd_some hf
    refine z_getI d_M_commit_28 (fl_K (isK_eq g140) fl_M_119_8) (fi_K (isK_eq g140) rfl) rfl ?_
    obtain ⟨rfl, rfl⟩ := Prod.mk.inj (Option.some.inj hf)
    exact z_ret d_M_commit_31 rfl
set_option maxRecDepth 100000 in
set_option maxHeartbeats 4000000 in
theorem fr_M_commit {C : Ct} {mi : Nat} {a0 : Nat} {h h' : Hp} {v : Int32} (hf : f_M_commit a0 h = some (v, h')) : Keep W_M_commit h h' := by
  unfold f_M_commit at hf
  obtain ⟨x7, el8, hf⟩ := bd_some hf
  have K9 := (Keep.refl W_M_commit _).trans (kl_M_commit_4 (C := C) (mi := mi) el8)
  rcases (Classical.em (x7.1 = 0)).symm with c10 | c10
  · rw [if_neg c10] at hf
    obtain ⟨g11, hf⟩ := gd_some hf
    obtain ⟨v14, h12, ec13, hf⟩ := cl_some hf
    have K15 := K9.trans ((fr_M_pagesToWrite (C := C) (mi := mi) ec13).mono (by decide) (by decide))
    obtain ⟨g16, hf⟩ := gd_some hf
    obtain ⟨v19, h17, ec18, hf⟩ := cl_some hf
    have K20 := K15.trans ((fr_M_room (C := C) (mi := mi) ec18).mono (by decide) (by decide))
    rcases Classical.em (0 ≤ v19) with c21 | c21
    · rw [if_pos c21] at hf
      obtain ⟨g22, hf⟩ := gd_some hf
      obtain ⟨h23, ec24, hf⟩ := cv_some hf
      have K25 := K20.trans ((fr_M_purge (C := C) (mi := mi) ec24).mono (by decide) (by decide))
      obtain ⟨g26, hf⟩ := gd_some hf
      obtain ⟨v29, h27, ec28, hf⟩ := cl_some hf
      have K30 := K25.trans ((fr_M_find (C := C) (mi := mi) ec28).mono (by decide) (by decide))
      obtain ⟨a31, e32, hf⟩ := dr_some hf
      obtain ⟨g33, hf⟩ := gd_some hf
      obtain ⟨g34, hf⟩ := gd_some hf
      obtain ⟨g35, hf⟩ := gd_some hf
      obtain ⟨v38, h36, ec37, hf⟩ := cl_some hf
      have K39 := K30.trans ((fr_M_page (C := C) (mi := mi) ec37).mono (by decide) (by decide))
      obtain ⟨g40, hf⟩ := gd_some hf
      obtain ⟨h41, eh42, hf⟩ := nm_some hf
      have K43 := K39.trans (kw_I eh42 (isK_eq g40) (Or.inl (by decide)))
      obtain ⟨x76, el77, hf⟩ := bd_some hf
      have K78 := K43.trans (kl_M_commit_99 (C := C) (mi := mi) el77)
      obtain ⟨g79, hf⟩ := gd_some hf
      obtain ⟨v82, h80, ec81, hf⟩ := cl_some hf
      have K83 := K78.trans ((fr_M_add (C := C) (mi := mi) ec81).mono (by decide) (by decide))
      obtain ⟨x97, el98, hf⟩ := bd_some hf
      have K99 := K83.trans (kl_M_commit_198 (C := C) (mi := mi) el98)
      obtain ⟨g100, hf⟩ := gd_some hf
      obtain ⟨h101, eh102, hf⟩ := nm_some hf
      have K103 := K99.trans (kw_I eh102 (isK_eq g100) (Or.inl (by decide)))
      obtain ⟨a104, e105, hf⟩ := dr_some hf
      obtain ⟨g106, hf⟩ := gd_some hf
      obtain ⟨g107, hf⟩ := gd_some hf
      obtain ⟨h108, eh109, hf⟩ := nm_some hf
      have K110 := K103.trans (kw_I eh109 (isK_eq g106) (Or.inr (by decide)))
      obtain ⟨a111, e112, hf⟩ := dr_some hf
      obtain ⟨g113, hf⟩ := gd_some hf
      obtain ⟨g114, hf⟩ := gd_some hf
      obtain ⟨h115, eh116, hf⟩ := nm_some hf
      have K117 := K110.trans (kw_I eh116 (isK_eq g113) (Or.inr (by decide)))
      obtain ⟨a118, e119, hf⟩ := dr_some hf
      obtain ⟨g120, hf⟩ := gd_some hf
      obtain ⟨g121, hf⟩ := gd_some hf
      obtain ⟨h122, eh123, hf⟩ := nm_some hf
      have K124 := K117.trans (kw_I eh123 (isK_eq g120) (Or.inr (by decide)))
      obtain ⟨h125, eh126, hf⟩ := nm_some hf
      have K127 := K124.trans (kw_I eh126 (isK_eq (isK_wI eh123 (isK_wI eh116 (isK_wI eh109 (isK_wI eh102 g100))))) (Or.inl (by decide)))
      obtain ⟨h128, ec129, hf⟩ := cv_some hf
      have K130 := K127.trans ((fr_M_write (C := C) (mi := mi) ec129).mono (by decide) (by decide))
      obtain ⟨g131, hf⟩ := gd_some hf
      obtain ⟨h132, ec133, hf⟩ := cv_some hf
      have K134 := K130.trans ((fr_M_settle (C := C) (mi := mi) ec133).mono (by decide) (by decide))
      obtain ⟨g135, hf⟩ := gd_some hf
      obtain ⟨h136, ec137, hf⟩ := cv_some hf
      have K138 := K134.trans ((fr_M_drop (C := C) (mi := mi) ec137).mono (by decide) (by decide))
      obtain ⟨g139, hf⟩ := gd_some hf
      obtain ⟨rfl, rfl⟩ := Prod.mk.inj (Option.some.inj hf)
      exact K138
    · rw [if_neg c21] at hf
      obtain ⟨rfl, rfl⟩ := Prod.mk.inj (Option.some.inj hf)
      exact K20
  · rw [if_pos c10] at hf
    obtain ⟨g140, hf⟩ := gd_some hf
    obtain ⟨rfl, rfl⟩ := Prod.mk.inj (Option.some.inj hf)
    exact K9
theorem c_M_commit {l : Launch} {C : Ct} {mi : Nat} {a0 : Nat} {h h' : Hp} {v : Int32} (hf : f_M_commit a0 h = some (v, h')) : Mt l C mi m_M_commit 3 [vr (some a0)] h (some (vi v)) h' := mt_I (ty := .int) rfl rfl rfl (by decide) (Nat.le_of_ble_eq_true rfl) (zf_M_commit hf)
-- VersionMapsModel.rollback(I)I
def m_M_rollback : Mi := (⟨"VersionMapsModel", "rollback", "(I)I"⟩, prog_11_method_30_code, 8, (Option.some Jvm.ClassFile.FieldType.int), .ireturn)
theorem cw_M_rollback : cw_ok m_M_rollback 1 := ⟨by decide +kernel, by decide +kernel, by decide +kernel, by decide +kernel⟩
theorem im_M_rollback : Cond.instanceMethod m_M_rollback.1 ∈ lw_w := by decide +kernel
theorem se_M_rollback : Cond.selects "VersionMapsModel" m_M_rollback.1 m_M_rollback.1 ∈ lw_w := by decide +kernel
theorem d_M_rollback_0 : decode prog_11_method_30_code 0 = .ok (.aload_n 0, 1) := by decide +kernel
theorem d_M_rollback_1 : decode prog_11_method_30_code 1 = .ok (.iload_n 1, 1) := by decide +kernel
theorem d_M_rollback_2 : decode prog_11_method_30_code 2 = .ok (.invokevirtual 133, 3) := by decide +kernel
theorem d_M_rollback_5 : decode prog_11_method_30_code 5 = .ok (.istore_n 2, 1) := by decide +kernel
theorem d_M_rollback_6 : decode prog_11_method_30_code 6 = .ok (.iload_n 2, 1) := by decide +kernel
theorem d_M_rollback_7 : decode prog_11_method_30_code 7 = .ok (.ifCond .ge 6, 3) := by decide +kernel
theorem d_M_rollback_10 : decode prog_11_method_30_code 10 = .ok (.bipush (-3), 2) := by decide +kernel
theorem d_M_rollback_12 : decode prog_11_method_30_code 12 = .ok (.ireturn, 1) := by decide +kernel
theorem d_M_rollback_13 : decode prog_11_method_30_code 13 = .ok (.aload_n 0, 1) := by decide +kernel
theorem d_M_rollback_14 : decode prog_11_method_30_code 14 = .ok (.iconst 1, 1) := by decide +kernel
theorem d_M_rollback_15 : decode prog_11_method_30_code 15 = .ok (.invokevirtual 163, 3) := by decide +kernel
theorem d_M_rollback_18 : decode prog_11_method_30_code 18 = .ok (.istore_n 3, 1) := by decide +kernel
theorem d_M_rollback_19 : decode prog_11_method_30_code 19 = .ok (.iload_n 3, 1) := by decide +kernel
theorem d_M_rollback_20 : decode prog_11_method_30_code 20 = .ok (.ifCond .ge 6, 3) := by decide +kernel
theorem d_M_rollback_23 : decode prog_11_method_30_code 23 = .ok (.bipush (-2), 2) := by decide +kernel
theorem d_M_rollback_25 : decode prog_11_method_30_code 25 = .ok (.ireturn, 1) := by decide +kernel
theorem d_M_rollback_26 : decode prog_11_method_30_code 26 = .ok (.aload_n 0, 1) := by decide +kernel
theorem d_M_rollback_27 : decode prog_11_method_30_code 27 = .ok (.invokevirtual 166, 3) := by decide +kernel
theorem d_M_rollback_30 : decode prog_11_method_30_code 30 = .ok (.aload_n 0, 1) := by decide +kernel
theorem d_M_rollback_31 : decode prog_11_method_30_code 31 = .ok (.getfield 83, 3) := by decide +kernel
theorem d_M_rollback_34 : decode prog_11_method_30_code 34 = .ok (.istore 4, 2) := by decide +kernel
theorem d_M_rollback_36 : decode prog_11_method_30_code 36 = .ok (.aload_n 0, 1) := by decide +kernel
theorem d_M_rollback_37 : decode prog_11_method_30_code 37 = .ok (.aload_n 0, 1) := by decide +kernel
theorem d_M_rollback_38 : decode prog_11_method_30_code 38 = .ok (.getfield 93, 3) := by decide +kernel
theorem d_M_rollback_41 : decode prog_11_method_30_code 41 = .ok (.iload_n 2, 1) := by decide +kernel
theorem d_M_rollback_42 : decode prog_11_method_30_code 42 = .ok (.iaload, 1) := by decide +kernel
theorem d_M_rollback_43 : decode prog_11_method_30_code 43 = .ok (.invokevirtual 108, 3) := by decide +kernel
theorem d_M_rollback_46 : decode prog_11_method_30_code 46 = .ok (.istore 5, 2) := by decide +kernel
theorem d_M_rollback_48 : decode prog_11_method_30_code 48 = .ok (.aload_n 0, 1) := by decide +kernel
theorem d_M_rollback_49 : decode prog_11_method_30_code 49 = .ok (.iload 4, 2) := by decide +kernel
theorem d_M_rollback_51 : decode prog_11_method_30_code 51 = .ok (.iconst 0, 1) := by decide +kernel
theorem d_M_rollback_52 : decode prog_11_method_30_code 52 = .ok (.iconst 2, 1) := by decide +kernel
theorem d_M_rollback_53 : decode prog_11_method_30_code 53 = .ok (.iconst 0, 1) := by decide +kernel
theorem d_M_rollback_54 : decode prog_11_method_30_code 54 = .ok (.iload_n 1, 1) := by decide +kernel
theorem d_M_rollback_55 : decode prog_11_method_30_code 55 = .ok (.invokevirtual 173, 3) := by decide +kernel
theorem d_M_rollback_58 : decode prog_11_method_30_code 58 = .ok (.istore 6, 2) := by decide +kernel
theorem d_M_rollback_60 : decode prog_11_method_30_code 60 = .ok (.aload_n 0, 1) := by decide +kernel
theorem d_M_rollback_61 : decode prog_11_method_30_code 61 = .ok (.dup, 1) := by decide +kernel
theorem d_M_rollback_62 : decode prog_11_method_30_code 62 = .ok (.getfield 83, 3) := by decide +kernel
theorem d_M_rollback_65 : decode prog_11_method_30_code 65 = .ok (.iconst 1, 1) := by decide +kernel
theorem d_M_rollback_66 : decode prog_11_method_30_code 66 = .ok (.iadd, 1) := by decide +kernel
theorem d_M_rollback_67 : decode prog_11_method_30_code 67 = .ok (.putfield 83, 3) := by decide +kernel
theorem d_M_rollback_70 : decode prog_11_method_30_code 70 = .ok (.iconst 0, 1) := by decide +kernel
theorem d_M_rollback_71 : decode prog_11_method_30_code 71 = .ok (.istore 7, 2) := by decide +kernel
theorem d_M_rollback_73 : decode prog_11_method_30_code 73 = .ok (.iload 7, 2) := by decide +kernel
theorem d_M_rollback_75 : decode prog_11_method_30_code 75 = .ok (.iconst 4, 1) := by decide +kernel
theorem d_M_rollback_76 : decode prog_11_method_30_code 76 = .ok (.if_icmp .ge 42, 3) := by decide +kernel
theorem d_M_rollback_79 : decode prog_11_method_30_code 79 = .ok (.aload_n 0, 1) := by decide +kernel
theorem d_M_rollback_80 : decode prog_11_method_30_code 80 = .ok (.getfield 44, 3) := by decide +kernel
theorem d_M_rollback_83 : decode prog_11_method_30_code 83 = .ok (.iconst 4, 1) := by decide +kernel
theorem d_M_rollback_84 : decode prog_11_method_30_code 84 = .ok (.iload 6, 2) := by decide +kernel
theorem d_M_rollback_86 : decode prog_11_method_30_code 86 = .ok (.imul, 1) := by decide +kernel
theorem d_M_rollback_87 : decode prog_11_method_30_code 87 = .ok (.iload 7, 2) := by decide +kernel
theorem d_M_rollback_89 : decode prog_11_method_30_code 89 = .ok (.iadd, 1) := by decide +kernel
theorem d_M_rollback_90 : decode prog_11_method_30_code 90 = .ok (.iload 5, 2) := by decide +kernel
theorem d_M_rollback_92 : decode prog_11_method_30_code 92 = .ok (.ifCond .ge 7, 3) := by decide +kernel
theorem d_M_rollback_95 : decode prog_11_method_30_code 95 = .ok (.iconst 0, 1) := by decide +kernel
theorem d_M_rollback_96 : decode prog_11_method_30_code 96 = .ok (.goto 15, 3) := by decide +kernel
theorem d_M_rollback_99 : decode prog_11_method_30_code 99 = .ok (.aload_n 0, 1) := by decide +kernel
theorem d_M_rollback_100 : decode prog_11_method_30_code 100 = .ok (.getfield 44, 3) := by decide +kernel
theorem d_M_rollback_103 : decode prog_11_method_30_code 103 = .ok (.iconst 4, 1) := by decide +kernel
theorem d_M_rollback_104 : decode prog_11_method_30_code 104 = .ok (.iload 5, 2) := by decide +kernel
theorem d_M_rollback_106 : decode prog_11_method_30_code 106 = .ok (.imul, 1) := by decide +kernel
theorem d_M_rollback_107 : decode prog_11_method_30_code 107 = .ok (.iload 7, 2) := by decide +kernel
theorem d_M_rollback_109 : decode prog_11_method_30_code 109 = .ok (.iadd, 1) := by decide +kernel
theorem d_M_rollback_110 : decode prog_11_method_30_code 110 = .ok (.iaload, 1) := by decide +kernel
theorem d_M_rollback_111 : decode prog_11_method_30_code 111 = .ok (.iastore, 1) := by decide +kernel
theorem d_M_rollback_112 : decode prog_11_method_30_code 112 = .ok (.iinc 7 1, 3) := by decide +kernel
theorem d_M_rollback_115 : decode prog_11_method_30_code 115 = .ok (.goto (-42), 3) := by decide +kernel
theorem d_M_rollback_118 : decode prog_11_method_30_code 118 = .ok (.aload_n 0, 1) := by decide +kernel
theorem d_M_rollback_119 : decode prog_11_method_30_code 119 = .ok (.iload_n 2, 1) := by decide +kernel
theorem d_M_rollback_120 : decode prog_11_method_30_code 120 = .ok (.iconst 1, 1) := by decide +kernel
theorem d_M_rollback_121 : decode prog_11_method_30_code 121 = .ok (.iadd, 1) := by decide +kernel
theorem d_M_rollback_122 : decode prog_11_method_30_code 122 = .ok (.putfield 96, 3) := by decide +kernel
theorem d_M_rollback_125 : decode prog_11_method_30_code 125 = .ok (.aload_n 0, 1) := by decide +kernel
theorem d_M_rollback_126 : decode prog_11_method_30_code 126 = .ok (.getfield 93, 3) := by decide +kernel
theorem d_M_rollback_129 : decode prog_11_method_30_code 129 = .ok (.iload_n 2, 1) := by decide +kernel
theorem d_M_rollback_130 : decode prog_11_method_30_code 130 = .ok (.bipush 32, 2) := by decide +kernel
theorem d_M_rollback_132 : decode prog_11_method_30_code 132 = .ok (.iload 4, 2) := by decide +kernel
theorem d_M_rollback_134 : decode prog_11_method_30_code 134 = .ok (.imul, 1) := by decide +kernel
theorem d_M_rollback_135 : decode prog_11_method_30_code 135 = .ok (.iastore, 1) := by decide +kernel
theorem d_M_rollback_136 : decode prog_11_method_30_code 136 = .ok (.aload_n 0, 1) := by decide +kernel
theorem d_M_rollback_137 : decode prog_11_method_30_code 137 = .ok (.iload_n 1, 1) := by decide +kernel
theorem d_M_rollback_138 : decode prog_11_method_30_code 138 = .ok (.putfield 119, 3) := by decide +kernel
theorem d_M_rollback_141 : decode prog_11_method_30_code 141 = .ok (.aload_n 0, 1) := by decide +kernel
theorem d_M_rollback_142 : decode prog_11_method_30_code 142 = .ok (.iload 4, 2) := by decide +kernel
theorem d_M_rollback_144 : decode prog_11_method_30_code 144 = .ok (.iload_n 3, 1) := by decide +kernel
theorem d_M_rollback_145 : decode prog_11_method_30_code 145 = .ok (.iconst 1, 1) := by decide +kernel
theorem d_M_rollback_146 : decode prog_11_method_30_code 146 = .ok (.iload_n 1, 1) := by decide +kernel
theorem d_M_rollback_147 : decode prog_11_method_30_code 147 = .ok (.invokevirtual 177, 3) := by decide +kernel
theorem d_M_rollback_150 : decode prog_11_method_30_code 150 = .ok (.aload_n 0, 1) := by decide +kernel
theorem d_M_rollback_151 : decode prog_11_method_30_code 151 = .ok (.aload_n 0, 1) := by decide +kernel
theorem d_M_rollback_152 : decode prog_11_method_30_code 152 = .ok (.getfield 93, 3) := by decide +kernel
theorem d_M_rollback_155 : decode prog_11_method_30_code 155 = .ok (.iload_n 2, 1) := by decide +kernel
theorem d_M_rollback_156 : decode prog_11_method_30_code 156 = .ok (.iaload, 1) := by decide +kernel
theorem d_M_rollback_157 : decode prog_11_method_30_code 157 = .ok (.invokevirtual 184, 3) := by decide +kernel
theorem d_M_rollback_160 : decode prog_11_method_30_code 160 = .ok (.aload_n 0, 1) := by decide +kernel
theorem d_M_rollback_161 : decode prog_11_method_30_code 161 = .ok (.invokevirtual 181, 3) := by decide +kernel
theorem d_M_rollback_164 : decode prog_11_method_30_code 164 = .ok (.iload 4, 2) := by decide +kernel
theorem d_M_rollback_166 : decode prog_11_method_30_code 166 = .ok (.ireturn, 1) := by decide +kernel
def W_M_rollback : Wl := ([(8, 19), (8, 25), (8, 26), (8, 30), (8, 31)], [75, 76, 77, 78, 79, 80, 81, 82, 83, 84, 86, 88, 89, 92, 93, 94, 95, 96, 97, 98, 99, 100, 101])
def b_M_rollback_73 (y0 : Nat) (y1 : Int32) (y2 : Int32) (y3 : Int32) (y4 : Int32) (y5 : Int32) (y6 : Int32) (y7 : Int32) (h : Hp) : Option ((Int32 × Hp) ⊕ (Hp)) :=
  if (nI 4) ≤ y7 then (some (.inr h)) else (gd (isK h y0 8) (if 0 ≤ y5 then (dr (hpR h y0 11) fun a38 => gd (isK h a38 86) (gd (inb (((nI 4) * y5) + y7) (hpL h a38)) (gd (inb (((nI 4) * y6) + y7) (hpL h a38)) (nm (wI h a38 (((nI 4) * y6) + y7).toNatClampNeg (hpI h a38 (((nI 4) * y5) + y7).toNatClampNeg)) fun h43 => some (.inl ((y7 + (1 : Int32)), h43)))))) else (dr (hpR h y0 11) fun a46 => gd (isK h a46 86) (gd (inb (((nI 4) * y6) + y7) (hpL h a46)) (nm (wI h a46 (((nI 4) * y6) + y7).toNatClampNeg (0 : Int32)) fun h50 => some (.inl ((y7 + (1 : Int32)), h50)))))))
set_option maxRecDepth 100000 in
set_option maxHeartbeats 4000000 in
theorem zb_M_rollback_73 {l : Launch} {C : Ct} {mi : Nat} {y0 : Nat} {y1 : Int32} {y2 : Int32} {y3 : Int32} {y4 : Int32} {y5 : Int32} {y6 : Int32} {y7 : Int32} {h h' : Hp} {v : Int32} {q : ((Int32 × Hp) ⊕ (Hp))} (hf : b_M_rollback_73 y0 y1 y2 y3 y4 y5 y6 y7 h = some q) (kc : ∀ s, q = .inl s → Z l C mi m_M_rollback 3 73 [(0, vr (some y0)), (1, vi y1), (2, vi y2), (3, vi y3), (4, vi y4), (5, vi y5), (6, vi y6), (7, vi s.1)] [] s.2 (some (vi v)) h') (ke : ∀ x, q = .inr x → Z l C mi m_M_rollback 3 118 [(0, vr (some y0)), (1, vi y1), (2, vi y2), (3, vi y3), (4, vi y4)] [] x (some (vi v)) h') : Z l C mi m_M_rollback 3 73 [(0, vr (some y0)), (1, vi y1), (2, vi y2), (3, vi y3), (4, vi y4), (5, vi y5), (6, vi y6), (7, vi y7)] [] h (some (vi v)) h' := by
  unfold b_M_rollback_73 at hf
  refine z_iload 7 d_M_rollback_73 rfl ?_
  refine z_iconst (v := (nI 4)) d_M_rollback_75 (by decide) ?_
  refine z_icmp_ge (tgt := 118) d_M_rollback_76 (by decide) (fun c35 => ?_) (fun c35 => ?_)
  · rw [if_pos c35] at hf
    refine z_ls [0, 1, 2, 3, 4] rfl ?_
    exact ke h (Option.some.inj hf).symm
  · rw [if_neg c35] at hf
    refine z_aload_n 0 d_M_rollback_79 rfl rfl ?_
    obtain ⟨g36, hf⟩ := gd_some hf
    refine z_getR d_M_rollback_80 (fl_K (isK_eq g36) fl_M_44_8) (fi_K (isK_eq g36) rfl) rfl ?_
    refine z_iconst (v := (nI 4)) d_M_rollback_83 (by decide) ?_
    refine z_iload 6 d_M_rollback_84 rfl ?_
    refine z_imul d_M_rollback_86 ?_
    refine z_iload 7 d_M_rollback_87 rfl ?_
    refine z_iadd d_M_rollback_89 ?_
    refine z_iload 5 d_M_rollback_90 rfl ?_
    refine z_if_ge (tgt := 99) d_M_rollback_92 (by decide) (fun c37 => ?_) (fun c37 => ?_)
    · rw [if_pos c37] at hf
      refine z_aload_n 0 d_M_rollback_99 rfl rfl ?_
      refine z_getR d_M_rollback_100 (fl_K (isK_eq g36) fl_M_44_8) (fi_K (isK_eq g36) rfl) rfl ?_
      refine z_iconst (v := (nI 4)) d_M_rollback_103 (by decide) ?_
      refine z_iload 5 d_M_rollback_104 rfl ?_
      refine z_imul d_M_rollback_106 ?_
      refine z_iload 7 d_M_rollback_107 rfl ?_
      refine z_iadd d_M_rollback_109 ?_
      obtain ⟨a38, e39, hf⟩ := dr_some hf
      obtain ⟨g40, hf⟩ := gd_some hf
      obtain ⟨g41, hf⟩ := gd_some hf
      refine z_iald d_M_rollback_110 e39 (by rw [isK_eq g40]; decide) (by rw [isK_eq g40]; rfl) (inb_vp g41) ?_
      obtain ⟨g42, hf⟩ := gd_some hf
      obtain ⟨h43, eh44, hf⟩ := nm_some hf
      refine z_iast d_M_rollback_111 e39 (by rw [isK_eq g40]; decide) (by rw [isK_eq g40]; rfl) (inb_vp g42) ?_
      refine z_hp eh44 ?_
      refine z_iinc (ls2 := [(7, vi (y7 + (1 : Int32))), (0, vr (some y0)), (1, vi y1), (2, vi y2), (3, vi y3), (4, vi y4), (5, vi y5), (6, vi y6)]) 7 d_M_rollback_112 rfl rfl (by decide) rfl ?_
      refine z_goto (tgt := 73) d_M_rollback_115 (by decide) ?_
      refine z_ls [1, 2, 3, 4, 5, 6, 7, 0] rfl ?_
      exact kc ((y7 + (1 : Int32)), h43) (Option.some.inj hf).symm
    · rw [if_neg c37] at hf
      refine z_iconst (v := (0 : Int32)) d_M_rollback_95 (by decide) ?_
      refine z_goto (tgt := 111) d_M_rollback_96 (by decide) ?_
      obtain ⟨a46, e47, hf⟩ := dr_some hf
      obtain ⟨g48, hf⟩ := gd_some hf
      obtain ⟨g49, hf⟩ := gd_some hf
      obtain ⟨h50, eh51, hf⟩ := nm_some hf
      refine z_iast d_M_rollback_111 e47 (by rw [isK_eq g48]; decide) (by rw [isK_eq g48]; rfl) (inb_vp g49) ?_
      refine z_hp eh51 ?_
      refine z_iinc (ls2 := [(7, vi (y7 + (1 : Int32))), (0, vr (some y0)), (1, vi y1), (2, vi y2), (3, vi y3), (4, vi y4), (5, vi y5), (6, vi y6)]) 7 d_M_rollback_112 rfl rfl (by decide) rfl ?_
      refine z_goto (tgt := 73) d_M_rollback_115 (by decide) ?_
      refine z_ls [1, 2, 3, 4, 5, 6, 7, 0] rfl ?_
      exact kc ((y7 + (1 : Int32)), h50) (Option.some.inj hf).symm
set_option maxRecDepth 100000 in
set_option maxHeartbeats 4000000 in
theorem kb_M_rollback_73 {C : Ct} {mi : Nat} {y0 : Nat} {y1 : Int32} {y2 : Int32} {y3 : Int32} {y4 : Int32} {y5 : Int32} {y6 : Int32} {y7 : Int32} {h : Hp} {q : ((Int32 × Hp) ⊕ (Hp))} (hf : b_M_rollback_73 y0 y1 y2 y3 y4 y5 y6 y7 h = some q) : Keep W_M_rollback h (Sum.elim (fun s : Int32 × Hp => s.2) (fun x : Hp => x) q) := by
  unfold b_M_rollback_73 at hf
  rcases Classical.em ((nI 4) ≤ y7) with c35 | c35
  · rw [if_pos c35] at hf
    cases (Option.some.inj hf)
    exact (Keep.refl W_M_rollback _)
  · rw [if_neg c35] at hf
    obtain ⟨g36, hf⟩ := gd_some hf
    rcases Classical.em (0 ≤ y5) with c37 | c37
    · rw [if_pos c37] at hf
      obtain ⟨a38, e39, hf⟩ := dr_some hf
      obtain ⟨g40, hf⟩ := gd_some hf
      obtain ⟨g41, hf⟩ := gd_some hf
      obtain ⟨g42, hf⟩ := gd_some hf
      obtain ⟨h43, eh44, hf⟩ := nm_some hf
      have K45 := (Keep.refl W_M_rollback _).trans (kw_I eh44 (isK_eq g40) (Or.inr (by decide)))
      cases (Option.some.inj hf)
      exact K45
    · rw [if_neg c37] at hf
      obtain ⟨a46, e47, hf⟩ := dr_some hf
      obtain ⟨g48, hf⟩ := gd_some hf
      obtain ⟨g49, hf⟩ := gd_some hf
      obtain ⟨h50, eh51, hf⟩ := nm_some hf
      have K52 := (Keep.refl W_M_rollback _).trans (kw_I eh51 (isK_eq g48) (Or.inr (by decide)))
      cases (Option.some.inj hf)
      exact K52
def l_M_rollback_73 (y0 : Nat) (y1 : Int32) (y2 : Int32) (y3 : Int32) (y4 : Int32) (y5 : Int32) (y6 : Int32) (s : Int32 × Hp) : Option (Hp) := lp (fun s => b_M_rollback_73 y0 y1 y2 y3 y4 y5 y6 s.1 s.2) FU s
theorem zzl_M_rollback_73 {l : Launch} {C : Ct} {mi : Nat} {y0 : Nat} {y1 : Int32} {y2 : Int32} {y3 : Int32} {y4 : Int32} {y5 : Int32} {y6 : Int32} {h' : Hp} {v : Int32} : ∀ (n : Nat) (s : Int32 × Hp) (x : (Hp)), lp (fun s : Int32 × Hp => b_M_rollback_73 y0 y1 y2 y3 y4 y5 y6 s.1 s.2) n s = some x → Z l C mi m_M_rollback 3 118 [(0, vr (some y0)), (1, vi y1), (2, vi y2), (3, vi y3), (4, vi y4)] [] x (some (vi v)) h' → Z l C mi m_M_rollback 3 73 [(0, vr (some y0)), (1, vi y1), (2, vi y2), (3, vi y3), (4, vi y4), (5, vi y5), (6, vi y6), (7, vi s.1)] [] s.2 (some (vi v)) h' := by
  intro n
  induction n with
  | zero => intro s x hl; cases hl
  | succ n ih =>
    intro s x hl ke
    rcases lp_some hl with ⟨s2, hb, hl2⟩ | hb
    · exact zb_M_rollback_73 hb (fun s3 e3 => by cases e3; refine z_ls [0, 1, 2, 3, 4, 5, 6, 7] rfl ?_; exact ih s2 x hl2 ke) (fun x e3 => by cases e3)
    · exact zb_M_rollback_73 hb (fun s3 e3 => by cases e3) (fun x e3 => by cases e3; exact ke)
theorem zl_M_rollback_73 {l : Launch} {C : Ct} {mi : Nat} {y0 : Nat} {y1 : Int32} {y2 : Int32} {y3 : Int32} {y4 : Int32} {y5 : Int32} {y6 : Int32} {h' : Hp} {v : Int32} {s : Int32 × Hp} {x : (Hp)} (hl : l_M_rollback_73 y0 y1 y2 y3 y4 y5 y6 s = some x) (ke : Z l C mi m_M_rollback 3 118 [(0, vr (some y0)), (1, vi y1), (2, vi y2), (3, vi y3), (4, vi y4)] [] x (some (vi v)) h') : Z l C mi m_M_rollback 3 73 [(0, vr (some y0)), (1, vi y1), (2, vi y2), (3, vi y3), (4, vi y4), (5, vi y5), (6, vi y6), (7, vi s.1)] [] s.2 (some (vi v)) h' := zzl_M_rollback_73 FU s x hl ke
theorem kl_M_rollback_73 {C : Ct} {mi : Nat} {y0 : Nat} {y1 : Int32} {y2 : Int32} {y3 : Int32} {y4 : Int32} {y5 : Int32} {y6 : Int32} {s : Int32 × Hp} {q : (Hp)} (hl : l_M_rollback_73 y0 y1 y2 y3 y4 y5 y6 s = some q) : Keep W_M_rollback s.2 ((fun x : Hp => x) q) := lpk (sh := (fun s : Int32 × Hp => s.2)) (rh := (fun x : Hp => x)) (fun s q hb => kb_M_rollback_73 (C := C) (mi := mi) hb) FU s q hl
def f_M_rollback (a0 : Nat) (p1 : Int32) (h : Hp) : Option (Int32 × Hp) :=
  gd (isK h a0 8) (cl (f_M_find a0 p1 h) fun v4 h2 => if 0 ≤ v4 then (gd (isK h2 a0 8) (cl (f_M_room a0 (1 : Int32) h2) fun v10 h8 => if 0 ≤ v10 then (gd (isK h8 a0 8) (cv (f_M_purge a0 h8) fun h14 => gd (isK h14 a0 8) (dr (hpR h14 a0 29) fun a18 => gd (isK h14 a18 101) (gd (inb v4 (hpL h14 a18)) (cl (f_M_page a0 (hpI h14 a18 v4.toNatClampNeg) h14) fun v24 h22 => gd (isK h22 a0 8) (cl (f_M_add a0 (hpI h14 a0 26) (0 : Int32) (nI 2) (0 : Int32) p1 h22) fun v29 h27 => gd (isK h27 a0 8) (nm (wI h27 a0 26 ((hpI h27 a0 26) + (1 : Int32))) fun h32 => bd (l_M_rollback_73 a0 p1 v4 v10 (hpI h14 a0 26) v24 v29 ((0 : Int32), h32)) fun x53 => gd (isK x53 a0 8) (nm (wI x53 a0 30 (v4 + (1 : Int32))) fun h57 => dr (hpR h57 a0 29) fun a60 => gd (isK h57 a60 101) (gd (inb v4 (hpL h57 a60)) (nm (wI h57 a60 v4.toNatClampNeg ((nI 32) * (hpI h14 a0 26))) fun h64 => nm (wI h64 a0 31 p1) fun h67 => cv (f_M_write a0 (hpI h14 a0 26) v10 (1 : Int32) p1 h67) fun h70 => gd (isK h70 a0 8) (dr (hpR h70 a0 29) fun a74 => gd (isK h70 a74 101) (gd (inb v4 (hpL h70 a74)) (cv (f_M_load a0 (hpI h70 a74 v4.toNatClampNeg) h70) fun h78 => gd (isK h78 a0 8) (cv (f_M_drop a0 h78) fun h82 => some ((hpI h14 a0 26), h82))))))))))))))) else (some ((-2 : Int32), h8)))) else (some ((-3 : Int32), h2)))
set_option maxRecDepth 100000 in
set_option maxHeartbeats 4000000 in
theorem zf_M_rollback {l : Launch} {C : Ct} {mi : Nat} {a0 : Nat} {p1 : Int32} {h h' : Hp} {v : Int32} (hf : f_M_rollback a0 p1 h = some (v, h')) : Z l C mi m_M_rollback 3 0 [(0, vr (some a0)), (1, vi p1)] [] h (some (vi v)) h' := by
  unfold f_M_rollback at hf
  refine z_aload_n 0 d_M_rollback_0 rfl rfl ?_
  refine z_iload_n 1 d_M_rollback_1 rfl rfl ?_
  obtain ⟨g1, hf⟩ := gd_some hf
  obtain ⟨v4, h2, ec3, hf⟩ := cl_some hf
  refine z_callVx rfl (c_M_find ec3) d_M_rollback_2 cw_M_find lk_M_133 im_M_find se_M_find (kc_K (isK_eq g1) kc_8) ⟨by decide, by decide⟩ (Nat.le_of_ble_eq_true rfl) rfl ?_
  refine z_istore_n (ls2 := [(2, vi v4), (0, vr (some a0)), (1, vi p1)]) d_M_rollback_5 rfl (by decide) rfl ?_
  refine z_iload_n 0 d_M_rollback_6 rfl rfl ?_
  refine z_if_ge (tgt := 13) d_M_rollback_7 (by decide) (fun c6 => ?_) (fun c6 => ?_)
  · rw [if_pos c6] at hf
    refine z_aload_n 1 d_M_rollback_13 rfl rfl ?_
    refine z_iconst (v := (1 : Int32)) d_M_rollback_14 (by decide) ?_
    obtain ⟨g7, hf⟩ := gd_some hf
    obtain ⟨v10, h8, ec9, hf⟩ := cl_some hf
    refine z_callVx rfl (c_M_room ec9) d_M_rollback_15 cw_M_room lk_M_163 im_M_room se_M_room (kc_K (isK_eq g7) kc_8) ⟨by decide, by decide⟩ (Nat.le_of_ble_eq_true rfl) rfl ?_
    refine z_istore_n (ls2 := [(3, vi v10), (2, vi v4), (0, vr (some a0)), (1, vi p1)]) d_M_rollback_18 rfl (by decide) rfl ?_
    refine z_iload_n 0 d_M_rollback_19 rfl rfl ?_
    refine z_if_ge (tgt := 26) d_M_rollback_20 (by decide) (fun c12 => ?_) (fun c12 => ?_)
    · rw [if_pos c12] at hf
      refine z_aload_n 2 d_M_rollback_26 rfl rfl ?_
      obtain ⟨g13, hf⟩ := gd_some hf
      obtain ⟨h14, ec15, hf⟩ := cv_some hf
      refine z_callVx rfl (c_M_purge ec15) d_M_rollback_27 cw_M_purge lk_M_166 im_M_purge se_M_purge (kc_K (isK_eq g13) kc_8) ⟨by decide, by decide⟩ (Nat.le_of_ble_eq_true rfl) rfl ?_
      refine z_aload_n 2 d_M_rollback_30 rfl rfl ?_
      obtain ⟨g17, hf⟩ := gd_some hf
      refine z_getI d_M_rollback_31 (fl_K (isK_eq g17) fl_M_83_8) (fi_K (isK_eq g17) rfl) rfl ?_
      refine z_istore (ls2 := [(4, vi (hpI h14 a0 26)), (3, vi v10), (2, vi v4), (0, vr (some a0)), (1, vi p1)]) d_M_rollback_34 (by decide) rfl ?_
      refine z_aload_n 3 d_M_rollback_36 rfl rfl ?_
      refine z_aload_n 3 d_M_rollback_37 rfl rfl ?_
      refine z_getR d_M_rollback_38 (fl_K (isK_eq g17) fl_M_93_8) (fi_K (isK_eq g17) rfl) rfl ?_
      refine z_iload_n 2 d_M_rollback_41 rfl rfl ?_
      obtain ⟨a18, e19, hf⟩ := dr_some hf
      obtain ⟨g20, hf⟩ := gd_some hf
      obtain ⟨g21, hf⟩ := gd_some hf
      refine z_iald d_M_rollback_42 e19 (by rw [isK_eq g20]; decide) (by rw [isK_eq g20]; rfl) (inb_vp g21) ?_
      obtain ⟨v24, h22, ec23, hf⟩ := cl_some hf
      refine z_callVx rfl (c_M_page ec23) d_M_rollback_43 cw_M_page lk_M_108 im_M_page se_M_page (kc_K (isK_eq g17) kc_8) ⟨by decide, by decide⟩ (Nat.le_of_ble_eq_true rfl) rfl ?_
      refine z_istore (ls2 := [(5, vi v24), (4, vi (hpI h14 a0 26)), (3, vi v10), (2, vi v4), (0, vr (some a0)), (1, vi p1)]) d_M_rollback_46 (by decide) rfl ?_
      refine z_aload_n 4 d_M_rollback_48 rfl rfl ?_
      refine z_iload 1 d_M_rollback_49 rfl ?_
      refine z_iconst (v := (0 : Int32)) d_M_rollback_51 (by decide) ?_
      refine z_iconst (v := (nI 2)) d_M_rollback_52 (by decide) ?_
      refine z_iconst (v := (0 : Int32)) d_M_rollback_53 (by decide) ?_
      refine z_iload_n 5 d_M_rollback_54 rfl rfl ?_
      obtain ⟨g26, hf⟩ := gd_some hf
      obtain ⟨v29, h27, ec28, hf⟩ := cl_some hf
      refine z_callVx rfl (c_M_add ec28) d_M_rollback_55 cw_M_add lk_M_173 im_M_add se_M_add (kc_K (isK_eq g26) kc_8) ⟨by decide, by decide⟩ (Nat.le_of_ble_eq_true rfl) rfl ?_
      refine z_istore (ls2 := [(6, vi v29), (5, vi v24), (4, vi (hpI h14 a0 26)), (3, vi v10), (2, vi v4), (0, vr (some a0)), (1, vi p1)]) d_M_rollback_58 (by decide) rfl ?_
      refine z_aload_n 5 d_M_rollback_60 rfl rfl ?_
      refine z_dup d_M_rollback_61 rfl ?_
      obtain ⟨g31, hf⟩ := gd_some hf
      refine z_getI d_M_rollback_62 (fl_K (isK_eq g31) fl_M_83_8) (fi_K (isK_eq g31) rfl) rfl ?_
      refine z_iconst (v := (1 : Int32)) d_M_rollback_65 (by decide) ?_
      refine z_iadd d_M_rollback_66 ?_
      obtain ⟨h32, eh33, hf⟩ := nm_some hf
      refine z_putI d_M_rollback_67 (fl_K (isK_eq g31) fl_M_83_8) (pu_K (isK_eq g31) (fun q hq => by cases (Option.some.inj hq); exact Or.inl rfl)) (fi_K (isK_eq g31) rfl) rfl ?_
      refine z_hp eh33 ?_
      refine z_iconst (v := (0 : Int32)) d_M_rollback_70 (by decide) ?_
      refine z_istore (ls2 := [(7, vi (0 : Int32)), (6, vi v29), (5, vi v24), (4, vi (hpI h14 a0 26)), (3, vi v10), (2, vi v4), (0, vr (some a0)), (1, vi p1)]) d_M_rollback_71 (by decide) rfl ?_
      obtain ⟨x53, el54, hf⟩ := bd_some hf
      refine z_ls [6, 7, 5, 4, 3, 2, 1, 0] rfl ?_
      refine zl_M_rollback_73 el54 ?_
      refine z_aload_n 0 d_M_rollback_118 rfl rfl ?_
      refine z_iload_n 2 d_M_rollback_119 rfl rfl ?_
      refine z_iconst (v := (1 : Int32)) d_M_rollback_120 (by decide) ?_
      refine z_iadd d_M_rollback_121 ?_
      obtain ⟨g56, hf⟩ := gd_some hf
      obtain ⟨h57, eh58, hf⟩ := nm_some hf
      refine z_putI d_M_rollback_122 (fl_K (isK_eq g56) fl_M_96_8) (pu_K (isK_eq g56) (fun q hq => by cases (Option.some.inj hq); exact Or.inl rfl)) (fi_K (isK_eq g56) rfl) rfl ?_
      refine z_hp eh58 ?_
      refine z_aload_n 0 d_M_rollback_125 rfl rfl ?_
      refine z_getR d_M_rollback_126 (fl_K (isK_eq (isK_wI eh58 g56)) fl_M_93_8) (fi_K (isK_eq (isK_wI eh58 g56)) rfl) rfl ?_
      refine z_iload_n 2 d_M_rollback_129 rfl rfl ?_
      refine z_bipush (v := (nI 32)) d_M_rollback_130 (by decide) ?_
      refine z_iload 4 d_M_rollback_132 rfl ?_
      refine z_imul d_M_rollback_134 ?_
      obtain ⟨a60, e61, hf⟩ := dr_some hf
      obtain ⟨g62, hf⟩ := gd_some hf
      obtain ⟨g63, hf⟩ := gd_some hf
      obtain ⟨h64, eh65, hf⟩ := nm_some hf
      refine z_iast d_M_rollback_135 e61 (by rw [isK_eq g62]; decide) (by rw [isK_eq g62]; rfl) (inb_vp g63) ?_
      refine z_hp eh65 ?_
      refine z_aload_n 0 d_M_rollback_136 rfl rfl ?_
      refine z_iload_n 1 d_M_rollback_137 rfl rfl ?_
      obtain ⟨h67, eh68, hf⟩ := nm_some hf
      refine z_putI d_M_rollback_138 (fl_K (isK_eq (isK_wI eh65 (isK_wI eh58 g56))) fl_M_119_8) (pu_K (isK_eq (isK_wI eh65 (isK_wI eh58 g56))) (fun q hq => by cases (Option.some.inj hq); exact Or.inl rfl)) (fi_K (isK_eq (isK_wI eh65 (isK_wI eh58 g56))) rfl) rfl ?_
      refine z_hp eh68 ?_
      refine z_aload_n 0 d_M_rollback_141 rfl rfl ?_
      refine z_iload 4 d_M_rollback_142 rfl ?_
      refine z_iload_n 3 d_M_rollback_144 rfl rfl ?_
      refine z_iconst (v := (1 : Int32)) d_M_rollback_145 (by decide) ?_
      refine z_iload_n 1 d_M_rollback_146 rfl rfl ?_
      obtain ⟨h70, ec71, hf⟩ := cv_some hf
      refine z_callVx rfl (c_M_write ec71) d_M_rollback_147 cw_M_write lk_M_177 im_M_write se_M_write (kc_K (isK_eq (isK_wI eh68 (isK_wI eh65 (isK_wI eh58 g56)))) kc_8) ⟨by decide, by decide⟩ (Nat.le_of_ble_eq_true rfl) rfl ?_
      refine z_aload_n 0 d_M_rollback_150 rfl rfl ?_
      refine z_aload_n 0 d_M_rollback_151 rfl rfl ?_
      obtain ⟨g73, hf⟩ := gd_some hf
      refine z_getR d_M_rollback_152 (fl_K (isK_eq g73) fl_M_93_8) (fi_K (isK_eq g73) rfl) rfl ?_
      refine z_iload_n 2 d_M_rollback_155 rfl rfl ?_
      obtain ⟨a74, e75, hf⟩ := dr_some hf
      obtain ⟨g76, hf⟩ := gd_some hf
      obtain ⟨g77, hf⟩ := gd_some hf
      refine z_iald d_M_rollback_156 e75 (by rw [isK_eq g76]; decide) (by rw [isK_eq g76]; rfl) (inb_vp g77) ?_
      obtain ⟨h78, ec79, hf⟩ := cv_some hf
      refine z_callVx rfl (c_M_load ec79) d_M_rollback_157 cw_M_load lk_M_184 im_M_load se_M_load (kc_K (isK_eq g73) kc_8) ⟨by decide, by decide⟩ (Nat.le_of_ble_eq_true rfl) rfl ?_
      refine z_aload_n 0 d_M_rollback_160 rfl rfl ?_
      obtain ⟨g81, hf⟩ := gd_some hf
      obtain ⟨h82, ec83, hf⟩ := cv_some hf
      refine z_callVx rfl (c_M_drop ec83) d_M_rollback_161 cw_M_drop lk_M_181 im_M_drop se_M_drop (kc_K (isK_eq g81) kc_8) ⟨by decide, by decide⟩ (Nat.le_of_ble_eq_true rfl) rfl ?_
      refine z_iload 4 d_M_rollback_164 rfl ?_
      obtain ⟨rfl, rfl⟩ := Prod.mk.inj (Option.some.inj hf)
      exact z_ret d_M_rollback_166 rfl
    · rw [if_neg c12] at hf
      refine z_bipush (v := (-2 : Int32)) d_M_rollback_23 (by decide) ?_
      obtain ⟨rfl, rfl⟩ := Prod.mk.inj (Option.some.inj hf)
      exact z_ret d_M_rollback_25 rfl
  · rw [if_neg c6] at hf
    refine z_bipush (v := (-3 : Int32)) d_M_rollback_10 (by decide) ?_
    obtain ⟨rfl, rfl⟩ := Prod.mk.inj (Option.some.inj hf)
    exact z_ret d_M_rollback_12 rfl
set_option maxRecDepth 100000 in
set_option maxHeartbeats 4000000 in
theorem fr_M_rollback {C : Ct} {mi : Nat} {a0 : Nat} {p1 : Int32} {h h' : Hp} {v : Int32} (hf : f_M_rollback a0 p1 h = some (v, h')) : Keep W_M_rollback h h' := by
  unfold f_M_rollback at hf
  obtain ⟨g1, hf⟩ := gd_some hf
  obtain ⟨v4, h2, ec3, hf⟩ := cl_some hf
  have K5 := (Keep.refl W_M_rollback _).trans ((fr_M_find (C := C) (mi := mi) ec3).mono (by decide) (by decide))
  rcases Classical.em (0 ≤ v4) with c6 | c6
  · rw [if_pos c6] at hf
    obtain ⟨g7, hf⟩ := gd_some hf
    obtain ⟨v10, h8, ec9, hf⟩ := cl_some hf
    have K11 := K5.trans ((fr_M_room (C := C) (mi := mi) ec9).mono (by decide) (by decide))
    rcases Classical.em (0 ≤ v10) with c12 | c12
    · rw [if_pos c12] at hf
      obtain ⟨g13, hf⟩ := gd_some hf
      obtain ⟨h14, ec15, hf⟩ := cv_some hf
      have K16 := K11.trans ((fr_M_purge (C := C) (mi := mi) ec15).mono (by decide) (by decide))
      obtain ⟨g17, hf⟩ := gd_some hf
      obtain ⟨a18, e19, hf⟩ := dr_some hf
      obtain ⟨g20, hf⟩ := gd_some hf
      obtain ⟨g21, hf⟩ := gd_some hf
      obtain ⟨v24, h22, ec23, hf⟩ := cl_some hf
      have K25 := K16.trans ((fr_M_page (C := C) (mi := mi) ec23).mono (by decide) (by decide))
      obtain ⟨g26, hf⟩ := gd_some hf
      obtain ⟨v29, h27, ec28, hf⟩ := cl_some hf
      have K30 := K25.trans ((fr_M_add (C := C) (mi := mi) ec28).mono (by decide) (by decide))
      obtain ⟨g31, hf⟩ := gd_some hf
      obtain ⟨h32, eh33, hf⟩ := nm_some hf
      have K34 := K30.trans (kw_I eh33 (isK_eq g31) (Or.inl (by decide)))
      obtain ⟨x53, el54, hf⟩ := bd_some hf
      have K55 := K34.trans (kl_M_rollback_73 (C := C) (mi := mi) el54)
      obtain ⟨g56, hf⟩ := gd_some hf
      obtain ⟨h57, eh58, hf⟩ := nm_some hf
      have K59 := K55.trans (kw_I eh58 (isK_eq g56) (Or.inl (by decide)))
      obtain ⟨a60, e61, hf⟩ := dr_some hf
      obtain ⟨g62, hf⟩ := gd_some hf
      obtain ⟨g63, hf⟩ := gd_some hf
      obtain ⟨h64, eh65, hf⟩ := nm_some hf
      have K66 := K59.trans (kw_I eh65 (isK_eq g62) (Or.inr (by decide)))
      obtain ⟨h67, eh68, hf⟩ := nm_some hf
      have K69 := K66.trans (kw_I eh68 (isK_eq (isK_wI eh65 (isK_wI eh58 g56))) (Or.inl (by decide)))
      obtain ⟨h70, ec71, hf⟩ := cv_some hf
      have K72 := K69.trans ((fr_M_write (C := C) (mi := mi) ec71).mono (by decide) (by decide))
      obtain ⟨g73, hf⟩ := gd_some hf
      obtain ⟨a74, e75, hf⟩ := dr_some hf
      obtain ⟨g76, hf⟩ := gd_some hf
      obtain ⟨g77, hf⟩ := gd_some hf
      obtain ⟨h78, ec79, hf⟩ := cv_some hf
      have K80 := K72.trans ((fr_M_load (C := C) (mi := mi) ec79).mono (by decide) (by decide))
      obtain ⟨g81, hf⟩ := gd_some hf
      obtain ⟨h82, ec83, hf⟩ := cv_some hf
      have K84 := K80.trans ((fr_M_drop (C := C) (mi := mi) ec83).mono (by decide) (by decide))
      obtain ⟨rfl, rfl⟩ := Prod.mk.inj (Option.some.inj hf)
      exact K84
    · rw [if_neg c12] at hf
      obtain ⟨rfl, rfl⟩ := Prod.mk.inj (Option.some.inj hf)
      exact K11
  · rw [if_neg c6] at hf
    obtain ⟨rfl, rfl⟩ := Prod.mk.inj (Option.some.inj hf)
    exact K5
theorem c_M_rollback {l : Launch} {C : Ct} {mi : Nat} {a0 : Nat} {p1 : Int32} {h h' : Hp} {v : Int32} (hf : f_M_rollback a0 p1 h = some (v, h')) : Mt l C mi m_M_rollback 3 [vr (some a0), vi p1] h (some (vi v)) h' := mt_I (ty := .int) rfl rfl rfl (by decide) (Nat.le_of_ble_eq_true rfl) (zf_M_rollback hf)
-- VersionMapsModel.clean()V
def m_M_clean : Mi := (⟨"VersionMapsModel", "clean", "()V"⟩, prog_11_method_34_code, 5, (Option.none : Option Jvm.ClassFile.FieldType), .return_)
theorem cw_M_clean : cw_ok m_M_clean 0 := ⟨by decide +kernel, by decide +kernel, by decide +kernel, by decide +kernel⟩
theorem im_M_clean : Cond.instanceMethod m_M_clean.1 ∈ lw_w := by decide +kernel
theorem se_M_clean : Cond.selects "VersionMapsModel" m_M_clean.1 m_M_clean.1 ∈ lw_w := by decide +kernel
theorem d_M_clean_0 : decode prog_11_method_34_code 0 = .ok (.aload_n 0, 1) := by decide +kernel
theorem d_M_clean_1 : decode prog_11_method_34_code 1 = .ok (.invokevirtual 187, 3) := by decide +kernel
theorem d_M_clean_4 : decode prog_11_method_34_code 4 = .ok (.iconst 0, 1) := by decide +kernel
theorem d_M_clean_5 : decode prog_11_method_34_code 5 = .ok (.istore_n 1, 1) := by decide +kernel
theorem d_M_clean_6 : decode prog_11_method_34_code 6 = .ok (.iconst 0, 1) := by decide +kernel
theorem d_M_clean_7 : decode prog_11_method_34_code 7 = .ok (.istore_n 2, 1) := by decide +kernel
theorem d_M_clean_8 : decode prog_11_method_34_code 8 = .ok (.iload_n 2, 1) := by decide +kernel
theorem d_M_clean_9 : decode prog_11_method_34_code 9 = .ok (.aload_n 0, 1) := by decide +kernel
theorem d_M_clean_10 : decode prog_11_method_34_code 10 = .ok (.getfield 153, 3) := by decide +kernel
theorem d_M_clean_13 : decode prog_11_method_34_code 13 = .ok (.if_icmp .ge 125, 3) := by decide +kernel
theorem d_M_clean_16 : decode prog_11_method_34_code 16 = .ok (.aload_n 0, 1) := by decide +kernel
theorem d_M_clean_17 : decode prog_11_method_34_code 17 = .ok (.iload_n 2, 1) := by decide +kernel
theorem d_M_clean_18 : decode prog_11_method_34_code 18 = .ok (.invokevirtual 190, 3) := by decide +kernel
theorem d_M_clean_21 : decode prog_11_method_34_code 21 = .ok (.istore_n 3, 1) := by decide +kernel
theorem d_M_clean_22 : decode prog_11_method_34_code 22 = .ok (.iload_n 3, 1) := by decide +kernel
theorem d_M_clean_23 : decode prog_11_method_34_code 23 = .ok (.ifCond .ne 46, 3) := by decide +kernel
theorem d_M_clean_26 : decode prog_11_method_34_code 26 = .ok (.aload_n 0, 1) := by decide +kernel
theorem d_M_clean_27 : decode prog_11_method_34_code 27 = .ok (.getfield 71, 3) := by decide +kernel
theorem d_M_clean_30 : decode prog_11_method_34_code 30 = .ok (.iload_n 2, 1) := by decide +kernel
theorem d_M_clean_31 : decode prog_11_method_34_code 31 = .ok (.iaload, 1) := by decide +kernel
theorem d_M_clean_32 : decode prog_11_method_34_code 32 = .ok (.istore 4, 2) := by decide +kernel
theorem d_M_clean_34 : decode prog_11_method_34_code 34 = .ok (.iload 4, 2) := by decide +kernel
theorem d_M_clean_36 : decode prog_11_method_34_code 36 = .ok (.aload_n 0, 1) := by decide +kernel
theorem d_M_clean_37 : decode prog_11_method_34_code 37 = .ok (.getfield 71, 3) := by decide +kernel
theorem d_M_clean_40 : decode prog_11_method_34_code 40 = .ok (.iload_n 2, 1) := by decide +kernel
theorem d_M_clean_41 : decode prog_11_method_34_code 41 = .ok (.iaload, 1) := by decide +kernel
theorem d_M_clean_42 : decode prog_11_method_34_code 42 = .ok (.aload_n 0, 1) := by decide +kernel
theorem d_M_clean_43 : decode prog_11_method_34_code 43 = .ok (.getfield 74, 3) := by decide +kernel
theorem d_M_clean_46 : decode prog_11_method_34_code 46 = .ok (.iload_n 2, 1) := by decide +kernel
theorem d_M_clean_47 : decode prog_11_method_34_code 47 = .ok (.iaload, 1) := by decide +kernel
theorem d_M_clean_48 : decode prog_11_method_34_code 48 = .ok (.iadd, 1) := by decide +kernel
theorem d_M_clean_49 : decode prog_11_method_34_code 49 = .ok (.if_icmp .ge 17, 3) := by decide +kernel
theorem d_M_clean_52 : decode prog_11_method_34_code 52 = .ok (.aload_n 0, 1) := by decide +kernel
theorem d_M_clean_53 : decode prog_11_method_34_code 53 = .ok (.getfield 65, 3) := by decide +kernel
theorem d_M_clean_56 : decode prog_11_method_34_code 56 = .ok (.iload 4, 2) := by decide +kernel
theorem d_M_clean_58 : decode prog_11_method_34_code 58 = .ok (.iconst 1, 1) := by decide +kernel
theorem d_M_clean_59 : decode prog_11_method_34_code 59 = .ok (.bastore, 1) := by decide +kernel
theorem d_M_clean_60 : decode prog_11_method_34_code 60 = .ok (.iinc 4 1, 3) := by decide +kernel
theorem d_M_clean_63 : decode prog_11_method_34_code 63 = .ok (.goto (-29), 3) := by decide +kernel
theorem d_M_clean_66 : decode prog_11_method_34_code 66 = .ok (.goto 66, 3) := by decide +kernel
theorem d_M_clean_69 : decode prog_11_method_34_code 69 = .ok (.aload_n 0, 1) := by decide +kernel
theorem d_M_clean_70 : decode prog_11_method_34_code 70 = .ok (.getfield 68, 3) := by decide +kernel
theorem d_M_clean_73 : decode prog_11_method_34_code 73 = .ok (.iload_n 1, 1) := by decide +kernel
theorem d_M_clean_74 : decode prog_11_method_34_code 74 = .ok (.aload_n 0, 1) := by decide +kernel
theorem d_M_clean_75 : decode prog_11_method_34_code 75 = .ok (.getfield 68, 3) := by decide +kernel
theorem d_M_clean_78 : decode prog_11_method_34_code 78 = .ok (.iload_n 2, 1) := by decide +kernel
theorem d_M_clean_79 : decode prog_11_method_34_code 79 = .ok (.iaload, 1) := by decide +kernel
theorem d_M_clean_80 : decode prog_11_method_34_code 80 = .ok (.iastore, 1) := by decide +kernel
theorem d_M_clean_81 : decode prog_11_method_34_code 81 = .ok (.aload_n 0, 1) := by decide +kernel
theorem d_M_clean_82 : decode prog_11_method_34_code 82 = .ok (.getfield 71, 3) := by decide +kernel
theorem d_M_clean_85 : decode prog_11_method_34_code 85 = .ok (.iload_n 1, 1) := by decide +kernel
theorem d_M_clean_86 : decode prog_11_method_34_code 86 = .ok (.aload_n 0, 1) := by decide +kernel
theorem d_M_clean_87 : decode prog_11_method_34_code 87 = .ok (.getfield 71, 3) := by decide +kernel
theorem d_M_clean_90 : decode prog_11_method_34_code 90 = .ok (.iload_n 2, 1) := by decide +kernel
theorem d_M_clean_91 : decode prog_11_method_34_code 91 = .ok (.iaload, 1) := by decide +kernel
theorem d_M_clean_92 : decode prog_11_method_34_code 92 = .ok (.iastore, 1) := by decide +kernel
theorem d_M_clean_93 : decode prog_11_method_34_code 93 = .ok (.aload_n 0, 1) := by decide +kernel
theorem d_M_clean_94 : decode prog_11_method_34_code 94 = .ok (.getfield 74, 3) := by decide +kernel
theorem d_M_clean_97 : decode prog_11_method_34_code 97 = .ok (.iload_n 1, 1) := by decide +kernel
theorem d_M_clean_98 : decode prog_11_method_34_code 98 = .ok (.aload_n 0, 1) := by decide +kernel
theorem d_M_clean_99 : decode prog_11_method_34_code 99 = .ok (.getfield 74, 3) := by decide +kernel
theorem d_M_clean_102 : decode prog_11_method_34_code 102 = .ok (.iload_n 2, 1) := by decide +kernel
theorem d_M_clean_103 : decode prog_11_method_34_code 103 = .ok (.iaload, 1) := by decide +kernel
theorem d_M_clean_104 : decode prog_11_method_34_code 104 = .ok (.iastore, 1) := by decide +kernel
theorem d_M_clean_105 : decode prog_11_method_34_code 105 = .ok (.aload_n 0, 1) := by decide +kernel
theorem d_M_clean_106 : decode prog_11_method_34_code 106 = .ok (.getfield 77, 3) := by decide +kernel
theorem d_M_clean_109 : decode prog_11_method_34_code 109 = .ok (.iload_n 1, 1) := by decide +kernel
theorem d_M_clean_110 : decode prog_11_method_34_code 110 = .ok (.aload_n 0, 1) := by decide +kernel
theorem d_M_clean_111 : decode prog_11_method_34_code 111 = .ok (.getfield 77, 3) := by decide +kernel
theorem d_M_clean_114 : decode prog_11_method_34_code 114 = .ok (.iload_n 2, 1) := by decide +kernel
theorem d_M_clean_115 : decode prog_11_method_34_code 115 = .ok (.iaload, 1) := by decide +kernel
theorem d_M_clean_116 : decode prog_11_method_34_code 116 = .ok (.iastore, 1) := by decide +kernel
theorem d_M_clean_117 : decode prog_11_method_34_code 117 = .ok (.aload_n 0, 1) := by decide +kernel
theorem d_M_clean_118 : decode prog_11_method_34_code 118 = .ok (.getfield 80, 3) := by decide +kernel
theorem d_M_clean_121 : decode prog_11_method_34_code 121 = .ok (.iload_n 1, 1) := by decide +kernel
theorem d_M_clean_122 : decode prog_11_method_34_code 122 = .ok (.aload_n 0, 1) := by decide +kernel
theorem d_M_clean_123 : decode prog_11_method_34_code 123 = .ok (.getfield 80, 3) := by decide +kernel
theorem d_M_clean_126 : decode prog_11_method_34_code 126 = .ok (.iload_n 2, 1) := by decide +kernel
theorem d_M_clean_127 : decode prog_11_method_34_code 127 = .ok (.iaload, 1) := by decide +kernel
theorem d_M_clean_128 : decode prog_11_method_34_code 128 = .ok (.iastore, 1) := by decide +kernel
theorem d_M_clean_129 : decode prog_11_method_34_code 129 = .ok (.iinc 1 1, 3) := by decide +kernel
theorem d_M_clean_132 : decode prog_11_method_34_code 132 = .ok (.iinc 2 1, 3) := by decide +kernel
theorem d_M_clean_135 : decode prog_11_method_34_code 135 = .ok (.goto (-127), 3) := by decide +kernel
theorem d_M_clean_138 : decode prog_11_method_34_code 138 = .ok (.aload_n 0, 1) := by decide +kernel
theorem d_M_clean_139 : decode prog_11_method_34_code 139 = .ok (.iload_n 1, 1) := by decide +kernel
theorem d_M_clean_140 : decode prog_11_method_34_code 140 = .ok (.putfield 153, 3) := by decide +kernel
theorem d_M_clean_143 : decode prog_11_method_34_code 143 = .ok (.return_, 1) := by decide +kernel
def W_M_clean : Wl := ([(8, 25)], [87, 93, 94, 95, 96, 97, 98])
def b_M_clean_34 (y0 : Nat) (y1 : Int32) (y2 : Int32) (y4 : Int32) (h : Hp) : Option ((Int32 × Hp) ⊕ (Hp)) :=
  gd (isK h y0 8) (dr (hpR h y0 21) fun a59 => gd (isK h a59 95) (gd (inb y2 (hpL h a59)) (dr (hpR h y0 22) fun a63 => gd (isK h a63 96) (gd (inb y2 (hpL h a63)) (if ((hpI h a59 y2.toNatClampNeg) + (hpI h a63 y2.toNatClampNeg)) ≤ y4 then (some (.inr h)) else (dr (hpR h y0 18) fun a68 => gd (isK h a68 93) (gd (inb y4 (hpL h a68)) (nm (wI h a68 y4.toNatClampNeg (vp_nar .boolean (1 : Int32))) fun h72 => some (.inl ((y4 + (1 : Int32)), h72))))))))))
set_option maxRecDepth 100000 in
set_option maxHeartbeats 4000000 in
theorem zb_M_clean_34 {l : Launch} {C : Ct} {mi : Nat} {y0 : Nat} {y1 : Int32} {y2 : Int32} {y4 : Int32} {h h' : Hp} {q : ((Int32 × Hp) ⊕ (Hp))} (hf : b_M_clean_34 y0 y1 y2 y4 h = some q) (kc : ∀ s, q = .inl s → Z l C mi m_M_clean 3 34 [(0, vr (some y0)), (1, vi y1), (2, vi y2), (4, vi s.1)] [] s.2 none h') (ke : ∀ x, q = .inr x → Z l C mi m_M_clean 3 66 [(0, vr (some y0)), (1, vi y1), (2, vi y2)] [] x none h') : Z l C mi m_M_clean 3 34 [(0, vr (some y0)), (1, vi y1), (2, vi y2), (4, vi y4)] [] h none h' := by
  unfold b_M_clean_34 at hf
  refine z_iload 3 d_M_clean_34 rfl ?_
  refine z_aload_n 0 d_M_clean_36 rfl rfl ?_
  obtain ⟨g58, hf⟩ := gd_some hf
  refine z_getR d_M_clean_37 (fl_K (isK_eq g58) fl_M_71_8) (fi_K (isK_eq g58) rfl) rfl ?_
  refine z_iload_n 2 d_M_clean_40 rfl rfl ?_
  obtain ⟨a59, e60, hf⟩ := dr_some hf
  obtain ⟨g61, hf⟩ := gd_some hf
  obtain ⟨g62, hf⟩ := gd_some hf
  refine z_iald d_M_clean_41 e60 (by rw [isK_eq g61]; decide) (by rw [isK_eq g61]; rfl) (inb_vp g62) ?_
  refine z_aload_n 0 d_M_clean_42 rfl rfl ?_
  refine z_getR d_M_clean_43 (fl_K (isK_eq g58) fl_M_74_8) (fi_K (isK_eq g58) rfl) rfl ?_
  refine z_iload_n 2 d_M_clean_46 rfl rfl ?_
  obtain ⟨a63, e64, hf⟩ := dr_some hf
  obtain ⟨g65, hf⟩ := gd_some hf
  obtain ⟨g66, hf⟩ := gd_some hf
  refine z_iald d_M_clean_47 e64 (by rw [isK_eq g65]; decide) (by rw [isK_eq g65]; rfl) (inb_vp g66) ?_
  refine z_iadd d_M_clean_48 ?_
  refine z_icmp_ge (tgt := 66) d_M_clean_49 (by decide) (fun c67 => ?_) (fun c67 => ?_)
  · rw [if_pos c67] at hf
    refine z_ls [0, 1, 2] rfl ?_
    exact ke h (Option.some.inj hf).symm
  · rw [if_neg c67] at hf
    refine z_aload_n 0 d_M_clean_52 rfl rfl ?_
    refine z_getR d_M_clean_53 (fl_K (isK_eq g58) fl_M_65_8) (fi_K (isK_eq g58) rfl) rfl ?_
    refine z_iload 3 d_M_clean_56 rfl ?_
    refine z_iconst (v := (1 : Int32)) d_M_clean_58 (by decide) ?_
    obtain ⟨a68, e69, hf⟩ := dr_some hf
    obtain ⟨g70, hf⟩ := gd_some hf
    obtain ⟨g71, hf⟩ := gd_some hf
    obtain ⟨h72, eh73, hf⟩ := nm_some hf
    refine z_zast d_M_clean_59 e69 (by rw [isK_eq g70]; decide) (by rw [isK_eq g70]; rfl) (inb_vp g71) ?_
    refine z_hp eh73 ?_
    refine z_iinc (ls2 := [(4, vi (y4 + (1 : Int32))), (0, vr (some y0)), (1, vi y1), (2, vi y2)]) 3 d_M_clean_60 rfl rfl (by decide) rfl ?_
    refine z_goto (tgt := 34) d_M_clean_63 (by decide) ?_
    refine z_ls [1, 2, 3, 0] rfl ?_
    exact kc ((y4 + (1 : Int32)), h72) (Option.some.inj hf).symm
set_option maxRecDepth 100000 in
set_option maxHeartbeats 4000000 in
theorem kb_M_clean_34 {C : Ct} {mi : Nat} {y0 : Nat} {y1 : Int32} {y2 : Int32} {y4 : Int32} {h : Hp} {q : ((Int32 × Hp) ⊕ (Hp))} (hf : b_M_clean_34 y0 y1 y2 y4 h = some q) : Keep W_M_clean h (Sum.elim (fun s : Int32 × Hp => s.2) (fun x : Hp => x) q) := by
  unfold b_M_clean_34 at hf
  obtain ⟨g58, hf⟩ := gd_some hf
  obtain ⟨a59, e60, hf⟩ := dr_some hf
  obtain ⟨g61, hf⟩ := gd_some hf
  obtain ⟨g62, hf⟩ := gd_some hf
  obtain ⟨a63, e64, hf⟩ := dr_some hf
  obtain ⟨g65, hf⟩ := gd_some hf
  obtain ⟨g66, hf⟩ := gd_some hf
  rcases Classical.em (((hpI h a59 y2.toNatClampNeg) + (hpI h a63 y2.toNatClampNeg)) ≤ y4) with c67 | c67
  · rw [if_pos c67] at hf
    cases (Option.some.inj hf)
    exact (Keep.refl W_M_clean _)
  · rw [if_neg c67] at hf
    obtain ⟨a68, e69, hf⟩ := dr_some hf
    obtain ⟨g70, hf⟩ := gd_some hf
    obtain ⟨g71, hf⟩ := gd_some hf
    obtain ⟨h72, eh73, hf⟩ := nm_some hf
    have K74 := (Keep.refl W_M_clean _).trans (kw_I eh73 (isK_eq g70) (Or.inr (by decide)))
    cases (Option.some.inj hf)
    exact K74
def l_M_clean_34 (y0 : Nat) (y1 : Int32) (y2 : Int32) (s : Int32 × Hp) : Option (Hp) := lp (fun s => b_M_clean_34 y0 y1 y2 s.1 s.2) FU s
theorem zzl_M_clean_34 {l : Launch} {C : Ct} {mi : Nat} {y0 : Nat} {y1 : Int32} {y2 : Int32} {h' : Hp} : ∀ (n : Nat) (s : Int32 × Hp) (x : (Hp)), lp (fun s : Int32 × Hp => b_M_clean_34 y0 y1 y2 s.1 s.2) n s = some x → Z l C mi m_M_clean 3 66 [(0, vr (some y0)), (1, vi y1), (2, vi y2)] [] x none h' → Z l C mi m_M_clean 3 34 [(0, vr (some y0)), (1, vi y1), (2, vi y2), (4, vi s.1)] [] s.2 none h' := by
  intro n
  induction n with
  | zero => intro s x hl; cases hl
  | succ n ih =>
    intro s x hl ke
    rcases lp_some hl with ⟨s2, hb, hl2⟩ | hb
    · exact zb_M_clean_34 hb (fun s3 e3 => by cases e3; refine z_ls [0, 1, 2, 3] rfl ?_; exact ih s2 x hl2 ke) (fun x e3 => by cases e3)
    · exact zb_M_clean_34 hb (fun s3 e3 => by cases e3) (fun x e3 => by cases e3; exact ke)
theorem zl_M_clean_34 {l : Launch} {C : Ct} {mi : Nat} {y0 : Nat} {y1 : Int32} {y2 : Int32} {h' : Hp} {s : Int32 × Hp} {x : (Hp)} (hl : l_M_clean_34 y0 y1 y2 s = some x) (ke : Z l C mi m_M_clean 3 66 [(0, vr (some y0)), (1, vi y1), (2, vi y2)] [] x none h') : Z l C mi m_M_clean 3 34 [(0, vr (some y0)), (1, vi y1), (2, vi y2), (4, vi s.1)] [] s.2 none h' := zzl_M_clean_34 FU s x hl ke
theorem kl_M_clean_34 {C : Ct} {mi : Nat} {y0 : Nat} {y1 : Int32} {y2 : Int32} {s : Int32 × Hp} {q : (Hp)} (hl : l_M_clean_34 y0 y1 y2 s = some q) : Keep W_M_clean s.2 ((fun x : Hp => x) q) := lpk (sh := (fun s : Int32 × Hp => s.2)) (rh := (fun x : Hp => x)) (fun s q hb => kb_M_clean_34 (C := C) (mi := mi) hb) FU s q hl
def b_M_clean_8 (y0 : Nat) (y1 : Int32) (y2 : Int32) (h : Hp) : Option ((Int32 × Int32 × Hp) ⊕ (Int32 × Hp)) :=
  gd (isK h y0 8) (if (hpI h y0 25) ≤ y2 then (some (.inr (y1, h))) else (cl (f_M_liveOf y0 y2 h) fun v9 h7 => if v9 = 0 then (gd (isK h7 y0 8) (dr (hpR h7 y0 21) fun a54 => gd (isK h7 a54 95) (gd (inb y2 (hpL h7 a54)) (bd (l_M_clean_34 y0 y1 y2 ((hpI h7 a54 y2.toNatClampNeg), h7)) fun x75 => some (.inl (y1, (y2 + (1 : Int32)), x75)))))) else (gd (isK h7 y0 8) (dr (hpR h7 y0 20) fun a13 => gd (isK h7 a13 94) (gd (inb y2 (hpL h7 a13)) (gd (inb y1 (hpL h7 a13)) (nm (wI h7 a13 y1.toNatClampNeg (hpI h7 a13 y2.toNatClampNeg)) fun h18 => dr (hpR h18 y0 21) fun a21 => gd (isK h18 a21 95) (gd (inb y2 (hpL h18 a21)) (gd (inb y1 (hpL h18 a21)) (nm (wI h18 a21 y1.toNatClampNeg (hpI h18 a21 y2.toNatClampNeg)) fun h26 => dr (hpR h26 y0 22) fun a29 => gd (isK h26 a29 96) (gd (inb y2 (hpL h26 a29)) (gd (inb y1 (hpL h26 a29)) (nm (wI h26 a29 y1.toNatClampNeg (hpI h26 a29 y2.toNatClampNeg)) fun h34 => dr (hpR h34 y0 23) fun a37 => gd (isK h34 a37 97) (gd (inb y2 (hpL h34 a37)) (gd (inb y1 (hpL h34 a37)) (nm (wI h34 a37 y1.toNatClampNeg (hpI h34 a37 y2.toNatClampNeg)) fun h42 => dr (hpR h42 y0 24) fun a45 => gd (isK h42 a45 98) (gd (inb y2 (hpL h42 a45)) (gd (inb y1 (hpL h42 a45)) (nm (wI h42 a45 y1.toNatClampNeg (hpI h42 a45 y2.toNatClampNeg)) fun h50 => some (.inl ((y1 + (1 : Int32)), (y2 + (1 : Int32)), h50)))))))))))))))))))))
set_option maxRecDepth 100000 in
set_option maxHeartbeats 4000000 in
theorem zb_M_clean_8 {l : Launch} {C : Ct} {mi : Nat} {y0 : Nat} {y1 : Int32} {y2 : Int32} {h h' : Hp} {q : ((Int32 × Int32 × Hp) ⊕ (Int32 × Hp))} (hf : b_M_clean_8 y0 y1 y2 h = some q) (kc : ∀ s, q = .inl s → Z l C mi m_M_clean 3 8 [(0, vr (some y0)), (1, vi s.1), (2, vi s.2.1)] [] s.2.2 none h') (ke : ∀ x, q = .inr x → Z l C mi m_M_clean 3 138 [(0, vr (some y0)), (1, vi x.1)] [] x.2 none h') : Z l C mi m_M_clean 3 8 [(0, vr (some y0)), (1, vi y1), (2, vi y2)] [] h none h' := by
  unfold b_M_clean_8 at hf
  refine z_iload_n 2 d_M_clean_8 rfl rfl ?_
  refine z_aload_n 0 d_M_clean_9 rfl rfl ?_
  obtain ⟨g5, hf⟩ := gd_some hf
  refine z_getI d_M_clean_10 (fl_K (isK_eq g5) fl_M_153_8) (fi_K (isK_eq g5) rfl) rfl ?_
  refine z_icmp_ge (tgt := 138) d_M_clean_13 (by decide) (fun c6 => ?_) (fun c6 => ?_)
  · rw [if_pos c6] at hf
    refine z_ls [0, 1] rfl ?_
    exact ke (y1, h) (Option.some.inj hf).symm
  · rw [if_neg c6] at hf
    refine z_aload_n 0 d_M_clean_16 rfl rfl ?_
    refine z_iload_n 2 d_M_clean_17 rfl rfl ?_
    obtain ⟨v9, h7, ec8, hf⟩ := cl_some hf
    refine z_callVx rfl (c_M_liveOf ec8) d_M_clean_18 cw_M_liveOf lk_M_190 im_M_liveOf se_M_liveOf (kc_K (isK_eq g5) kc_8) ⟨by decide, by decide⟩ (Nat.le_of_ble_eq_true rfl) rfl ?_
    refine z_istore_n (ls2 := [(3, vi v9), (0, vr (some y0)), (1, vi y1), (2, vi y2)]) d_M_clean_21 rfl (by decide) rfl ?_
    refine z_iload_n 0 d_M_clean_22 rfl rfl ?_
    refine z_if_ne (tgt := 69) d_M_clean_23 (by decide) (fun c11 => ?_) (fun c11 => ?_)
    · rw [if_neg c11] at hf
      refine z_aload_n 1 d_M_clean_69 rfl rfl ?_
      obtain ⟨g12, hf⟩ := gd_some hf
      refine z_getR d_M_clean_70 (fl_K (isK_eq g12) fl_M_68_8) (fi_K (isK_eq g12) rfl) rfl ?_
      refine z_iload_n 2 d_M_clean_73 rfl rfl ?_
      refine z_aload_n 1 d_M_clean_74 rfl rfl ?_
      refine z_getR d_M_clean_75 (fl_K (isK_eq g12) fl_M_68_8) (fi_K (isK_eq g12) rfl) rfl ?_
      refine z_iload_n 3 d_M_clean_78 rfl rfl ?_
      obtain ⟨a13, e14, hf⟩ := dr_some hf
      obtain ⟨g15, hf⟩ := gd_some hf
      obtain ⟨g16, hf⟩ := gd_some hf
      refine z_iald d_M_clean_79 e14 (by rw [isK_eq g15]; decide) (by rw [isK_eq g15]; rfl) (inb_vp g16) ?_
      obtain ⟨g17, hf⟩ := gd_some hf
      obtain ⟨h18, eh19, hf⟩ := nm_some hf
      refine z_iast d_M_clean_80 e14 (by rw [isK_eq g15]; decide) (by rw [isK_eq g15]; rfl) (inb_vp g17) ?_
      refine z_hp eh19 ?_
      refine z_aload_n 1 d_M_clean_81 rfl rfl ?_
      refine z_getR d_M_clean_82 (fl_K (isK_eq (isK_wI eh19 g12)) fl_M_71_8) (fi_K (isK_eq (isK_wI eh19 g12)) rfl) rfl ?_
      refine z_iload_n 2 d_M_clean_85 rfl rfl ?_
      refine z_aload_n 1 d_M_clean_86 rfl rfl ?_
      refine z_getR d_M_clean_87 (fl_K (isK_eq (isK_wI eh19 g12)) fl_M_71_8) (fi_K (isK_eq (isK_wI eh19 g12)) rfl) rfl ?_
      refine z_iload_n 3 d_M_clean_90 rfl rfl ?_
      obtain ⟨a21, e22, hf⟩ := dr_some hf
      obtain ⟨g23, hf⟩ := gd_some hf
      obtain ⟨g24, hf⟩ := gd_some hf
      refine z_iald d_M_clean_91 e22 (by rw [isK_eq g23]; decide) (by rw [isK_eq g23]; rfl) (inb_vp g24) ?_
      obtain ⟨g25, hf⟩ := gd_some hf
      obtain ⟨h26, eh27, hf⟩ := nm_some hf
      refine z_iast d_M_clean_92 e22 (by rw [isK_eq g23]; decide) (by rw [isK_eq g23]; rfl) (inb_vp g25) ?_
      refine z_hp eh27 ?_
      refine z_aload_n 1 d_M_clean_93 rfl rfl ?_
      refine z_getR d_M_clean_94 (fl_K (isK_eq (isK_wI eh27 (isK_wI eh19 g12))) fl_M_74_8) (fi_K (isK_eq (isK_wI eh27 (isK_wI eh19 g12))) rfl) rfl ?_
      refine z_iload_n 2 d_M_clean_97 rfl rfl ?_
      refine z_aload_n 1 d_M_clean_98 rfl rfl ?_
      refine z_getR d_M_clean_99 (fl_K (isK_eq (isK_wI eh27 (isK_wI eh19 g12))) fl_M_74_8) (fi_K (isK_eq (isK_wI eh27 (isK_wI eh19 g12))) rfl) rfl ?_
      refine z_iload_n 3 d_M_clean_102 rfl rfl ?_
      obtain ⟨a29, e30, hf⟩ := dr_some hf
      obtain ⟨g31, hf⟩ := gd_some hf
      obtain ⟨g32, hf⟩ := gd_some hf
      refine z_iald d_M_clean_103 e30 (by rw [isK_eq g31]; decide) (by rw [isK_eq g31]; rfl) (inb_vp g32) ?_
      obtain ⟨g33, hf⟩ := gd_some hf
      obtain ⟨h34, eh35, hf⟩ := nm_some hf
      refine z_iast d_M_clean_104 e30 (by rw [isK_eq g31]; decide) (by rw [isK_eq g31]; rfl) (inb_vp g33) ?_
      refine z_hp eh35 ?_
      refine z_aload_n 1 d_M_clean_105 rfl rfl ?_
      refine z_getR d_M_clean_106 (fl_K (isK_eq (isK_wI eh35 (isK_wI eh27 (isK_wI eh19 g12)))) fl_M_77_8) (fi_K (isK_eq (isK_wI eh35 (isK_wI eh27 (isK_wI eh19 g12)))) rfl) rfl ?_
      refine z_iload_n 2 d_M_clean_109 rfl rfl ?_
      refine z_aload_n 1 d_M_clean_110 rfl rfl ?_
      refine z_getR d_M_clean_111 (fl_K (isK_eq (isK_wI eh35 (isK_wI eh27 (isK_wI eh19 g12)))) fl_M_77_8) (fi_K (isK_eq (isK_wI eh35 (isK_wI eh27 (isK_wI eh19 g12)))) rfl) rfl ?_
      refine z_iload_n 3 d_M_clean_114 rfl rfl ?_
      obtain ⟨a37, e38, hf⟩ := dr_some hf
      obtain ⟨g39, hf⟩ := gd_some hf
      obtain ⟨g40, hf⟩ := gd_some hf
      refine z_iald d_M_clean_115 e38 (by rw [isK_eq g39]; decide) (by rw [isK_eq g39]; rfl) (inb_vp g40) ?_
      obtain ⟨g41, hf⟩ := gd_some hf
      obtain ⟨h42, eh43, hf⟩ := nm_some hf
      refine z_iast d_M_clean_116 e38 (by rw [isK_eq g39]; decide) (by rw [isK_eq g39]; rfl) (inb_vp g41) ?_
      refine z_hp eh43 ?_
      refine z_aload_n 1 d_M_clean_117 rfl rfl ?_
      refine z_getR d_M_clean_118 (fl_K (isK_eq (isK_wI eh43 (isK_wI eh35 (isK_wI eh27 (isK_wI eh19 g12))))) fl_M_80_8) (fi_K (isK_eq (isK_wI eh43 (isK_wI eh35 (isK_wI eh27 (isK_wI eh19 g12))))) rfl) rfl ?_
      refine z_iload_n 2 d_M_clean_121 rfl rfl ?_
      refine z_aload_n 1 d_M_clean_122 rfl rfl ?_
      refine z_getR d_M_clean_123 (fl_K (isK_eq (isK_wI eh43 (isK_wI eh35 (isK_wI eh27 (isK_wI eh19 g12))))) fl_M_80_8) (fi_K (isK_eq (isK_wI eh43 (isK_wI eh35 (isK_wI eh27 (isK_wI eh19 g12))))) rfl) rfl ?_
      refine z_iload_n 3 d_M_clean_126 rfl rfl ?_
      obtain ⟨a45, e46, hf⟩ := dr_some hf
      obtain ⟨g47, hf⟩ := gd_some hf
      obtain ⟨g48, hf⟩ := gd_some hf
      refine z_iald d_M_clean_127 e46 (by rw [isK_eq g47]; decide) (by rw [isK_eq g47]; rfl) (inb_vp g48) ?_
      obtain ⟨g49, hf⟩ := gd_some hf
      obtain ⟨h50, eh51, hf⟩ := nm_some hf
      refine z_iast d_M_clean_128 e46 (by rw [isK_eq g47]; decide) (by rw [isK_eq g47]; rfl) (inb_vp g49) ?_
      refine z_hp eh51 ?_
      refine z_iinc (ls2 := [(1, vi (y1 + (1 : Int32))), (3, vi v9), (0, vr (some y0)), (2, vi y2)]) 2 d_M_clean_129 rfl rfl (by decide) rfl ?_
      refine z_iinc (ls2 := [(2, vi (y2 + (1 : Int32))), (1, vi (y1 + (1 : Int32))), (3, vi v9), (0, vr (some y0))]) 3 d_M_clean_132 rfl rfl (by decide) rfl ?_
      refine z_goto (tgt := 8) d_M_clean_135 (by decide) ?_
      refine z_ls [3, 1, 0] rfl ?_
      exact kc ((y1 + (1 : Int32)), (y2 + (1 : Int32)), h50) (Option.some.inj hf).symm
    · rw [if_pos c11] at hf
      refine z_aload_n 1 d_M_clean_26 rfl rfl ?_
      obtain ⟨g53, hf⟩ := gd_some hf
      refine z_getR d_M_clean_27 (fl_K (isK_eq g53) fl_M_71_8) (fi_K (isK_eq g53) rfl) rfl ?_
      refine z_iload_n 3 d_M_clean_30 rfl rfl ?_
      obtain ⟨a54, e55, hf⟩ := dr_some hf
      obtain ⟨g56, hf⟩ := gd_some hf
      obtain ⟨g57, hf⟩ := gd_some hf
      refine z_iald d_M_clean_31 e55 (by rw [isK_eq g56]; decide) (by rw [isK_eq g56]; rfl) (inb_vp g57) ?_
      refine z_istore (ls2 := [(4, vi (hpI h7 a54 y2.toNatClampNeg)), (3, vi v9), (0, vr (some y0)), (1, vi y1), (2, vi y2)]) d_M_clean_32 (by decide) rfl ?_
      obtain ⟨x75, el76, hf⟩ := bd_some hf
      refine z_ls [2, 3, 4, 0] rfl ?_
      refine zl_M_clean_34 el76 ?_
      refine z_goto (tgt := 132) d_M_clean_66 (by decide) ?_
      refine z_iinc (ls2 := [(2, vi (y2 + (1 : Int32))), (0, vr (some y0)), (1, vi y1)]) 2 d_M_clean_132 rfl rfl (by decide) rfl ?_
      refine z_goto (tgt := 8) d_M_clean_135 (by decide) ?_
      refine z_ls [1, 2, 0] rfl ?_
      exact kc (y1, (y2 + (1 : Int32)), x75) (Option.some.inj hf).symm
set_option maxRecDepth 100000 in
set_option maxHeartbeats 4000000 in
theorem kb_M_clean_8 {C : Ct} {mi : Nat} {y0 : Nat} {y1 : Int32} {y2 : Int32} {h : Hp} {q : ((Int32 × Int32 × Hp) ⊕ (Int32 × Hp))} (hf : b_M_clean_8 y0 y1 y2 h = some q) : Keep W_M_clean h (Sum.elim (fun s : Int32 × Int32 × Hp => s.2.2) (fun x : Int32 × Hp => x.2) q) := by
  unfold b_M_clean_8 at hf
  obtain ⟨g5, hf⟩ := gd_some hf
  rcases Classical.em ((hpI h y0 25) ≤ y2) with c6 | c6
  · rw [if_pos c6] at hf
    cases (Option.some.inj hf)
    exact (Keep.refl W_M_clean _)
  · rw [if_neg c6] at hf
    obtain ⟨v9, h7, ec8, hf⟩ := cl_some hf
    have K10 := (Keep.refl W_M_clean _).trans ((fr_M_liveOf (C := C) (mi := mi) ec8).mono (by decide) (by decide))
    rcases (Classical.em (v9 = 0)).symm with c11 | c11
    · rw [if_neg c11] at hf
      obtain ⟨g12, hf⟩ := gd_some hf
      obtain ⟨a13, e14, hf⟩ := dr_some hf
      obtain ⟨g15, hf⟩ := gd_some hf
      obtain ⟨g16, hf⟩ := gd_some hf
      obtain ⟨g17, hf⟩ := gd_some hf
      obtain ⟨h18, eh19, hf⟩ := nm_some hf
      have K20 := K10.trans (kw_I eh19 (isK_eq g15) (Or.inr (by decide)))
      obtain ⟨a21, e22, hf⟩ := dr_some hf
      obtain ⟨g23, hf⟩ := gd_some hf
      obtain ⟨g24, hf⟩ := gd_some hf
      obtain ⟨g25, hf⟩ := gd_some hf
      obtain ⟨h26, eh27, hf⟩ := nm_some hf
      have K28 := K20.trans (kw_I eh27 (isK_eq g23) (Or.inr (by decide)))
      obtain ⟨a29, e30, hf⟩ := dr_some hf
      obtain ⟨g31, hf⟩ := gd_some hf
      obtain ⟨g32, hf⟩ := gd_some hf
      obtain ⟨g33, hf⟩ := gd_some hf
      obtain ⟨h34, eh35, hf⟩ := nm_some hf
      have K36 := K28.trans (kw_I eh35 (isK_eq g31) (Or.inr (by decide)))
      obtain ⟨a37, e38, hf⟩ := dr_some hf
      obtain ⟨g39, hf⟩ := gd_some hf
      obtain ⟨g40, hf⟩ := gd_some hf
      obtain ⟨g41, hf⟩ := gd_some hf
      obtain ⟨h42, eh43, hf⟩ := nm_some hf
      have K44 := K36.trans (kw_I eh43 (isK_eq g39) (Or.inr (by decide)))
      obtain ⟨a45, e46, hf⟩ := dr_some hf
      obtain ⟨g47, hf⟩ := gd_some hf
      obtain ⟨g48, hf⟩ := gd_some hf
      obtain ⟨g49, hf⟩ := gd_some hf
      obtain ⟨h50, eh51, hf⟩ := nm_some hf
      have K52 := K44.trans (kw_I eh51 (isK_eq g47) (Or.inr (by decide)))
      cases (Option.some.inj hf)
      exact K52
    · rw [if_pos c11] at hf
      obtain ⟨g53, hf⟩ := gd_some hf
      obtain ⟨a54, e55, hf⟩ := dr_some hf
      obtain ⟨g56, hf⟩ := gd_some hf
      obtain ⟨g57, hf⟩ := gd_some hf
      obtain ⟨x75, el76, hf⟩ := bd_some hf
      have K77 := K10.trans (kl_M_clean_34 (C := C) (mi := mi) el76)
      cases (Option.some.inj hf)
      exact K77
def l_M_clean_8 (y0 : Nat) (s : Int32 × Int32 × Hp) : Option (Int32 × Hp) := lp (fun s => b_M_clean_8 y0 s.1 s.2.1 s.2.2) FU s
theorem zzl_M_clean_8 {l : Launch} {C : Ct} {mi : Nat} {y0 : Nat} {h' : Hp} : ∀ (n : Nat) (s : Int32 × Int32 × Hp) (x : (Int32 × Hp)), lp (fun s : Int32 × Int32 × Hp => b_M_clean_8 y0 s.1 s.2.1 s.2.2) n s = some x → Z l C mi m_M_clean 3 138 [(0, vr (some y0)), (1, vi x.1)] [] x.2 none h' → Z l C mi m_M_clean 3 8 [(0, vr (some y0)), (1, vi s.1), (2, vi s.2.1)] [] s.2.2 none h' := by
  intro n
  induction n with
  | zero => intro s x hl; cases hl
  | succ n ih =>
    intro s x hl ke
    rcases lp_some hl with ⟨s2, hb, hl2⟩ | hb
    · exact zb_M_clean_8 hb (fun s3 e3 => by cases e3; refine z_ls [0, 1, 2] rfl ?_; exact ih s2 x hl2 ke) (fun x e3 => by cases e3)
    · exact zb_M_clean_8 hb (fun s3 e3 => by cases e3) (fun x e3 => by cases e3; exact ke)
theorem zl_M_clean_8 {l : Launch} {C : Ct} {mi : Nat} {y0 : Nat} {h' : Hp} {s : Int32 × Int32 × Hp} {x : (Int32 × Hp)} (hl : l_M_clean_8 y0 s = some x) (ke : Z l C mi m_M_clean 3 138 [(0, vr (some y0)), (1, vi x.1)] [] x.2 none h') : Z l C mi m_M_clean 3 8 [(0, vr (some y0)), (1, vi s.1), (2, vi s.2.1)] [] s.2.2 none h' := zzl_M_clean_8 FU s x hl ke
theorem kl_M_clean_8 {C : Ct} {mi : Nat} {y0 : Nat} {s : Int32 × Int32 × Hp} {q : (Int32 × Hp)} (hl : l_M_clean_8 y0 s = some q) : Keep W_M_clean s.2.2 ((fun x : Int32 × Hp => x.2) q) := lpk (sh := (fun s : Int32 × Int32 × Hp => s.2.2)) (rh := (fun x : Int32 × Hp => x.2)) (fun s q hb => kb_M_clean_8 (C := C) (mi := mi) hb) FU s q hl
def f_M_clean (a0 : Nat) (h : Hp) : Option Hp :=
  gd (isK h a0 8) (cv (f_M_markKept a0 h) fun h2 => bd (l_M_clean_8 a0 ((0 : Int32), (0 : Int32), h2)) fun x78 => gd (isK x78.2 a0 8) (nm (wI x78.2 a0 25 x78.1) fun h82 => some h82))
set_option maxRecDepth 100000 in
set_option maxHeartbeats 4000000 in
theorem zf_M_clean {l : Launch} {C : Ct} {mi : Nat} {a0 : Nat} {h h' : Hp} (hf : f_M_clean a0 h = some h') : Z l C mi m_M_clean 3 0 [(0, vr (some a0))] [] h none h' := by
  unfold f_M_clean at hf
  refine z_aload_n 0 d_M_clean_0 rfl rfl ?_
  obtain ⟨g1, hf⟩ := gd_some hf
  obtain ⟨h2, ec3, hf⟩ := cv_some hf
  refine z_callVx rfl (c_M_markKept ec3) d_M_clean_1 cw_M_markKept lk_M_187 im_M_markKept se_M_markKept (kc_K (isK_eq g1) kc_8) ⟨by decide, by decide⟩ (Nat.le_of_ble_eq_true rfl) rfl ?_
  refine z_iconst (v := (0 : Int32)) d_M_clean_4 (by decide) ?_
  refine z_istore_n (ls2 := [(1, vi (0 : Int32)), (0, vr (some a0))]) d_M_clean_5 rfl (by decide) rfl ?_
  refine z_iconst (v := (0 : Int32)) d_M_clean_6 (by decide) ?_
  refine z_istore_n (ls2 := [(2, vi (0 : Int32)), (1, vi (0 : Int32)), (0, vr (some a0))]) d_M_clean_7 rfl (by decide) rfl ?_
  obtain ⟨x78, el79, hf⟩ := bd_some hf
  refine z_ls [2, 1, 0] rfl ?_
  refine zl_M_clean_8 el79 ?_
  refine z_aload_n 0 d_M_clean_138 rfl rfl ?_
  refine z_iload_n 1 d_M_clean_139 rfl rfl ?_
  obtain ⟨g81, hf⟩ := gd_some hf
  obtain ⟨h82, eh83, hf⟩ := nm_some hf
  refine z_putI d_M_clean_140 (fl_K (isK_eq g81) fl_M_153_8) (pu_K (isK_eq g81) (fun q hq => by cases (Option.some.inj hq); exact Or.inl rfl)) (fi_K (isK_eq g81) rfl) rfl ?_
  refine z_hp eh83 ?_
  cases (Option.some.inj hf)
  exact z_ret d_M_clean_143 rfl
set_option maxRecDepth 100000 in
set_option maxHeartbeats 4000000 in
theorem fr_M_clean {C : Ct} {mi : Nat} {a0 : Nat} {h h' : Hp} (hf : f_M_clean a0 h = some h') : Keep W_M_clean h h' := by
  unfold f_M_clean at hf
  obtain ⟨g1, hf⟩ := gd_some hf
  obtain ⟨h2, ec3, hf⟩ := cv_some hf
  have K4 := (Keep.refl W_M_clean _).trans ((fr_M_markKept (C := C) (mi := mi) ec3).mono (by decide) (by decide))
  obtain ⟨x78, el79, hf⟩ := bd_some hf
  have K80 := K4.trans (kl_M_clean_8 (C := C) (mi := mi) el79)
  obtain ⟨g81, hf⟩ := gd_some hf
  obtain ⟨h82, eh83, hf⟩ := nm_some hf
  have K84 := K80.trans (kw_I eh83 (isK_eq g81) (Or.inl (by decide)))
  cases (Option.some.inj hf)
  exact K84
theorem c_M_clean {l : Launch} {C : Ct} {mi : Nat} {a0 : Nat} {h h' : Hp} (hf : f_M_clean a0 h = some h') : Mt l C mi m_M_clean 3 [vr (some a0)] h none h' := mt_V rfl rfl (by decide) (Nat.le_of_ble_eq_true rfl) (zf_M_clean hf)
-- VersionMapsModel.sync()I
def m_M_sync : Mi := (⟨"VersionMapsModel", "sync", "()I"⟩, prog_11_method_36_code, 2, (Option.some Jvm.ClassFile.FieldType.int), .ireturn)
theorem cw_M_sync : cw_ok m_M_sync 0 := ⟨by decide +kernel, by decide +kernel, by decide +kernel, by decide +kernel⟩
theorem im_M_sync : Cond.instanceMethod m_M_sync.1 ∈ lw_w := by decide +kernel
theorem se_M_sync : Cond.selects "VersionMapsModel" m_M_sync.1 m_M_sync.1 ∈ lw_w := by decide +kernel
theorem d_M_sync_0 : decode prog_11_method_36_code 0 = .ok (.aload_n 0, 1) := by decide +kernel
theorem d_M_sync_1 : decode prog_11_method_36_code 1 = .ok (.getfield 156, 3) := by decide +kernel
theorem d_M_sync_4 : decode prog_11_method_36_code 4 = .ok (.istore_n 1, 1) := by decide +kernel
theorem d_M_sync_5 : decode prog_11_method_36_code 5 = .ok (.aload_n 0, 1) := by decide +kernel
theorem d_M_sync_6 : decode prog_11_method_36_code 6 = .ok (.invokevirtual 193, 3) := by decide +kernel
theorem d_M_sync_9 : decode prog_11_method_36_code 9 = .ok (.aload_n 0, 1) := by decide +kernel
theorem d_M_sync_10 : decode prog_11_method_36_code 10 = .ok (.invokevirtual 196, 3) := by decide +kernel
theorem d_M_sync_13 : decode prog_11_method_36_code 13 = .ok (.iload_n 1, 1) := by decide +kernel
theorem d_M_sync_14 : decode prog_11_method_36_code 14 = .ok (.ireturn, 1) := by decide +kernel
def W_M_sync : Wl := ([(8, 19), (8, 25)], [87, 90, 91, 93, 94, 95, 96, 97, 98])
def f_M_sync (a0 : Nat) (h : Hp) : Option (Int32 × Hp) :=
  gd (isK h a0 8) (cv (f_M_keepAll a0 h) fun h2 => gd (isK h2 a0 8) (cv (f_M_clean a0 h2) fun h6 => some ((hpI h a0 19), h6)))
set_option maxRecDepth 100000 in
set_option maxHeartbeats 4000000 in
theorem zf_M_sync {l : Launch} {C : Ct} {mi : Nat} {a0 : Nat} {h h' : Hp} {v : Int32} (hf : f_M_sync a0 h = some (v, h')) : Z l C mi m_M_sync 4 0 [(0, vr (some a0))] [] h (some (vi v)) h' := by
  unfold f_M_sync at hf
  refine z_aload_n 0 d_M_sync_0 rfl rfl ?_
  obtain ⟨g1, hf⟩ := gd_some hf
  refine z_getI d_M_sync_1 (fl_K (isK_eq g1) fl_M_156_8) (fi_K (isK_eq g1) rfl) rfl ?_
  refine z_istore_n (ls2 := [(1, vi (hpI h a0 19)), (0, vr (some a0))]) d_M_sync_4 rfl (by decide) rfl ?_
  refine z_aload_n 1 d_M_sync_5 rfl rfl ?_
  obtain ⟨h2, ec3, hf⟩ := cv_some hf
  refine z_callVx rfl (c_M_keepAll ec3) d_M_sync_6 cw_M_keepAll lk_M_193 im_M_keepAll se_M_keepAll (kc_K (isK_eq g1) kc_8) ⟨by decide, by decide⟩ (Nat.le_of_ble_eq_true rfl) rfl ?_
  refine z_aload_n 1 d_M_sync_9 rfl rfl ?_
  obtain ⟨g5, hf⟩ := gd_some hf
  obtain ⟨h6, ec7, hf⟩ := cv_some hf
  refine z_callVx rfl (c_M_clean ec7) d_M_sync_10 cw_M_clean lk_M_196 im_M_clean se_M_clean (kc_K (isK_eq g5) kc_8) ⟨by decide, by decide⟩ (Nat.le_of_ble_eq_true rfl) rfl ?_
  refine z_iload_n 0 d_M_sync_13 rfl rfl ?_
  obtain ⟨rfl, rfl⟩ := Prod.mk.inj (Option.some.inj hf)
  exact z_ret d_M_sync_14 rfl
set_option maxRecDepth 100000 in
set_option maxHeartbeats 4000000 in
theorem fr_M_sync {C : Ct} {mi : Nat} {a0 : Nat} {h h' : Hp} {v : Int32} (hf : f_M_sync a0 h = some (v, h')) : Keep W_M_sync h h' := by
  unfold f_M_sync at hf
  obtain ⟨g1, hf⟩ := gd_some hf
  obtain ⟨h2, ec3, hf⟩ := cv_some hf
  have K4 := (Keep.refl W_M_sync _).trans ((fr_M_keepAll (C := C) (mi := mi) ec3).mono (by decide) (by decide))
  obtain ⟨g5, hf⟩ := gd_some hf
  obtain ⟨h6, ec7, hf⟩ := cv_some hf
  have K8 := K4.trans ((fr_M_clean (C := C) (mi := mi) ec7).mono (by decide) (by decide))
  obtain ⟨rfl, rfl⟩ := Prod.mk.inj (Option.some.inj hf)
  exact K8
theorem c_M_sync {l : Launch} {C : Ct} {mi : Nat} {a0 : Nat} {h h' : Hp} {v : Int32} (hf : f_M_sync a0 h = some (v, h')) : Mt l C mi m_M_sync 4 [vr (some a0)] h (some (vi v)) h' := mt_I (ty := .int) rfl rfl rfl (by decide) (Nat.le_of_ble_eq_true rfl) (zf_M_sync hf)
-- VersionMapsModel.compact(I)I
def m_M_compact : Mi := (⟨"VersionMapsModel", "compact", "(I)I"⟩, prog_11_method_37_code, 8, (Option.some Jvm.ClassFile.FieldType.int), .ireturn)
theorem cw_M_compact : cw_ok m_M_compact 1 := ⟨by decide +kernel, by decide +kernel, by decide +kernel, by decide +kernel⟩
theorem im_M_compact : Cond.instanceMethod m_M_compact.1 ∈ lw_w := by decide +kernel
theorem se_M_compact : Cond.selects "VersionMapsModel" m_M_compact.1 m_M_compact.1 ∈ lw_w := by decide +kernel
theorem d_M_compact_0 : decode prog_11_method_37_code 0 = .ok (.iload_n 1, 1) := by decide +kernel
theorem d_M_compact_1 : decode prog_11_method_37_code 1 = .ok (.iconst 1, 1) := by decide +kernel
theorem d_M_compact_2 : decode prog_11_method_37_code 2 = .ok (.isub, 1) := by decide +kernel
theorem d_M_compact_3 : decode prog_11_method_37_code 3 = .ok (.bipush 64, 2) := by decide +kernel
theorem d_M_compact_5 : decode prog_11_method_37_code 5 = .ok (.invokestatic 125, 3) := by decide +kernel
theorem d_M_compact_8 : decode prog_11_method_37_code 8 = .ok (.ifCond .ne 5, 3) := by decide +kernel
theorem d_M_compact_11 : decode prog_11_method_37_code 11 = .ok (.iconst (-1), 1) := by decide +kernel
theorem d_M_compact_12 : decode prog_11_method_37_code 12 = .ok (.ireturn, 1) := by decide +kernel
theorem d_M_compact_13 : decode prog_11_method_37_code 13 = .ok (.aload_n 0, 1) := by decide +kernel
theorem d_M_compact_14 : decode prog_11_method_37_code 14 = .ok (.invokevirtual 187, 3) := by decide +kernel
theorem d_M_compact_17 : decode prog_11_method_37_code 17 = .ok (.iconst (-1), 1) := by decide +kernel
theorem d_M_compact_18 : decode prog_11_method_37_code 18 = .ok (.istore_n 2, 1) := by decide +kernel
theorem d_M_compact_19 : decode prog_11_method_37_code 19 = .ok (.iload_n 1, 1) := by decide +kernel
theorem d_M_compact_20 : decode prog_11_method_37_code 20 = .ok (.istore_n 3, 1) := by decide +kernel
theorem d_M_compact_21 : decode prog_11_method_37_code 21 = .ok (.aload_n 0, 1) := by decide +kernel
theorem d_M_compact_22 : decode prog_11_method_37_code 22 = .ok (.getfield 93, 3) := by decide +kernel
theorem d_M_compact_25 : decode prog_11_method_37_code 25 = .ok (.aload_n 0, 1) := by decide +kernel
theorem d_M_compact_26 : decode prog_11_method_37_code 26 = .ok (.aload_n 0, 1) := by decide +kernel
theorem d_M_compact_27 : decode prog_11_method_37_code 27 = .ok (.getfield 119, 3) := by decide +kernel
theorem d_M_compact_30 : decode prog_11_method_37_code 30 = .ok (.invokevirtual 133, 3) := by decide +kernel
theorem d_M_compact_33 : decode prog_11_method_37_code 33 = .ok (.iaload, 1) := by decide +kernel
theorem d_M_compact_34 : decode prog_11_method_37_code 34 = .ok (.bipush 32, 2) := by decide +kernel
theorem d_M_compact_36 : decode prog_11_method_37_code 36 = .ok (.idiv, 1) := by decide +kernel
theorem d_M_compact_37 : decode prog_11_method_37_code 37 = .ok (.istore 4, 2) := by decide +kernel
theorem d_M_compact_39 : decode prog_11_method_37_code 39 = .ok (.iconst 0, 1) := by decide +kernel
theorem d_M_compact_40 : decode prog_11_method_37_code 40 = .ok (.istore 5, 2) := by decide +kernel
theorem d_M_compact_42 : decode prog_11_method_37_code 42 = .ok (.iload 5, 2) := by decide +kernel
theorem d_M_compact_44 : decode prog_11_method_37_code 44 = .ok (.aload_n 0, 1) := by decide +kernel
theorem d_M_compact_45 : decode prog_11_method_37_code 45 = .ok (.getfield 153, 3) := by decide +kernel
theorem d_M_compact_48 : decode prog_11_method_37_code 48 = .ok (.if_icmp .ge 64, 3) := by decide +kernel
theorem d_M_compact_51 : decode prog_11_method_37_code 51 = .ok (.aload_n 0, 1) := by decide +kernel
theorem d_M_compact_52 : decode prog_11_method_37_code 52 = .ok (.iload 5, 2) := by decide +kernel
theorem d_M_compact_54 : decode prog_11_method_37_code 54 = .ok (.invokevirtual 190, 3) := by decide +kernel
theorem d_M_compact_57 : decode prog_11_method_37_code 57 = .ok (.istore 6, 2) := by decide +kernel
theorem d_M_compact_59 : decode prog_11_method_37_code 59 = .ok (.bipush 64, 2) := by decide +kernel
theorem d_M_compact_61 : decode prog_11_method_37_code 61 = .ok (.iload 6, 2) := by decide +kernel
theorem d_M_compact_63 : decode prog_11_method_37_code 63 = .ok (.imul, 1) := by decide +kernel
theorem d_M_compact_64 : decode prog_11_method_37_code 64 = .ok (.aload_n 0, 1) := by decide +kernel
theorem d_M_compact_65 : decode prog_11_method_37_code 65 = .ok (.getfield 77, 3) := by decide +kernel
theorem d_M_compact_68 : decode prog_11_method_37_code 68 = .ok (.iload 5, 2) := by decide +kernel
theorem d_M_compact_70 : decode prog_11_method_37_code 70 = .ok (.iaload, 1) := by decide +kernel
theorem d_M_compact_71 : decode prog_11_method_37_code 71 = .ok (.idiv, 1) := by decide +kernel
theorem d_M_compact_72 : decode prog_11_method_37_code 72 = .ok (.istore 7, 2) := by decide +kernel
theorem d_M_compact_74 : decode prog_11_method_37_code 74 = .ok (.iload 6, 2) := by decide +kernel
theorem d_M_compact_76 : decode prog_11_method_37_code 76 = .ok (.ifCond .eq 30, 3) := by decide +kernel
theorem d_M_compact_79 : decode prog_11_method_37_code 79 = .ok (.aload_n 0, 1) := by decide +kernel
theorem d_M_compact_80 : decode prog_11_method_37_code 80 = .ok (.getfield 68, 3) := by decide +kernel
theorem d_M_compact_83 : decode prog_11_method_37_code 83 = .ok (.iload 5, 2) := by decide +kernel
theorem d_M_compact_85 : decode prog_11_method_37_code 85 = .ok (.iaload, 1) := by decide +kernel
theorem d_M_compact_86 : decode prog_11_method_37_code 86 = .ok (.iload 4, 2) := by decide +kernel
theorem d_M_compact_88 : decode prog_11_method_37_code 88 = .ok (.if_icmp .eq 18, 3) := by decide +kernel
theorem d_M_compact_91 : decode prog_11_method_37_code 91 = .ok (.iload 7, 2) := by decide +kernel
theorem d_M_compact_93 : decode prog_11_method_37_code 93 = .ok (.iload_n 3, 1) := by decide +kernel
theorem d_M_compact_94 : decode prog_11_method_37_code 94 = .ok (.if_icmp .lt 6, 3) := by decide +kernel
theorem d_M_compact_97 : decode prog_11_method_37_code 97 = .ok (.goto 9, 3) := by decide +kernel
theorem d_M_compact_100 : decode prog_11_method_37_code 100 = .ok (.iload 7, 2) := by decide +kernel
theorem d_M_compact_102 : decode prog_11_method_37_code 102 = .ok (.istore_n 3, 1) := by decide +kernel
theorem d_M_compact_103 : decode prog_11_method_37_code 103 = .ok (.iload 5, 2) := by decide +kernel
theorem d_M_compact_105 : decode prog_11_method_37_code 105 = .ok (.istore_n 2, 1) := by decide +kernel
theorem d_M_compact_106 : decode prog_11_method_37_code 106 = .ok (.iinc 5 1, 3) := by decide +kernel
theorem d_M_compact_109 : decode prog_11_method_37_code 109 = .ok (.goto (-67), 3) := by decide +kernel
theorem d_M_compact_112 : decode prog_11_method_37_code 112 = .ok (.iload_n 2, 1) := by decide +kernel
theorem d_M_compact_113 : decode prog_11_method_37_code 113 = .ok (.ifCond .ge 6, 3) := by decide +kernel
theorem d_M_compact_116 : decode prog_11_method_37_code 116 = .ok (.bipush (-3), 2) := by decide +kernel
theorem d_M_compact_118 : decode prog_11_method_37_code 118 = .ok (.ireturn, 1) := by decide +kernel
theorem d_M_compact_119 : decode prog_11_method_37_code 119 = .ok (.aload_n 0, 1) := by decide +kernel
theorem d_M_compact_120 : decode prog_11_method_37_code 120 = .ok (.invokevirtual 112, 3) := by decide +kernel
theorem d_M_compact_123 : decode prog_11_method_37_code 123 = .ok (.aload_n 0, 1) := by decide +kernel
theorem d_M_compact_124 : decode prog_11_method_37_code 124 = .ok (.aload_n 0, 1) := by decide +kernel
theorem d_M_compact_125 : decode prog_11_method_37_code 125 = .ok (.getfield 93, 3) := by decide +kernel
theorem d_M_compact_128 : decode prog_11_method_37_code 128 = .ok (.aload_n 0, 1) := by decide +kernel
theorem d_M_compact_129 : decode prog_11_method_37_code 129 = .ok (.aload_n 0, 1) := by decide +kernel
theorem d_M_compact_130 : decode prog_11_method_37_code 130 = .ok (.getfield 119, 3) := by decide +kernel
theorem d_M_compact_133 : decode prog_11_method_37_code 133 = .ok (.invokevirtual 133, 3) := by decide +kernel
theorem d_M_compact_136 : decode prog_11_method_37_code 136 = .ok (.iaload, 1) := by decide +kernel
theorem d_M_compact_137 : decode prog_11_method_37_code 137 = .ok (.invokevirtual 115, 3) := by decide +kernel
theorem d_M_compact_140 : decode prog_11_method_37_code 140 = .ok (.iconst 0, 1) := by decide +kernel
theorem d_M_compact_141 : decode prog_11_method_37_code 141 = .ok (.istore 5, 2) := by decide +kernel
theorem d_M_compact_143 : decode prog_11_method_37_code 143 = .ok (.iconst 0, 1) := by decide +kernel
theorem d_M_compact_144 : decode prog_11_method_37_code 144 = .ok (.istore 6, 2) := by decide +kernel
theorem d_M_compact_146 : decode prog_11_method_37_code 146 = .ok (.iload 6, 2) := by decide +kernel
theorem d_M_compact_148 : decode prog_11_method_37_code 148 = .ok (.sipush 160, 3) := by decide +kernel
theorem d_M_compact_151 : decode prog_11_method_37_code 151 = .ok (.if_icmp .ge 101, 3) := by decide +kernel
theorem d_M_compact_154 : decode prog_11_method_37_code 154 = .ok (.aload_n 0, 1) := by decide +kernel
theorem d_M_compact_155 : decode prog_11_method_37_code 155 = .ok (.getfield 23, 3) := by decide +kernel
theorem d_M_compact_158 : decode prog_11_method_37_code 158 = .ok (.iload 6, 2) := by decide +kernel
theorem d_M_compact_160 : decode prog_11_method_37_code 160 = .ok (.iaload, 1) := by decide +kernel
theorem d_M_compact_161 : decode prog_11_method_37_code 161 = .ok (.aload_n 0, 1) := by decide +kernel
theorem d_M_compact_162 : decode prog_11_method_37_code 162 = .ok (.getfield 68, 3) := by decide +kernel
theorem d_M_compact_165 : decode prog_11_method_37_code 165 = .ok (.iload_n 2, 1) := by decide +kernel
theorem d_M_compact_166 : decode prog_11_method_37_code 166 = .ok (.iaload, 1) := by decide +kernel
theorem d_M_compact_167 : decode prog_11_method_37_code 167 = .ok (.if_icmp .ne 79, 3) := by decide +kernel
theorem d_M_compact_170 : decode prog_11_method_37_code 170 = .ok (.aload_n 0, 1) := by decide +kernel
theorem d_M_compact_171 : decode prog_11_method_37_code 171 = .ok (.getfield 47, 3) := by decide +kernel
theorem d_M_compact_174 : decode prog_11_method_37_code 174 = .ok (.iload 6, 2) := by decide +kernel
theorem d_M_compact_176 : decode prog_11_method_37_code 176 = .ok (.baload, 1) := by decide +kernel
theorem d_M_compact_177 : decode prog_11_method_37_code 177 = .ok (.ifCond .eq 69, 3) := by decide +kernel
theorem d_M_compact_180 : decode prog_11_method_37_code 180 = .ok (.aload_n 0, 1) := by decide +kernel
theorem d_M_compact_181 : decode prog_11_method_37_code 181 = .ok (.getfield 29, 3) := by decide +kernel
theorem d_M_compact_184 : decode prog_11_method_37_code 184 = .ok (.iload 6, 2) := by decide +kernel
theorem d_M_compact_186 : decode prog_11_method_37_code 186 = .ok (.iaload, 1) := by decide +kernel
theorem d_M_compact_187 : decode prog_11_method_37_code 187 = .ok (.iconst 2, 1) := by decide +kernel
theorem d_M_compact_188 : decode prog_11_method_37_code 188 = .ok (.if_icmp .ne 6, 3) := by decide +kernel
theorem d_M_compact_191 : decode prog_11_method_37_code 191 = .ok (.goto 55, 3) := by decide +kernel
theorem d_M_compact_194 : decode prog_11_method_37_code 194 = .ok (.iinc 5 1, 3) := by decide +kernel
theorem d_M_compact_197 : decode prog_11_method_37_code 197 = .ok (.aload_n 0, 1) := by decide +kernel
theorem d_M_compact_198 : decode prog_11_method_37_code 198 = .ok (.getfield 29, 3) := by decide +kernel
theorem d_M_compact_201 : decode prog_11_method_37_code 201 = .ok (.iload 6, 2) := by decide +kernel
theorem d_M_compact_203 : decode prog_11_method_37_code 203 = .ok (.iaload, 1) := by decide +kernel
theorem d_M_compact_204 : decode prog_11_method_37_code 204 = .ok (.ifCond .ne 29, 3) := by decide +kernel
theorem d_M_compact_207 : decode prog_11_method_37_code 207 = .ok (.aload_n 0, 1) := by decide +kernel
theorem d_M_compact_208 : decode prog_11_method_37_code 208 = .ok (.getfield 13, 3) := by decide +kernel
theorem d_M_compact_211 : decode prog_11_method_37_code 211 = .ok (.iconst 4, 1) := by decide +kernel
theorem d_M_compact_212 : decode prog_11_method_37_code 212 = .ok (.aload_n 0, 1) := by decide +kernel
theorem d_M_compact_213 : decode prog_11_method_37_code 213 = .ok (.getfield 32, 3) := by decide +kernel
theorem d_M_compact_216 : decode prog_11_method_37_code 216 = .ok (.iload 6, 2) := by decide +kernel
theorem d_M_compact_218 : decode prog_11_method_37_code 218 = .ok (.iaload, 1) := by decide +kernel
theorem d_M_compact_219 : decode prog_11_method_37_code 219 = .ok (.imul, 1) := by decide +kernel
theorem d_M_compact_220 : decode prog_11_method_37_code 220 = .ok (.aload_n 0, 1) := by decide +kernel
theorem d_M_compact_221 : decode prog_11_method_37_code 221 = .ok (.getfield 35, 3) := by decide +kernel
theorem d_M_compact_224 : decode prog_11_method_37_code 224 = .ok (.iload 6, 2) := by decide +kernel
theorem d_M_compact_226 : decode prog_11_method_37_code 226 = .ok (.iaload, 1) := by decide +kernel
theorem d_M_compact_227 : decode prog_11_method_37_code 227 = .ok (.iadd, 1) := by decide +kernel
theorem d_M_compact_228 : decode prog_11_method_37_code 228 = .ok (.iconst 1, 1) := by decide +kernel
theorem d_M_compact_229 : decode prog_11_method_37_code 229 = .ok (.bastore, 1) := by decide +kernel
theorem d_M_compact_230 : decode prog_11_method_37_code 230 = .ok (.goto 16, 3) := by decide +kernel
theorem d_M_compact_233 : decode prog_11_method_37_code 233 = .ok (.aload_n 0, 1) := by decide +kernel
theorem d_M_compact_234 : decode prog_11_method_37_code 234 = .ok (.getfield 16, 3) := by decide +kernel
theorem d_M_compact_237 : decode prog_11_method_37_code 237 = .ok (.aload_n 0, 1) := by decide +kernel
theorem d_M_compact_238 : decode prog_11_method_37_code 238 = .ok (.getfield 32, 3) := by decide +kernel
theorem d_M_compact_241 : decode prog_11_method_37_code 241 = .ok (.iload 6, 2) := by decide +kernel
theorem d_M_compact_243 : decode prog_11_method_37_code 243 = .ok (.iaload, 1) := by decide +kernel
theorem d_M_compact_244 : decode prog_11_method_37_code 244 = .ok (.iconst 1, 1) := by decide +kernel
theorem d_M_compact_245 : decode prog_11_method_37_code 245 = .ok (.bastore, 1) := by decide +kernel
theorem d_M_compact_246 : decode prog_11_method_37_code 246 = .ok (.iinc 6 1, 3) := by decide +kernel
theorem d_M_compact_249 : decode prog_11_method_37_code 249 = .ok (.goto (-103), 3) := by decide +kernel
theorem d_M_compact_252 : decode prog_11_method_37_code 252 = .ok (.iload 5, 2) := by decide +kernel
theorem d_M_compact_254 : decode prog_11_method_37_code 254 = .ok (.ireturn, 1) := by decide +kernel
def W_M_compact : Wl := ([], [76, 77, 87])
def b_M_compact_42 (y0 : Nat) (y2 : Int32) (y3 : Int32) (y4 : Int32) (y5 : Int32) (h : Hp) : Option ((Int32 × Int32 × Int32 × Hp) ⊕ (Int32 × Hp)) :=
  gd (isK h y0 8) (if (hpI h y0 25) ≤ y5 then (some (.inr (y2, h))) else (cl (f_M_liveOf y0 y5 h) fun v23 h21 => gd (isK h21 y0 8) (dr (hpR h21 y0 23) fun a26 => gd (isK h21 a26 97) (gd (inb y5 (hpL h21 a26)) (gd (!decide ((hpI h21 a26 y5.toNatClampNeg) = 0)) (nm ((((nI 64) * v23) / (hpI h21 a26 y5.toNatClampNeg))) fun x31 => if v23 = 0 then (some (.inl (y2, y3, (y5 + (1 : Int32)), h21))) else (dr (hpR h21 y0 20) fun a34 => gd (isK h21 a34 94) (gd (inb y5 (hpL h21 a34)) (if (hpI h21 a34 y5.toNatClampNeg) = y4 then (some (.inl (y2, y3, (y5 + (1 : Int32)), h21))) else (if x31 < y3 then (some (.inl (y5, x31, (y5 + (1 : Int32)), h21))) else (some (.inl (y2, y3, (y5 + (1 : Int32)), h21)))))))))))))
set_option maxRecDepth 100000 in
set_option maxHeartbeats 4000000 in
theorem zb_M_compact_42 {l : Launch} {C : Ct} {mi : Nat} {y0 : Nat} {y2 : Int32} {y3 : Int32} {y4 : Int32} {y5 : Int32} {h h' : Hp} {v : Int32} {q : ((Int32 × Int32 × Int32 × Hp) ⊕ (Int32 × Hp))} (hf : b_M_compact_42 y0 y2 y3 y4 y5 h = some q) (kc : ∀ s, q = .inl s → Z l C mi m_M_compact 3 42 [(0, vr (some y0)), (2, vi s.1), (3, vi s.2.1), (4, vi y4), (5, vi s.2.2.1)] [] s.2.2.2 (some (vi v)) h') (ke : ∀ x, q = .inr x → Z l C mi m_M_compact 3 112 [(0, vr (some y0)), (2, vi x.1)] [] x.2 (some (vi v)) h') : Z l C mi m_M_compact 3 42 [(0, vr (some y0)), (2, vi y2), (3, vi y3), (4, vi y4), (5, vi y5)] [] h (some (vi v)) h' := by
  unfold b_M_compact_42 at hf
  refine z_iload 4 d_M_compact_42 rfl ?_
  refine z_aload_n 0 d_M_compact_44 rfl rfl ?_
  obtain ⟨g19, hf⟩ := gd_some hf
  refine z_getI d_M_compact_45 (fl_K (isK_eq g19) fl_M_153_8) (fi_K (isK_eq g19) rfl) rfl ?_
  refine z_icmp_ge (tgt := 112) d_M_compact_48 (by decide) (fun c20 => ?_) (fun c20 => ?_)
  · rw [if_pos c20] at hf
    refine z_ls [0, 1] rfl ?_
    exact ke (y2, h) (Option.some.inj hf).symm
  · rw [if_neg c20] at hf
    refine z_aload_n 0 d_M_compact_51 rfl rfl ?_
    refine z_iload 4 d_M_compact_52 rfl ?_
    obtain ⟨v23, h21, ec22, hf⟩ := cl_some hf
    refine z_callVx rfl (c_M_liveOf ec22) d_M_compact_54 cw_M_liveOf lk_M_190 im_M_liveOf se_M_liveOf (kc_K (isK_eq g19) kc_8) ⟨by decide, by decide⟩ (Nat.le_of_ble_eq_true rfl) rfl ?_
    refine z_istore (ls2 := [(6, vi v23), (0, vr (some y0)), (2, vi y2), (3, vi y3), (4, vi y4), (5, vi y5)]) d_M_compact_57 (by decide) rfl ?_
    refine z_bipush (v := (nI 64)) d_M_compact_59 (by decide) ?_
    refine z_iload 0 d_M_compact_61 rfl ?_
    refine z_imul d_M_compact_63 ?_
    refine z_aload_n 1 d_M_compact_64 rfl rfl ?_
    obtain ⟨g25, hf⟩ := gd_some hf
    refine z_getR d_M_compact_65 (fl_K (isK_eq g25) fl_M_77_8) (fi_K (isK_eq g25) rfl) rfl ?_
    refine z_iload 5 d_M_compact_68 rfl ?_
    obtain ⟨a26, e27, hf⟩ := dr_some hf
    obtain ⟨g28, hf⟩ := gd_some hf
    obtain ⟨g29, hf⟩ := gd_some hf
    refine z_iald d_M_compact_70 e27 (by rw [isK_eq g28]; decide) (by rw [isK_eq g28]; rfl) (inb_vp g29) ?_
    obtain ⟨g30, hf⟩ := gd_some hf
    refine z_idiv d_M_compact_71 (by simpa using g30) ?_
    obtain ⟨x31, ex32, hf⟩ := nm_some hf
    refine z_topi ex32 ?_
    refine z_istore (ls2 := [(7, vi x31), (6, vi v23), (0, vr (some y0)), (2, vi y2), (3, vi y3), (4, vi y4), (5, vi y5)]) d_M_compact_72 (by decide) rfl ?_
    refine z_iload 1 d_M_compact_74 rfl ?_
    refine z_if_eq (tgt := 106) d_M_compact_76 (by decide) (fun c33 => ?_) (fun c33 => ?_)
    · rw [if_pos c33] at hf
      refine z_iinc (ls2 := [(5, vi (y5 + (1 : Int32))), (7, vi x31), (6, vi v23), (0, vr (some y0)), (2, vi y2), (3, vi y3), (4, vi y4)]) 6 d_M_compact_106 rfl rfl (by decide) rfl ?_
      refine z_goto (tgt := 42) d_M_compact_109 (by decide) ?_
      refine z_ls [3, 4, 5, 6, 0] rfl ?_
      exact kc (y2, y3, (y5 + (1 : Int32)), h21) (Option.some.inj hf).symm
    · rw [if_neg c33] at hf
      refine z_aload_n 2 d_M_compact_79 rfl rfl ?_
      refine z_getR d_M_compact_80 (fl_K (isK_eq g25) fl_M_68_8) (fi_K (isK_eq g25) rfl) rfl ?_
      refine z_iload 6 d_M_compact_83 rfl ?_
      obtain ⟨a34, e35, hf⟩ := dr_some hf
      obtain ⟨g36, hf⟩ := gd_some hf
      obtain ⟨g37, hf⟩ := gd_some hf
      refine z_iald d_M_compact_85 e35 (by rw [isK_eq g36]; decide) (by rw [isK_eq g36]; rfl) (inb_vp g37) ?_
      refine z_iload 5 d_M_compact_86 rfl ?_
      refine z_icmp_eq (tgt := 106) d_M_compact_88 (by decide) (fun c38 => ?_) (fun c38 => ?_)
      · rw [if_pos c38] at hf
        refine z_iinc (ls2 := [(5, vi (y5 + (1 : Int32))), (7, vi x31), (6, vi v23), (0, vr (some y0)), (2, vi y2), (3, vi y3), (4, vi y4)]) 6 d_M_compact_106 rfl rfl (by decide) rfl ?_
        refine z_goto (tgt := 42) d_M_compact_109 (by decide) ?_
        refine z_ls [3, 4, 5, 6, 0] rfl ?_
        exact kc (y2, y3, (y5 + (1 : Int32)), h21) (Option.some.inj hf).symm
      · rw [if_neg c38] at hf
        refine z_iload 0 d_M_compact_91 rfl ?_
        refine z_iload_n 4 d_M_compact_93 rfl rfl ?_
        refine z_icmp_lt (tgt := 100) d_M_compact_94 (by decide) (fun c39 => ?_) (fun c39 => ?_)
        · rw [if_pos c39] at hf
          refine z_iload 0 d_M_compact_100 rfl ?_
          refine z_istore_n (ls2 := [(3, vi x31), (7, vi x31), (6, vi v23), (0, vr (some y0)), (2, vi y2), (4, vi y4), (5, vi y5)]) d_M_compact_102 rfl (by decide) rfl ?_
          refine z_iload 6 d_M_compact_103 rfl ?_
          refine z_istore_n (ls2 := [(2, vi y5), (3, vi x31), (7, vi x31), (6, vi v23), (0, vr (some y0)), (4, vi y4), (5, vi y5)]) d_M_compact_105 rfl (by decide) rfl ?_
          refine z_iinc (ls2 := [(5, vi (y5 + (1 : Int32))), (2, vi y5), (3, vi x31), (7, vi x31), (6, vi v23), (0, vr (some y0)), (4, vi y4)]) 6 d_M_compact_106 rfl rfl (by decide) rfl ?_
          refine z_goto (tgt := 42) d_M_compact_109 (by decide) ?_
          refine z_ls [5, 1, 2, 6, 0] rfl ?_
          exact kc (y5, x31, (y5 + (1 : Int32)), h21) (Option.some.inj hf).symm
        · rw [if_neg c39] at hf
          refine z_goto (tgt := 106) d_M_compact_97 (by decide) ?_
          refine z_iinc (ls2 := [(5, vi (y5 + (1 : Int32))), (7, vi x31), (6, vi v23), (0, vr (some y0)), (2, vi y2), (3, vi y3), (4, vi y4)]) 6 d_M_compact_106 rfl rfl (by decide) rfl ?_
          refine z_goto (tgt := 42) d_M_compact_109 (by decide) ?_
          refine z_ls [3, 4, 5, 6, 0] rfl ?_
          exact kc (y2, y3, (y5 + (1 : Int32)), h21) (Option.some.inj hf).symm
set_option maxRecDepth 100000 in
set_option maxHeartbeats 4000000 in
theorem kb_M_compact_42 {C : Ct} {mi : Nat} {y0 : Nat} {y2 : Int32} {y3 : Int32} {y4 : Int32} {y5 : Int32} {h : Hp} {q : ((Int32 × Int32 × Int32 × Hp) ⊕ (Int32 × Hp))} (hf : b_M_compact_42 y0 y2 y3 y4 y5 h = some q) : Keep W_M_compact h (Sum.elim (fun s : Int32 × Int32 × Int32 × Hp => s.2.2.2) (fun x : Int32 × Hp => x.2) q) := by
  unfold b_M_compact_42 at hf
  obtain ⟨g19, hf⟩ := gd_some hf
  rcases Classical.em ((hpI h y0 25) ≤ y5) with c20 | c20
  · rw [if_pos c20] at hf
    cases (Option.some.inj hf)
    exact (Keep.refl W_M_compact _)
  · rw [if_neg c20] at hf
    obtain ⟨v23, h21, ec22, hf⟩ := cl_some hf
    have K24 := (Keep.refl W_M_compact _).trans ((fr_M_liveOf (C := C) (mi := mi) ec22).mono (by decide) (by decide))
    obtain ⟨g25, hf⟩ := gd_some hf
    obtain ⟨a26, e27, hf⟩ := dr_some hf
    obtain ⟨g28, hf⟩ := gd_some hf
    obtain ⟨g29, hf⟩ := gd_some hf
    obtain ⟨g30, hf⟩ := gd_some hf
    obtain ⟨x31, ex32, hf⟩ := nm_some hf
    rcases Classical.em (v23 = 0) with c33 | c33
    · rw [if_pos c33] at hf
      cases (Option.some.inj hf)
      exact K24
    · rw [if_neg c33] at hf
      obtain ⟨a34, e35, hf⟩ := dr_some hf
      obtain ⟨g36, hf⟩ := gd_some hf
      obtain ⟨g37, hf⟩ := gd_some hf
      rcases Classical.em ((hpI h21 a34 y5.toNatClampNeg) = y4) with c38 | c38
      · rw [if_pos c38] at hf
        cases (Option.some.inj hf)
        exact K24
      · rw [if_neg c38] at hf
        rcases Classical.em (x31 < y3) with c39 | c39
        · rw [if_pos c39] at hf
          cases (Option.some.inj hf)
          exact K24
        · rw [if_neg c39] at hf
          cases (Option.some.inj hf)
          exact K24
def l_M_compact_42 (y0 : Nat) (y4 : Int32) (s : Int32 × Int32 × Int32 × Hp) : Option (Int32 × Hp) := lp (fun s => b_M_compact_42 y0 s.1 s.2.1 y4 s.2.2.1 s.2.2.2) FU s
theorem zzl_M_compact_42 {l : Launch} {C : Ct} {mi : Nat} {y0 : Nat} {y4 : Int32} {h' : Hp} {v : Int32} : ∀ (n : Nat) (s : Int32 × Int32 × Int32 × Hp) (x : (Int32 × Hp)), lp (fun s : Int32 × Int32 × Int32 × Hp => b_M_compact_42 y0 s.1 s.2.1 y4 s.2.2.1 s.2.2.2) n s = some x → Z l C mi m_M_compact 3 112 [(0, vr (some y0)), (2, vi x.1)] [] x.2 (some (vi v)) h' → Z l C mi m_M_compact 3 42 [(0, vr (some y0)), (2, vi s.1), (3, vi s.2.1), (4, vi y4), (5, vi s.2.2.1)] [] s.2.2.2 (some (vi v)) h' := by
  intro n
  induction n with
  | zero => intro s x hl; cases hl
  | succ n ih =>
    intro s x hl ke
    rcases lp_some hl with ⟨s2, hb, hl2⟩ | hb
    · exact zb_M_compact_42 hb (fun s3 e3 => by cases e3; refine z_ls [0, 1, 2, 3, 4] rfl ?_; exact ih s2 x hl2 ke) (fun x e3 => by cases e3)
    · exact zb_M_compact_42 hb (fun s3 e3 => by cases e3) (fun x e3 => by cases e3; exact ke)
theorem zl_M_compact_42 {l : Launch} {C : Ct} {mi : Nat} {y0 : Nat} {y4 : Int32} {h' : Hp} {v : Int32} {s : Int32 × Int32 × Int32 × Hp} {x : (Int32 × Hp)} (hl : l_M_compact_42 y0 y4 s = some x) (ke : Z l C mi m_M_compact 3 112 [(0, vr (some y0)), (2, vi x.1)] [] x.2 (some (vi v)) h') : Z l C mi m_M_compact 3 42 [(0, vr (some y0)), (2, vi s.1), (3, vi s.2.1), (4, vi y4), (5, vi s.2.2.1)] [] s.2.2.2 (some (vi v)) h' := zzl_M_compact_42 FU s x hl ke
theorem kl_M_compact_42 {C : Ct} {mi : Nat} {y0 : Nat} {y4 : Int32} {s : Int32 × Int32 × Int32 × Hp} {q : (Int32 × Hp)} (hl : l_M_compact_42 y0 y4 s = some q) : Keep W_M_compact s.2.2.2 ((fun x : Int32 × Hp => x.2) q) := lpk (sh := (fun s : Int32 × Int32 × Int32 × Hp => s.2.2.2)) (rh := (fun x : Int32 × Hp => x.2)) (fun s q hb => kb_M_compact_42 (C := C) (mi := mi) hb) FU s q hl
def b_M_compact_146 (y0 : Nat) (y2 : Int32) (y5 : Int32) (y6 : Int32) (h : Hp) : Option ((Int32 × Int32 × Hp) ⊕ (Int32 × Hp)) :=
  if (nI 160) ≤ y6 then (some (.inr (y5, h))) else (gd (isK h y0 8) (dr (hpR h y0 4) fun a63 => gd (isK h a63 79) (gd (inb y6 (hpL h a63)) (dr (hpR h y0 20) fun a67 => gd (isK h a67 94) (gd (inb y2 (hpL h a67)) (if (hpI h a63 y6.toNatClampNeg) = (hpI h a67 y2.toNatClampNeg) then (dr (hpR h y0 12) fun a72 => gd (isK h a72 87) (gd (inb y6 (hpL h a72)) (if (hpI h a72 y6.toNatClampNeg) = 0 then (some (.inl (y5, (y6 + (1 : Int32)), h))) else (dr (hpR h y0 6) fun a77 => gd (isK h a77 81) (gd (inb y6 (hpL h a77)) (if (hpI h a77 y6.toNatClampNeg) = (nI 2) then (some (.inl (y5, (y6 + (1 : Int32)), h))) else (if (hpI h a77 y6.toNatClampNeg) = 0 then (dr (hpR h y0 7) fun a94 => gd (isK h a94 82) (gd (inb y6 (hpL h a94)) (dr (hpR h y0 8) fun a98 => gd (isK h a98 83) (gd (inb y6 (hpL h a98)) (dr (hpR h y0 1) fun a102 => gd (isK h a102 76) (gd (inb (((nI 4) * (hpI h a94 y6.toNatClampNeg)) + (hpI h a98 y6.toNatClampNeg)) (hpL h a102)) (nm (wI h a102 (((nI 4) * (hpI h a94 y6.toNatClampNeg)) + (hpI h a98 y6.toNatClampNeg)).toNatClampNeg (vp_nar .boolean (1 : Int32))) fun h106 => some (.inl ((y5 + (1 : Int32)), (y6 + (1 : Int32)), h106))))))))) else (dr (hpR h y0 7) fun a83 => gd (isK h a83 82) (gd (inb y6 (hpL h a83)) (dr (hpR h y0 2) fun a87 => gd (isK h a87 77) (gd (inb (hpI h a83 y6.toNatClampNeg) (hpL h a87)) (nm (wI h a87 (hpI h a83 y6.toNatClampNeg).toNatClampNeg (vp_nar .boolean (1 : Int32))) fun h91 => some (.inl ((y5 + (1 : Int32)), (y6 + (1 : Int32)), h91)))))))))))))) else (some (.inl (y5, (y6 + (1 : Int32)), h)))))))))
set_option maxRecDepth 100000 in
set_option maxHeartbeats 4000000 in
theorem zb_M_compact_146 {l : Launch} {C : Ct} {mi : Nat} {y0 : Nat} {y2 : Int32} {y5 : Int32} {y6 : Int32} {h h' : Hp} {v : Int32} {q : ((Int32 × Int32 × Hp) ⊕ (Int32 × Hp))} (hf : b_M_compact_146 y0 y2 y5 y6 h = some q) (kc : ∀ s, q = .inl s → Z l C mi m_M_compact 3 146 [(0, vr (some y0)), (2, vi y2), (5, vi s.1), (6, vi s.2.1)] [] s.2.2 (some (vi v)) h') (ke : ∀ x, q = .inr x → Z l C mi m_M_compact 3 252 [(5, vi x.1)] [] x.2 (some (vi v)) h') : Z l C mi m_M_compact 3 146 [(0, vr (some y0)), (2, vi y2), (5, vi y5), (6, vi y6)] [] h (some (vi v)) h' := by
  unfold b_M_compact_146 at hf
  refine z_iload 3 d_M_compact_146 rfl ?_
  refine z_sipush (v := (nI 160)) d_M_compact_148 (by decide) ?_
  refine z_icmp_ge (tgt := 252) d_M_compact_151 (by decide) (fun c61 => ?_) (fun c61 => ?_)
  · rw [if_pos c61] at hf
    refine z_ls [2] rfl ?_
    exact ke (y5, h) (Option.some.inj hf).symm
  · rw [if_neg c61] at hf
    refine z_aload_n 0 d_M_compact_154 rfl rfl ?_
    obtain ⟨g62, hf⟩ := gd_some hf
    refine z_getR d_M_compact_155 (fl_K (isK_eq g62) fl_M_23_8) (fi_K (isK_eq g62) rfl) rfl ?_
    refine z_iload 3 d_M_compact_158 rfl ?_
    obtain ⟨a63, e64, hf⟩ := dr_some hf
    obtain ⟨g65, hf⟩ := gd_some hf
    obtain ⟨g66, hf⟩ := gd_some hf
    refine z_iald d_M_compact_160 e64 (by rw [isK_eq g65]; decide) (by rw [isK_eq g65]; rfl) (inb_vp g66) ?_
    refine z_aload_n 0 d_M_compact_161 rfl rfl ?_
    refine z_getR d_M_compact_162 (fl_K (isK_eq g62) fl_M_68_8) (fi_K (isK_eq g62) rfl) rfl ?_
    refine z_iload_n 1 d_M_compact_165 rfl rfl ?_
    obtain ⟨a67, e68, hf⟩ := dr_some hf
    obtain ⟨g69, hf⟩ := gd_some hf
    obtain ⟨g70, hf⟩ := gd_some hf
    refine z_iald d_M_compact_166 e68 (by rw [isK_eq g69]; decide) (by rw [isK_eq g69]; rfl) (inb_vp g70) ?_
    refine z_icmp_ne (tgt := 246) d_M_compact_167 (by decide) (fun c71 => ?_) (fun c71 => ?_)
    · rw [if_neg c71] at hf
      refine z_iinc (ls2 := [(6, vi (y6 + (1 : Int32))), (0, vr (some y0)), (2, vi y2), (5, vi y5)]) 3 d_M_compact_246 rfl rfl (by decide) rfl ?_
      refine z_goto (tgt := 146) d_M_compact_249 (by decide) ?_
      refine z_ls [1, 2, 3, 0] rfl ?_
      exact kc (y5, (y6 + (1 : Int32)), h) (Option.some.inj hf).symm
    · rw [if_pos c71] at hf
      refine z_aload_n 0 d_M_compact_170 rfl rfl ?_
      refine z_getR d_M_compact_171 (fl_K (isK_eq g62) fl_M_47_8) (fi_K (isK_eq g62) rfl) rfl ?_
      refine z_iload 3 d_M_compact_174 rfl ?_
      obtain ⟨a72, e73, hf⟩ := dr_some hf
      obtain ⟨g74, hf⟩ := gd_some hf
      obtain ⟨g75, hf⟩ := gd_some hf
      refine z_zald d_M_compact_176 e73 (by rw [isK_eq g74]; decide) (by rw [isK_eq g74]; rfl) (inb_vp g75) ?_
      refine z_if_eq (tgt := 246) d_M_compact_177 (by decide) (fun c76 => ?_) (fun c76 => ?_)
      · rw [if_pos c76] at hf
        refine z_iinc (ls2 := [(6, vi (y6 + (1 : Int32))), (0, vr (some y0)), (2, vi y2), (5, vi y5)]) 3 d_M_compact_246 rfl rfl (by decide) rfl ?_
        refine z_goto (tgt := 146) d_M_compact_249 (by decide) ?_
        refine z_ls [1, 2, 3, 0] rfl ?_
        exact kc (y5, (y6 + (1 : Int32)), h) (Option.some.inj hf).symm
      · rw [if_neg c76] at hf
        refine z_aload_n 0 d_M_compact_180 rfl rfl ?_
        refine z_getR d_M_compact_181 (fl_K (isK_eq g62) fl_M_29_8) (fi_K (isK_eq g62) rfl) rfl ?_
        refine z_iload 3 d_M_compact_184 rfl ?_
        obtain ⟨a77, e78, hf⟩ := dr_some hf
        obtain ⟨g79, hf⟩ := gd_some hf
        obtain ⟨g80, hf⟩ := gd_some hf
        refine z_iald d_M_compact_186 e78 (by rw [isK_eq g79]; decide) (by rw [isK_eq g79]; rfl) (inb_vp g80) ?_
        refine z_iconst (v := (nI 2)) d_M_compact_187 (by decide) ?_
        refine z_icmp_ne (tgt := 194) d_M_compact_188 (by decide) (fun c81 => ?_) (fun c81 => ?_)
        · rw [if_neg c81] at hf
          refine z_iinc (ls2 := [(5, vi (y5 + (1 : Int32))), (0, vr (some y0)), (2, vi y2), (6, vi y6)]) 2 d_M_compact_194 rfl rfl (by decide) rfl ?_
          refine z_aload_n 1 d_M_compact_197 rfl rfl ?_
          refine z_getR d_M_compact_198 (fl_K (isK_eq g62) fl_M_29_8) (fi_K (isK_eq g62) rfl) rfl ?_
          refine z_iload 3 d_M_compact_201 rfl ?_
          refine z_iald d_M_compact_203 e78 (by rw [isK_eq g79]; decide) (by rw [isK_eq g79]; rfl) (inb_vp g80) ?_
          refine z_if_ne (tgt := 233) d_M_compact_204 (by decide) (fun c82 => ?_) (fun c82 => ?_)
          · rw [if_neg c82] at hf
            refine z_aload_n 1 d_M_compact_233 rfl rfl ?_
            refine z_getR d_M_compact_234 (fl_K (isK_eq g62) fl_M_16_8) (fi_K (isK_eq g62) rfl) rfl ?_
            refine z_aload_n 1 d_M_compact_237 rfl rfl ?_
            refine z_getR d_M_compact_238 (fl_K (isK_eq g62) fl_M_32_8) (fi_K (isK_eq g62) rfl) rfl ?_
            refine z_iload 3 d_M_compact_241 rfl ?_
            obtain ⟨a83, e84, hf⟩ := dr_some hf
            obtain ⟨g85, hf⟩ := gd_some hf
            obtain ⟨g86, hf⟩ := gd_some hf
            refine z_iald d_M_compact_243 e84 (by rw [isK_eq g85]; decide) (by rw [isK_eq g85]; rfl) (inb_vp g86) ?_
            refine z_iconst (v := (1 : Int32)) d_M_compact_244 (by decide) ?_
            obtain ⟨a87, e88, hf⟩ := dr_some hf
            obtain ⟨g89, hf⟩ := gd_some hf
            obtain ⟨g90, hf⟩ := gd_some hf
            obtain ⟨h91, eh92, hf⟩ := nm_some hf
            refine z_zast d_M_compact_245 e88 (by rw [isK_eq g89]; decide) (by rw [isK_eq g89]; rfl) (inb_vp g90) ?_
            refine z_hp eh92 ?_
            refine z_iinc (ls2 := [(6, vi (y6 + (1 : Int32))), (5, vi (y5 + (1 : Int32))), (0, vr (some y0)), (2, vi y2)]) 3 d_M_compact_246 rfl rfl (by decide) rfl ?_
            refine z_goto (tgt := 146) d_M_compact_249 (by decide) ?_
            refine z_ls [2, 3, 1, 0] rfl ?_
            exact kc ((y5 + (1 : Int32)), (y6 + (1 : Int32)), h91) (Option.some.inj hf).symm
          · rw [if_pos c82] at hf
            refine z_aload_n 1 d_M_compact_207 rfl rfl ?_
            refine z_getR d_M_compact_208 (fl_K (isK_eq g62) fl_M_13_8) (fi_K (isK_eq g62) rfl) rfl ?_
            refine z_iconst (v := (nI 4)) d_M_compact_211 (by decide) ?_
            refine z_aload_n 1 d_M_compact_212 rfl rfl ?_
            refine z_getR d_M_compact_213 (fl_K (isK_eq g62) fl_M_32_8) (fi_K (isK_eq g62) rfl) rfl ?_
            refine z_iload 3 d_M_compact_216 rfl ?_
            obtain ⟨a94, e95, hf⟩ := dr_some hf
            obtain ⟨g96, hf⟩ := gd_some hf
            obtain ⟨g97, hf⟩ := gd_some hf
            refine z_iald d_M_compact_218 e95 (by rw [isK_eq g96]; decide) (by rw [isK_eq g96]; rfl) (inb_vp g97) ?_
            refine z_imul d_M_compact_219 ?_
            refine z_aload_n 1 d_M_compact_220 rfl rfl ?_
            refine z_getR d_M_compact_221 (fl_K (isK_eq g62) fl_M_35_8) (fi_K (isK_eq g62) rfl) rfl ?_
            refine z_iload 3 d_M_compact_224 rfl ?_
            obtain ⟨a98, e99, hf⟩ := dr_some hf
            obtain ⟨g100, hf⟩ := gd_some hf
            obtain ⟨g101, hf⟩ := gd_some hf
            refine z_iald d_M_compact_226 e99 (by rw [isK_eq g100]; decide) (by rw [isK_eq g100]; rfl) (inb_vp g101) ?_
            refine z_iadd d_M_compact_227 ?_
            refine z_iconst (v := (1 : Int32)) d_M_compact_228 (by decide) ?_
            obtain ⟨a102, e103, hf⟩ := dr_some hf
            obtain ⟨g104, hf⟩ := gd_some hf
            obtain ⟨g105, hf⟩ := gd_some hf
            obtain ⟨h106, eh107, hf⟩ := nm_some hf
            refine z_zast d_M_compact_229 e103 (by rw [isK_eq g104]; decide) (by rw [isK_eq g104]; rfl) (inb_vp g105) ?_
            refine z_hp eh107 ?_
            refine z_goto (tgt := 246) d_M_compact_230 (by decide) ?_
            refine z_iinc (ls2 := [(6, vi (y6 + (1 : Int32))), (5, vi (y5 + (1 : Int32))), (0, vr (some y0)), (2, vi y2)]) 3 d_M_compact_246 rfl rfl (by decide) rfl ?_
            refine z_goto (tgt := 146) d_M_compact_249 (by decide) ?_
            refine z_ls [2, 3, 1, 0] rfl ?_
            exact kc ((y5 + (1 : Int32)), (y6 + (1 : Int32)), h106) (Option.some.inj hf).symm
        · rw [if_pos c81] at hf
          refine z_goto (tgt := 246) d_M_compact_191 (by decide) ?_
          refine z_iinc (ls2 := [(6, vi (y6 + (1 : Int32))), (0, vr (some y0)), (2, vi y2), (5, vi y5)]) 3 d_M_compact_246 rfl rfl (by decide) rfl ?_
          refine z_goto (tgt := 146) d_M_compact_249 (by decide) ?_
          refine z_ls [1, 2, 3, 0] rfl ?_
          exact kc (y5, (y6 + (1 : Int32)), h) (Option.some.inj hf).symm
set_option maxRecDepth 100000 in
set_option maxHeartbeats 4000000 in
theorem kb_M_compact_146 {C : Ct} {mi : Nat} {y0 : Nat} {y2 : Int32} {y5 : Int32} {y6 : Int32} {h : Hp} {q : ((Int32 × Int32 × Hp) ⊕ (Int32 × Hp))} (hf : b_M_compact_146 y0 y2 y5 y6 h = some q) : Keep W_M_compact h (Sum.elim (fun s : Int32 × Int32 × Hp => s.2.2) (fun x : Int32 × Hp => x.2) q) := by
  unfold b_M_compact_146 at hf
  rcases Classical.em ((nI 160) ≤ y6) with c61 | c61
  · rw [if_pos c61] at hf
    cases (Option.some.inj hf)
    exact (Keep.refl W_M_compact _)
  · rw [if_neg c61] at hf
    obtain ⟨g62, hf⟩ := gd_some hf
    obtain ⟨a63, e64, hf⟩ := dr_some hf
    obtain ⟨g65, hf⟩ := gd_some hf
    obtain ⟨g66, hf⟩ := gd_some hf
    obtain ⟨a67, e68, hf⟩ := dr_some hf
    obtain ⟨g69, hf⟩ := gd_some hf
    obtain ⟨g70, hf⟩ := gd_some hf
    rcases (Classical.em ((hpI h a63 y6.toNatClampNeg) = (hpI h a67 y2.toNatClampNeg))).symm with c71 | c71
    · rw [if_neg c71] at hf
      cases (Option.some.inj hf)
      exact (Keep.refl W_M_compact _)
    · rw [if_pos c71] at hf
      obtain ⟨a72, e73, hf⟩ := dr_some hf
      obtain ⟨g74, hf⟩ := gd_some hf
      obtain ⟨g75, hf⟩ := gd_some hf
      rcases Classical.em ((hpI h a72 y6.toNatClampNeg) = 0) with c76 | c76
      · rw [if_pos c76] at hf
        cases (Option.some.inj hf)
        exact (Keep.refl W_M_compact _)
      · rw [if_neg c76] at hf
        obtain ⟨a77, e78, hf⟩ := dr_some hf
        obtain ⟨g79, hf⟩ := gd_some hf
        obtain ⟨g80, hf⟩ := gd_some hf
        rcases (Classical.em ((hpI h a77 y6.toNatClampNeg) = (nI 2))).symm with c81 | c81
        · rw [if_neg c81] at hf
          rcases (Classical.em ((hpI h a77 y6.toNatClampNeg) = 0)).symm with c82 | c82
          · rw [if_neg c82] at hf
            obtain ⟨a83, e84, hf⟩ := dr_some hf
            obtain ⟨g85, hf⟩ := gd_some hf
            obtain ⟨g86, hf⟩ := gd_some hf
            obtain ⟨a87, e88, hf⟩ := dr_some hf
            obtain ⟨g89, hf⟩ := gd_some hf
            obtain ⟨g90, hf⟩ := gd_some hf
            obtain ⟨h91, eh92, hf⟩ := nm_some hf
            have K93 := (Keep.refl W_M_compact _).trans (kw_I eh92 (isK_eq g89) (Or.inr (by decide)))
            cases (Option.some.inj hf)
            exact K93
          · rw [if_pos c82] at hf
            obtain ⟨a94, e95, hf⟩ := dr_some hf
            obtain ⟨g96, hf⟩ := gd_some hf
            obtain ⟨g97, hf⟩ := gd_some hf
            obtain ⟨a98, e99, hf⟩ := dr_some hf
            obtain ⟨g100, hf⟩ := gd_some hf
            obtain ⟨g101, hf⟩ := gd_some hf
            obtain ⟨a102, e103, hf⟩ := dr_some hf
            obtain ⟨g104, hf⟩ := gd_some hf
            obtain ⟨g105, hf⟩ := gd_some hf
            obtain ⟨h106, eh107, hf⟩ := nm_some hf
            have K108 := (Keep.refl W_M_compact _).trans (kw_I eh107 (isK_eq g104) (Or.inr (by decide)))
            cases (Option.some.inj hf)
            exact K108
        · rw [if_pos c81] at hf
          cases (Option.some.inj hf)
          exact (Keep.refl W_M_compact _)
def l_M_compact_146 (y0 : Nat) (y2 : Int32) (s : Int32 × Int32 × Hp) : Option (Int32 × Hp) := lp (fun s => b_M_compact_146 y0 y2 s.1 s.2.1 s.2.2) FU s
theorem zzl_M_compact_146 {l : Launch} {C : Ct} {mi : Nat} {y0 : Nat} {y2 : Int32} {h' : Hp} {v : Int32} : ∀ (n : Nat) (s : Int32 × Int32 × Hp) (x : (Int32 × Hp)), lp (fun s : Int32 × Int32 × Hp => b_M_compact_146 y0 y2 s.1 s.2.1 s.2.2) n s = some x → Z l C mi m_M_compact 3 252 [(5, vi x.1)] [] x.2 (some (vi v)) h' → Z l C mi m_M_compact 3 146 [(0, vr (some y0)), (2, vi y2), (5, vi s.1), (6, vi s.2.1)] [] s.2.2 (some (vi v)) h' := by
  intro n
  induction n with
  | zero => intro s x hl; cases hl
  | succ n ih =>
    intro s x hl ke
    rcases lp_some hl with ⟨s2, hb, hl2⟩ | hb
    · exact zb_M_compact_146 hb (fun s3 e3 => by cases e3; refine z_ls [0, 1, 2, 3] rfl ?_; exact ih s2 x hl2 ke) (fun x e3 => by cases e3)
    · exact zb_M_compact_146 hb (fun s3 e3 => by cases e3) (fun x e3 => by cases e3; exact ke)
theorem zl_M_compact_146 {l : Launch} {C : Ct} {mi : Nat} {y0 : Nat} {y2 : Int32} {h' : Hp} {v : Int32} {s : Int32 × Int32 × Hp} {x : (Int32 × Hp)} (hl : l_M_compact_146 y0 y2 s = some x) (ke : Z l C mi m_M_compact 3 252 [(5, vi x.1)] [] x.2 (some (vi v)) h') : Z l C mi m_M_compact 3 146 [(0, vr (some y0)), (2, vi y2), (5, vi s.1), (6, vi s.2.1)] [] s.2.2 (some (vi v)) h' := zzl_M_compact_146 FU s x hl ke
theorem kl_M_compact_146 {C : Ct} {mi : Nat} {y0 : Nat} {y2 : Int32} {s : Int32 × Int32 × Hp} {q : (Int32 × Hp)} (hl : l_M_compact_146 y0 y2 s = some q) : Keep W_M_compact s.2.2 ((fun x : Int32 × Hp => x.2) q) := lpk (sh := (fun s : Int32 × Int32 × Hp => s.2.2)) (rh := (fun x : Int32 × Hp => x.2)) (fun s q hb => kb_M_compact_146 (C := C) (mi := mi) hb) FU s q hl
def f_M_compact (a0 : Nat) (p1 : Int32) (h : Hp) : Option (Int32 × Hp) :=
  cl (f_M_in (p1 - (1 : Int32)) (nI 64) h) fun v3 h1 => if v3 = 0 then (some ((-1 : Int32), h1)) else (gd (isK h1 a0 8) (cv (f_M_markKept a0 h1) fun h7 => gd (isK h7 a0 8) (cl (f_M_find a0 (hpI h7 a0 31) h7) fun v13 h11 => dr (hpR h7 a0 29) fun a15 => gd (isK h11 a15 101) (gd (inb v13 (hpL h11 a15)) (bd (l_M_compact_42 a0 ((hpI h11 a15 v13.toNatClampNeg) / (nI 32)) ((-1 : Int32), p1, (0 : Int32), h11)) fun x40 => if 0 ≤ x40.1 then (gd (isK x40.2 a0 8) (cv (f_M_markNone a0 x40.2) fun h45 => gd (isK h45 a0 8) (cl (f_M_find a0 (hpI h45 a0 31) h45) fun v51 h49 => dr (hpR h45 a0 29) fun a53 => gd (isK h49 a53 101) (gd (inb v51 (hpL h49 a53)) (gd (isK h49 a0 8) (cv (f_M_mark a0 (hpI h49 a53 v51.toNatClampNeg) h49) fun h58 => bd (l_M_compact_146 a0 x40.1 ((0 : Int32), (0 : Int32), h58)) fun x109 => some (x109.1, x109.2))))))) else (some ((-3 : Int32), x40.2)))))))
set_option maxRecDepth 100000 in
set_option maxHeartbeats 4000000 in
theorem zf_M_compact {l : Launch} {C : Ct} {mi : Nat} {a0 : Nat} {p1 : Int32} {h h' : Hp} {v : Int32} (hf : f_M_compact a0 p1 h = some (v, h')) : Z l C mi m_M_compact 3 0 [(0, vr (some a0)), (1, vi p1)] [] h (some (vi v)) h' := by
  unfold f_M_compact at hf
  refine z_iload_n 1 d_M_compact_0 rfl rfl ?_
  refine z_iconst (v := (1 : Int32)) d_M_compact_1 (by decide) ?_
  refine z_isub d_M_compact_2 ?_
  refine z_bipush (v := (nI 64)) d_M_compact_3 (by decide) ?_
  obtain ⟨v3, h1, ec2, hf⟩ := cl_some hf
  refine z_callS (c_M_in ec2) d_M_compact_5 cw_M_in lk_M_125 (by decide +kernel) ⟨by decide, by decide⟩ (Nat.le_of_ble_eq_true rfl) rfl ?_
  refine z_if_ne (tgt := 13) d_M_compact_8 (by decide) (fun c5 => ?_) (fun c5 => ?_)
  · rw [if_neg c5] at hf
    refine z_aload_n 0 d_M_compact_13 rfl rfl ?_
    obtain ⟨g6, hf⟩ := gd_some hf
    obtain ⟨h7, ec8, hf⟩ := cv_some hf
    refine z_callVx rfl (c_M_markKept ec8) d_M_compact_14 cw_M_markKept lk_M_187 im_M_markKept se_M_markKept (kc_K (isK_eq g6) kc_8) ⟨by decide, by decide⟩ (Nat.le_of_ble_eq_true rfl) rfl ?_
    refine z_iconst (v := (-1 : Int32)) d_M_compact_17 (by decide) ?_
    refine z_istore_n (ls2 := [(2, vi (-1 : Int32)), (0, vr (some a0)), (1, vi p1)]) d_M_compact_18 rfl (by decide) rfl ?_
    refine z_iload_n 2 d_M_compact_19 rfl rfl ?_
    refine z_istore_n (ls2 := [(3, vi p1), (2, vi (-1 : Int32)), (0, vr (some a0)), (1, vi p1)]) d_M_compact_20 rfl (by decide) rfl ?_
    refine z_aload_n 2 d_M_compact_21 rfl rfl ?_
    obtain ⟨g10, hf⟩ := gd_some hf
    refine z_getR d_M_compact_22 (fl_K (isK_eq g10) fl_M_93_8) (fi_K (isK_eq g10) rfl) rfl ?_
    refine z_aload_n 2 d_M_compact_25 rfl rfl ?_
    refine z_aload_n 2 d_M_compact_26 rfl rfl ?_
    refine z_getI d_M_compact_27 (fl_K (isK_eq g10) fl_M_119_8) (fi_K (isK_eq g10) rfl) rfl ?_
    obtain ⟨v13, h11, ec12, hf⟩ := cl_some hf
    refine z_callVx rfl (c_M_find ec12) d_M_compact_30 cw_M_find lk_M_133 im_M_find se_M_find (kc_K (isK_eq g10) kc_8) ⟨by decide, by decide⟩ (Nat.le_of_ble_eq_true rfl) rfl ?_
    obtain ⟨a15, e16, hf⟩ := dr_some hf
    obtain ⟨g17, hf⟩ := gd_some hf
    obtain ⟨g18, hf⟩ := gd_some hf
    refine z_iald d_M_compact_33 e16 (by rw [isK_eq g17]; decide) (by rw [isK_eq g17]; rfl) (inb_vp g18) ?_
    refine z_bipush (v := (nI 32)) d_M_compact_34 (by decide) ?_
    refine z_idiv d_M_compact_36 (by decide) ?_
    refine z_istore (ls2 := [(4, vi ((hpI h11 a15 v13.toNatClampNeg) / (nI 32))), (3, vi p1), (2, vi (-1 : Int32)), (0, vr (some a0)), (1, vi p1)]) d_M_compact_37 (by decide) rfl ?_
    refine z_iconst (v := (0 : Int32)) d_M_compact_39 (by decide) ?_
    refine z_istore (ls2 := [(5, vi (0 : Int32)), (4, vi ((hpI h11 a15 v13.toNatClampNeg) / (nI 32))), (3, vi p1), (2, vi (-1 : Int32)), (0, vr (some a0)), (1, vi p1)]) d_M_compact_40 (by decide) rfl ?_
    obtain ⟨x40, el41, hf⟩ := bd_some hf
    refine z_ls [4, 3, 2, 1, 0] rfl ?_
    refine zl_M_compact_42 el41 ?_
    refine z_iload_n 1 d_M_compact_112 rfl rfl ?_
    refine z_if_ge (tgt := 119) d_M_compact_113 (by decide) (fun c43 => ?_) (fun c43 => ?_)
    · rw [if_pos c43] at hf
      refine z_aload_n 0 d_M_compact_119 rfl rfl ?_
      obtain ⟨g44, hf⟩ := gd_some hf
      obtain ⟨h45, ec46, hf⟩ := cv_some hf
      refine z_callVx rfl (c_M_markNone ec46) d_M_compact_120 cw_M_markNone lk_M_112 im_M_markNone se_M_markNone (kc_K (isK_eq g44) kc_8) ⟨by decide, by decide⟩ (Nat.le_of_ble_eq_true rfl) rfl ?_
      refine z_aload_n 0 d_M_compact_123 rfl rfl ?_
      refine z_aload_n 0 d_M_compact_124 rfl rfl ?_
      obtain ⟨g48, hf⟩ := gd_some hf
      refine z_getR d_M_compact_125 (fl_K (isK_eq g48) fl_M_93_8) (fi_K (isK_eq g48) rfl) rfl ?_
      refine z_aload_n 0 d_M_compact_128 rfl rfl ?_
      refine z_aload_n 0 d_M_compact_129 rfl rfl ?_
      refine z_getI d_M_compact_130 (fl_K (isK_eq g48) fl_M_119_8) (fi_K (isK_eq g48) rfl) rfl ?_
      obtain ⟨v51, h49, ec50, hf⟩ := cl_some hf
      refine z_callVx rfl (c_M_find ec50) d_M_compact_133 cw_M_find lk_M_133 im_M_find se_M_find (kc_K (isK_eq g48) kc_8) ⟨by decide, by decide⟩ (Nat.le_of_ble_eq_true rfl) rfl ?_
      obtain ⟨a53, e54, hf⟩ := dr_some hf
      obtain ⟨g55, hf⟩ := gd_some hf
      obtain ⟨g56, hf⟩ := gd_some hf
      refine z_iald d_M_compact_136 e54 (by rw [isK_eq g55]; decide) (by rw [isK_eq g55]; rfl) (inb_vp g56) ?_
      obtain ⟨g57, hf⟩ := gd_some hf
      obtain ⟨h58, ec59, hf⟩ := cv_some hf
      refine z_callVx rfl (c_M_mark ec59) d_M_compact_137 cw_M_mark lk_M_115 im_M_mark se_M_mark (kc_K (isK_eq g57) kc_8) ⟨by decide, by decide⟩ (Nat.le_of_ble_eq_true rfl) rfl ?_
      refine z_iconst (v := (0 : Int32)) d_M_compact_140 (by decide) ?_
      refine z_istore (ls2 := [(5, vi (0 : Int32)), (0, vr (some a0)), (2, vi x40.1)]) d_M_compact_141 (by decide) rfl ?_
      refine z_iconst (v := (0 : Int32)) d_M_compact_143 (by decide) ?_
      refine z_istore (ls2 := [(6, vi (0 : Int32)), (5, vi (0 : Int32)), (0, vr (some a0)), (2, vi x40.1)]) d_M_compact_144 (by decide) rfl ?_
      obtain ⟨x109, el110, hf⟩ := bd_some hf
      refine z_ls [2, 3, 1, 0] rfl ?_
      refine zl_M_compact_146 el110 ?_
      refine z_iload 0 d_M_compact_252 rfl ?_
      obtain ⟨rfl, rfl⟩ := Prod.mk.inj (Option.some.inj hf)
      exact z_ret d_M_compact_254 rfl
    · rw [if_neg c43] at hf
      refine z_bipush (v := (-3 : Int32)) d_M_compact_116 (by decide) ?_
      obtain ⟨rfl, rfl⟩ := Prod.mk.inj (Option.some.inj hf)
      exact z_ret d_M_compact_118 rfl
  · rw [if_pos c5] at hf
    refine z_iconst (v := (-1 : Int32)) d_M_compact_11 (by decide) ?_
    obtain ⟨rfl, rfl⟩ := Prod.mk.inj (Option.some.inj hf)
    exact z_ret d_M_compact_12 rfl
set_option maxRecDepth 100000 in
set_option maxHeartbeats 4000000 in
theorem fr_M_compact {C : Ct} {mi : Nat} {a0 : Nat} {p1 : Int32} {h h' : Hp} {v : Int32} (hf : f_M_compact a0 p1 h = some (v, h')) : Keep W_M_compact h h' := by
  unfold f_M_compact at hf
  obtain ⟨v3, h1, ec2, hf⟩ := cl_some hf
  have K4 := (Keep.refl W_M_compact _).trans ((fr_M_in (C := C) (mi := mi) ec2).mono (by decide) (by decide))
  rcases (Classical.em (v3 = 0)).symm with c5 | c5
  · rw [if_neg c5] at hf
    obtain ⟨g6, hf⟩ := gd_some hf
    obtain ⟨h7, ec8, hf⟩ := cv_some hf
    have K9 := K4.trans ((fr_M_markKept (C := C) (mi := mi) ec8).mono (by decide) (by decide))
    obtain ⟨g10, hf⟩ := gd_some hf
    obtain ⟨v13, h11, ec12, hf⟩ := cl_some hf
    have K14 := K9.trans ((fr_M_find (C := C) (mi := mi) ec12).mono (by decide) (by decide))
    obtain ⟨a15, e16, hf⟩ := dr_some hf
    obtain ⟨g17, hf⟩ := gd_some hf
    obtain ⟨g18, hf⟩ := gd_some hf
    obtain ⟨x40, el41, hf⟩ := bd_some hf
    have K42 := K14.trans (kl_M_compact_42 (C := C) (mi := mi) el41)
    rcases Classical.em (0 ≤ x40.1) with c43 | c43
    · rw [if_pos c43] at hf
      obtain ⟨g44, hf⟩ := gd_some hf
      obtain ⟨h45, ec46, hf⟩ := cv_some hf
      have K47 := K42.trans ((fr_M_markNone (C := C) (mi := mi) ec46).mono (by decide) (by decide))
      obtain ⟨g48, hf⟩ := gd_some hf
      obtain ⟨v51, h49, ec50, hf⟩ := cl_some hf
      have K52 := K47.trans ((fr_M_find (C := C) (mi := mi) ec50).mono (by decide) (by decide))
      obtain ⟨a53, e54, hf⟩ := dr_some hf
      obtain ⟨g55, hf⟩ := gd_some hf
      obtain ⟨g56, hf⟩ := gd_some hf
      obtain ⟨g57, hf⟩ := gd_some hf
      obtain ⟨h58, ec59, hf⟩ := cv_some hf
      have K60 := K52.trans ((fr_M_mark (C := C) (mi := mi) ec59).mono (by decide) (by decide))
      obtain ⟨x109, el110, hf⟩ := bd_some hf
      have K111 := K60.trans (kl_M_compact_146 (C := C) (mi := mi) el110)
      obtain ⟨rfl, rfl⟩ := Prod.mk.inj (Option.some.inj hf)
      exact K111
    · rw [if_neg c43] at hf
      obtain ⟨rfl, rfl⟩ := Prod.mk.inj (Option.some.inj hf)
      exact K42
  · rw [if_pos c5] at hf
    obtain ⟨rfl, rfl⟩ := Prod.mk.inj (Option.some.inj hf)
    exact K4
theorem c_M_compact {l : Launch} {C : Ct} {mi : Nat} {a0 : Nat} {p1 : Int32} {h h' : Hp} {v : Int32} (hf : f_M_compact a0 p1 h = some (v, h')) : Mt l C mi m_M_compact 3 [vr (some a0), vi p1] h (some (vi v)) h' := mt_I (ty := .int) rfl rfl rfl (by decide) (Nat.le_of_ble_eq_true rfl) (zf_M_compact hf)
-- VersionMapsModel.isSound(I)Z
def m_M_isSound : Mi := (⟨"VersionMapsModel", "isSound", "(I)Z"⟩, prog_11_method_38_code, 7, (Option.some Jvm.ClassFile.FieldType.boolean), .ireturn)
theorem cw_M_isSound : cw_ok m_M_isSound 1 := ⟨by decide +kernel, by decide +kernel, by decide +kernel, by decide +kernel⟩
theorem im_M_isSound : Cond.instanceMethod m_M_isSound.1 ∈ lw_w := by decide +kernel
theorem se_M_isSound : Cond.selects "VersionMapsModel" m_M_isSound.1 m_M_isSound.1 ∈ lw_w := by decide +kernel
theorem d_M_isSound_0 : decode prog_11_method_38_code 0 = .ok (.aload_n 0, 1) := by decide +kernel
theorem d_M_isSound_1 : decode prog_11_method_38_code 1 = .ok (.getfield 23, 3) := by decide +kernel
theorem d_M_isSound_4 : decode prog_11_method_38_code 4 = .ok (.iload_n 1, 1) := by decide +kernel
theorem d_M_isSound_5 : decode prog_11_method_38_code 5 = .ok (.iaload, 1) := by decide +kernel
theorem d_M_isSound_6 : decode prog_11_method_38_code 6 = .ok (.istore_n 2, 1) := by decide +kernel
theorem d_M_isSound_7 : decode prog_11_method_38_code 7 = .ok (.iconst 0, 1) := by decide +kernel
theorem d_M_isSound_8 : decode prog_11_method_38_code 8 = .ok (.istore_n 3, 1) := by decide +kernel
theorem d_M_isSound_9 : decode prog_11_method_38_code 9 = .ok (.iload_n 3, 1) := by decide +kernel
theorem d_M_isSound_10 : decode prog_11_method_38_code 10 = .ok (.aload_n 0, 1) := by decide +kernel
theorem d_M_isSound_11 : decode prog_11_method_38_code 11 = .ok (.getfield 26, 3) := by decide +kernel
theorem d_M_isSound_14 : decode prog_11_method_38_code 14 = .ok (.iload_n 1, 1) := by decide +kernel
theorem d_M_isSound_15 : decode prog_11_method_38_code 15 = .ok (.iaload, 1) := by decide +kernel
theorem d_M_isSound_16 : decode prog_11_method_38_code 16 = .ok (.iconst 2, 1) := by decide +kernel
theorem d_M_isSound_17 : decode prog_11_method_38_code 17 = .ok (.idiv, 1) := by decide +kernel
theorem d_M_isSound_18 : decode prog_11_method_38_code 18 = .ok (.if_icmp .gt 25, 3) := by decide +kernel
theorem d_M_isSound_21 : decode prog_11_method_38_code 21 = .ok (.aload_n 0, 1) := by decide +kernel
theorem d_M_isSound_22 : decode prog_11_method_38_code 22 = .ok (.iload_n 2, 1) := by decide +kernel
theorem d_M_isSound_23 : decode prog_11_method_38_code 23 = .ok (.iload_n 3, 1) := by decide +kernel
theorem d_M_isSound_24 : decode prog_11_method_38_code 24 = .ok (.iconst 0, 1) := by decide +kernel
theorem d_M_isSound_25 : decode prog_11_method_38_code 25 = .ok (.invokevirtual 105, 3) := by decide +kernel
theorem d_M_isSound_28 : decode prog_11_method_38_code 28 = .ok (.istore 4, 2) := by decide +kernel
theorem d_M_isSound_30 : decode prog_11_method_38_code 30 = .ok (.iload 4, 2) := by decide +kernel
theorem d_M_isSound_32 : decode prog_11_method_38_code 32 = .ok (.ifCond .ne 5, 3) := by decide +kernel
theorem d_M_isSound_35 : decode prog_11_method_38_code 35 = .ok (.iconst 0, 1) := by decide +kernel
theorem d_M_isSound_36 : decode prog_11_method_38_code 36 = .ok (.ireturn, 1) := by decide +kernel
theorem d_M_isSound_37 : decode prog_11_method_38_code 37 = .ok (.iinc 3 1, 3) := by decide +kernel
theorem d_M_isSound_40 : decode prog_11_method_38_code 40 = .ok (.goto (-31), 3) := by decide +kernel
theorem d_M_isSound_43 : decode prog_11_method_38_code 43 = .ok (.iconst 0, 1) := by decide +kernel
theorem d_M_isSound_44 : decode prog_11_method_38_code 44 = .ok (.istore_n 3, 1) := by decide +kernel
theorem d_M_isSound_45 : decode prog_11_method_38_code 45 = .ok (.iload_n 3, 1) := by decide +kernel
theorem d_M_isSound_46 : decode prog_11_method_38_code 46 = .ok (.iconst 4, 1) := by decide +kernel
theorem d_M_isSound_47 : decode prog_11_method_38_code 47 = .ok (.if_icmp .ge 95, 3) := by decide +kernel
theorem d_M_isSound_50 : decode prog_11_method_38_code 50 = .ok (.aload_n 0, 1) := by decide +kernel
theorem d_M_isSound_51 : decode prog_11_method_38_code 51 = .ok (.getfield 44, 3) := by decide +kernel
theorem d_M_isSound_54 : decode prog_11_method_38_code 54 = .ok (.iconst 4, 1) := by decide +kernel
theorem d_M_isSound_55 : decode prog_11_method_38_code 55 = .ok (.iload_n 1, 1) := by decide +kernel
theorem d_M_isSound_56 : decode prog_11_method_38_code 56 = .ok (.imul, 1) := by decide +kernel
theorem d_M_isSound_57 : decode prog_11_method_38_code 57 = .ok (.iload_n 3, 1) := by decide +kernel
theorem d_M_isSound_58 : decode prog_11_method_38_code 58 = .ok (.iadd, 1) := by decide +kernel
theorem d_M_isSound_59 : decode prog_11_method_38_code 59 = .ok (.iaload, 1) := by decide +kernel
theorem d_M_isSound_60 : decode prog_11_method_38_code 60 = .ok (.istore 4, 2) := by decide +kernel
theorem d_M_isSound_62 : decode prog_11_method_38_code 62 = .ok (.aload_n 0, 1) := by decide +kernel
theorem d_M_isSound_63 : decode prog_11_method_38_code 63 = .ok (.iload 4, 2) := by decide +kernel
theorem d_M_isSound_65 : decode prog_11_method_38_code 65 = .ok (.invokevirtual 108, 3) := by decide +kernel
theorem d_M_isSound_68 : decode prog_11_method_38_code 68 = .ok (.istore 5, 2) := by decide +kernel
theorem d_M_isSound_70 : decode prog_11_method_38_code 70 = .ok (.iload 4, 2) := by decide +kernel
theorem d_M_isSound_72 : decode prog_11_method_38_code 72 = .ok (.ifCond .ne 6, 3) := by decide +kernel
theorem d_M_isSound_75 : decode prog_11_method_38_code 75 = .ok (.goto 61, 3) := by decide +kernel
theorem d_M_isSound_78 : decode prog_11_method_38_code 78 = .ok (.iload 5, 2) := by decide +kernel
theorem d_M_isSound_80 : decode prog_11_method_38_code 80 = .ok (.ifCond .ge 5, 3) := by decide +kernel
theorem d_M_isSound_83 : decode prog_11_method_38_code 83 = .ok (.iconst 0, 1) := by decide +kernel
theorem d_M_isSound_84 : decode prog_11_method_38_code 84 = .ok (.ireturn, 1) := by decide +kernel
theorem d_M_isSound_85 : decode prog_11_method_38_code 85 = .ok (.iconst 0, 1) := by decide +kernel
theorem d_M_isSound_86 : decode prog_11_method_38_code 86 = .ok (.istore 6, 2) := by decide +kernel
theorem d_M_isSound_88 : decode prog_11_method_38_code 88 = .ok (.iload 6, 2) := by decide +kernel
theorem d_M_isSound_90 : decode prog_11_method_38_code 90 = .ok (.iconst 4, 1) := by decide +kernel
theorem d_M_isSound_91 : decode prog_11_method_38_code 91 = .ok (.if_icmp .ge 45, 3) := by decide +kernel
theorem d_M_isSound_94 : decode prog_11_method_38_code 94 = .ok (.aload_n 0, 1) := by decide +kernel
theorem d_M_isSound_95 : decode prog_11_method_38_code 95 = .ok (.getfield 44, 3) := by decide +kernel
theorem d_M_isSound_98 : decode prog_11_method_38_code 98 = .ok (.iconst 4, 1) := by decide +kernel
theorem d_M_isSound_99 : decode prog_11_method_38_code 99 = .ok (.iload 5, 2) := by decide +kernel
theorem d_M_isSound_101 : decode prog_11_method_38_code 101 = .ok (.imul, 1) := by decide +kernel
theorem d_M_isSound_102 : decode prog_11_method_38_code 102 = .ok (.iload 6, 2) := by decide +kernel
theorem d_M_isSound_104 : decode prog_11_method_38_code 104 = .ok (.iadd, 1) := by decide +kernel
theorem d_M_isSound_105 : decode prog_11_method_38_code 105 = .ok (.iaload, 1) := by decide +kernel
theorem d_M_isSound_106 : decode prog_11_method_38_code 106 = .ok (.ifCond .le 24, 3) := by decide +kernel
theorem d_M_isSound_109 : decode prog_11_method_38_code 109 = .ok (.aload_n 0, 1) := by decide +kernel
theorem d_M_isSound_110 : decode prog_11_method_38_code 110 = .ok (.aload_n 0, 1) := by decide +kernel
theorem d_M_isSound_111 : decode prog_11_method_38_code 111 = .ok (.getfield 44, 3) := by decide +kernel
theorem d_M_isSound_114 : decode prog_11_method_38_code 114 = .ok (.iconst 4, 1) := by decide +kernel
theorem d_M_isSound_115 : decode prog_11_method_38_code 115 = .ok (.iload 5, 2) := by decide +kernel
theorem d_M_isSound_117 : decode prog_11_method_38_code 117 = .ok (.imul, 1) := by decide +kernel
theorem d_M_isSound_118 : decode prog_11_method_38_code 118 = .ok (.iload 6, 2) := by decide +kernel
theorem d_M_isSound_120 : decode prog_11_method_38_code 120 = .ok (.iadd, 1) := by decide +kernel
theorem d_M_isSound_121 : decode prog_11_method_38_code 121 = .ok (.iaload, 1) := by decide +kernel
theorem d_M_isSound_122 : decode prog_11_method_38_code 122 = .ok (.invokevirtual 108, 3) := by decide +kernel
theorem d_M_isSound_125 : decode prog_11_method_38_code 125 = .ok (.ifCond .ge 5, 3) := by decide +kernel
theorem d_M_isSound_128 : decode prog_11_method_38_code 128 = .ok (.iconst 0, 1) := by decide +kernel
theorem d_M_isSound_129 : decode prog_11_method_38_code 129 = .ok (.ireturn, 1) := by decide +kernel
theorem d_M_isSound_130 : decode prog_11_method_38_code 130 = .ok (.iinc 6 1, 3) := by decide +kernel
theorem d_M_isSound_133 : decode prog_11_method_38_code 133 = .ok (.goto (-45), 3) := by decide +kernel
theorem d_M_isSound_136 : decode prog_11_method_38_code 136 = .ok (.iinc 3 1, 3) := by decide +kernel
theorem d_M_isSound_139 : decode prog_11_method_38_code 139 = .ok (.goto (-94), 3) := by decide +kernel
theorem d_M_isSound_142 : decode prog_11_method_38_code 142 = .ok (.iconst 1, 1) := by decide +kernel
theorem d_M_isSound_143 : decode prog_11_method_38_code 143 = .ok (.ireturn, 1) := by decide +kernel
def W_M_isSound : Wl := ([], [])
def b_M_isSound_9 (y0 : Nat) (y1 : Int32) (y2 : Int32) (y3 : Int32) (h : Hp) : Option ((Int32 × Hp) ⊕ ((Hp) ⊕ (Int32 × Hp))) :=
  gd (isK h y0 8) (dr (hpR h y0 5) fun a7 => gd (isK h a7 80) (gd (inb y1 (hpL h a7)) (if ((hpI h a7 y1.toNatClampNeg) / (nI 2)) < y3 then (some (.inr (.inl h))) else (cl (f_M_holds y0 y2 y3 (0 : Int32) h) fun v14 h12 => if v14 = 0 then (some (.inr (.inr ((0 : Int32), h12)))) else (some (.inl ((y3 + (1 : Int32)), h12)))))))
set_option maxRecDepth 100000 in
set_option maxHeartbeats 4000000 in
theorem zb_M_isSound_9 {l : Launch} {C : Ct} {mi : Nat} {y0 : Nat} {y1 : Int32} {y2 : Int32} {y3 : Int32} {h h' : Hp} {v : Int32} {q : ((Int32 × Hp) ⊕ ((Hp) ⊕ (Int32 × Hp)))} (hf : b_M_isSound_9 y0 y1 y2 y3 h = some q) (kc : ∀ s, q = .inl s → Z l C mi m_M_isSound 1 9 [(0, vr (some y0)), (1, vi y1), (2, vi y2), (3, vi s.1)] [] s.2 (some (vi v)) h') (ke : ∀ x, q = .inr (.inl x) → Z l C mi m_M_isSound 1 43 [(0, vr (some y0)), (1, vi y1)] [] x (some (vi v)) h') (kr : ∀ rv rh, q = .inr (.inr (rv, rh)) → v = rv ∧ h' = rh) : Z l C mi m_M_isSound 1 9 [(0, vr (some y0)), (1, vi y1), (2, vi y2), (3, vi y3)] [] h (some (vi v)) h' := by
  unfold b_M_isSound_9 at hf
  refine z_iload_n 3 d_M_isSound_9 rfl rfl ?_
  refine z_aload_n 0 d_M_isSound_10 rfl rfl ?_
  obtain ⟨g6, hf⟩ := gd_some hf
  refine z_getR d_M_isSound_11 (fl_K (isK_eq g6) fl_M_26_8) (fi_K (isK_eq g6) rfl) rfl ?_
  refine z_iload_n 1 d_M_isSound_14 rfl rfl ?_
  obtain ⟨a7, e8, hf⟩ := dr_some hf
  obtain ⟨g9, hf⟩ := gd_some hf
  obtain ⟨g10, hf⟩ := gd_some hf
  refine z_iald d_M_isSound_15 e8 (by rw [isK_eq g9]; decide) (by rw [isK_eq g9]; rfl) (inb_vp g10) ?_
  refine z_iconst (v := (nI 2)) d_M_isSound_16 (by decide) ?_
  refine z_idiv d_M_isSound_17 (by decide) ?_
  refine z_icmp_gt (tgt := 43) d_M_isSound_18 (by decide) (fun c11 => ?_) (fun c11 => ?_)
  · rw [if_pos c11] at hf
    refine z_ls [0, 1] rfl ?_
    exact ke h (Option.some.inj hf).symm
  · rw [if_neg c11] at hf
    refine z_aload_n 0 d_M_isSound_21 rfl rfl ?_
    refine z_iload_n 2 d_M_isSound_22 rfl rfl ?_
    refine z_iload_n 3 d_M_isSound_23 rfl rfl ?_
    refine z_iconst (v := (0 : Int32)) d_M_isSound_24 (by decide) ?_
    obtain ⟨v14, h12, ec13, hf⟩ := cl_some hf
    refine z_callVx rfl (c_M_holds ec13) d_M_isSound_25 cw_M_holds lk_M_105 im_M_holds se_M_holds (kc_K (isK_eq g6) kc_8) ⟨by decide, by decide⟩ (Nat.le_of_ble_eq_true rfl) rfl ?_
    refine z_istore (ls2 := [(4, vi v14), (0, vr (some y0)), (1, vi y1), (2, vi y2), (3, vi y3)]) d_M_isSound_28 (by decide) rfl ?_
    refine z_iload 0 d_M_isSound_30 rfl ?_
    refine z_if_ne (tgt := 37) d_M_isSound_32 (by decide) (fun c16 => ?_) (fun c16 => ?_)
    · rw [if_neg c16] at hf
      refine z_iinc (ls2 := [(3, vi (y3 + (1 : Int32))), (4, vi v14), (0, vr (some y0)), (1, vi y1), (2, vi y2)]) 4 d_M_isSound_37 rfl rfl (by decide) rfl ?_
      refine z_goto (tgt := 9) d_M_isSound_40 (by decide) ?_
      refine z_ls [2, 3, 4, 0] rfl ?_
      exact kc ((y3 + (1 : Int32)), h12) (Option.some.inj hf).symm
    · rw [if_pos c16] at hf
      refine z_iconst (v := (0 : Int32)) d_M_isSound_35 (by decide) ?_
      obtain ⟨rfl, rfl⟩ := kr _ _ (Option.some.inj hf).symm
      exact z_ret d_M_isSound_36 rfl
set_option maxRecDepth 100000 in
set_option maxHeartbeats 4000000 in
theorem kb_M_isSound_9 {C : Ct} {mi : Nat} {y0 : Nat} {y1 : Int32} {y2 : Int32} {y3 : Int32} {h : Hp} {q : ((Int32 × Hp) ⊕ ((Hp) ⊕ (Int32 × Hp)))} (hf : b_M_isSound_9 y0 y1 y2 y3 h = some q) : Keep W_M_isSound h (Sum.elim (fun s : Int32 × Hp => s.2) (Sum.elim (fun x : Hp => x) (fun r : (Int32 × Hp) => r.2)) q) := by
  unfold b_M_isSound_9 at hf
  obtain ⟨g6, hf⟩ := gd_some hf
  obtain ⟨a7, e8, hf⟩ := dr_some hf
  obtain ⟨g9, hf⟩ := gd_some hf
  obtain ⟨g10, hf⟩ := gd_some hf
  rcases Classical.em (((hpI h a7 y1.toNatClampNeg) / (nI 2)) < y3) with c11 | c11
  · rw [if_pos c11] at hf
    cases (Option.some.inj hf)
    exact (Keep.refl W_M_isSound _)
  · rw [if_neg c11] at hf
    obtain ⟨v14, h12, ec13, hf⟩ := cl_some hf
    have K15 := (Keep.refl W_M_isSound _).trans ((fr_M_holds (C := C) (mi := mi) ec13).mono (by decide) (by decide))
    rcases (Classical.em (v14 = 0)).symm with c16 | c16
    · rw [if_neg c16] at hf
      cases (Option.some.inj hf)
      exact K15
    · rw [if_pos c16] at hf
      cases (Option.some.inj hf)
      exact K15
def l_M_isSound_9 (y0 : Nat) (y1 : Int32) (y2 : Int32) (s : Int32 × Hp) : Option ((Hp) ⊕ (Int32 × Hp)) := lp (fun s => b_M_isSound_9 y0 y1 y2 s.1 s.2) FU s
theorem zzl_M_isSound_9 {l : Launch} {C : Ct} {mi : Nat} {y0 : Nat} {y1 : Int32} {y2 : Int32} {h' : Hp} {v : Int32} : ∀ (n : Nat) (s : Int32 × Hp) (q : ((Hp) ⊕ (Int32 × Hp))), lp (fun s : Int32 × Hp => b_M_isSound_9 y0 y1 y2 s.1 s.2) n s = some q → (∀ x, q = .inl x → Z l C mi m_M_isSound 1 43 [(0, vr (some y0)), (1, vi y1)] [] x (some (vi v)) h') → (∀ rv rh, q = .inr (rv, rh) → v = rv ∧ h' = rh) → Z l C mi m_M_isSound 1 9 [(0, vr (some y0)), (1, vi y1), (2, vi y2), (3, vi s.1)] [] s.2 (some (vi v)) h' := by
  intro n
  induction n with
  | zero => intro s q hl; cases hl
  | succ n ih =>
    intro s q hl ke kr
    rcases lp_some hl with ⟨s2, hb, hl2⟩ | hb
    · exact zb_M_isSound_9 hb (fun s3 e3 => by cases e3; refine z_ls [0, 1, 2, 3] rfl ?_; exact ih s2 q hl2 ke kr) (fun x e3 => by cases e3) (fun rv rh e3 => by cases e3)
    · exact zb_M_isSound_9 hb (fun s3 e3 => by cases e3) (fun x e3 => ke x (Sum.inr.inj e3)) (fun rv rh e3 => kr rv rh (Sum.inr.inj e3))
theorem zl_M_isSound_9 {l : Launch} {C : Ct} {mi : Nat} {y0 : Nat} {y1 : Int32} {y2 : Int32} {h' : Hp} {v : Int32} {s : Int32 × Hp} {q : ((Hp) ⊕ (Int32 × Hp))} (hl : l_M_isSound_9 y0 y1 y2 s = some q) (ke : ∀ x, q = .inl x → Z l C mi m_M_isSound 1 43 [(0, vr (some y0)), (1, vi y1)] [] x (some (vi v)) h') (kr : ∀ rv rh, q = .inr (rv, rh) → v = rv ∧ h' = rh) : Z l C mi m_M_isSound 1 9 [(0, vr (some y0)), (1, vi y1), (2, vi y2), (3, vi s.1)] [] s.2 (some (vi v)) h' := zzl_M_isSound_9 FU s q hl ke kr
theorem kl_M_isSound_9 {C : Ct} {mi : Nat} {y0 : Nat} {y1 : Int32} {y2 : Int32} {s : Int32 × Hp} {q : ((Hp) ⊕ (Int32 × Hp))} (hl : l_M_isSound_9 y0 y1 y2 s = some q) : Keep W_M_isSound s.2 ((Sum.elim (fun x : Hp => x) (fun r : (Int32 × Hp) => r.2)) q) := lpk (sh := (fun s : Int32 × Hp => s.2)) (rh := (Sum.elim (fun x : Hp => x) (fun r : (Int32 × Hp) => r.2))) (fun s q hb => kb_M_isSound_9 (C := C) (mi := mi) hb) FU s q hl
def b_M_isSound_88 (y0 : Nat) (y1 : Int32) (y3 : Int32) (y5 : Int32) (y6 : Int32) (h : Hp) : Option ((Int32 × Hp) ⊕ ((Hp) ⊕ (Int32 × Hp))) :=
  if (nI 4) ≤ y6 then (some (.inr (.inl h))) else (gd (isK h y0 8) (dr (hpR h y0 11) fun a34 => gd (isK h a34 86) (gd (inb (((nI 4) * y5) + y6) (hpL h a34)) (if (hpI h a34 (((nI 4) * y5) + y6).toNatClampNeg) ≤ 0 then (some (.inl ((y6 + (1 : Int32)), h))) else (cl (f_M_page y0 (hpI h a34 (((nI 4) * y5) + y6).toNatClampNeg) h) fun v41 h39 => if 0 ≤ v41 then (some (.inl ((y6 + (1 : Int32)), h39))) else (some (.inr (.inr ((0 : Int32), h39)))))))))
set_option maxRecDepth 100000 in
set_option maxHeartbeats 4000000 in
theorem zb_M_isSound_88 {l : Launch} {C : Ct} {mi : Nat} {y0 : Nat} {y1 : Int32} {y3 : Int32} {y5 : Int32} {y6 : Int32} {h h' : Hp} {v : Int32} {q : ((Int32 × Hp) ⊕ ((Hp) ⊕ (Int32 × Hp)))} (hf : b_M_isSound_88 y0 y1 y3 y5 y6 h = some q) (kc : ∀ s, q = .inl s → Z l C mi m_M_isSound 1 88 [(0, vr (some y0)), (1, vi y1), (3, vi y3), (5, vi y5), (6, vi s.1)] [] s.2 (some (vi v)) h') (ke : ∀ x, q = .inr (.inl x) → Z l C mi m_M_isSound 1 136 [(0, vr (some y0)), (1, vi y1), (3, vi y3)] [] x (some (vi v)) h') (kr : ∀ rv rh, q = .inr (.inr (rv, rh)) → v = rv ∧ h' = rh) : Z l C mi m_M_isSound 1 88 [(0, vr (some y0)), (1, vi y1), (3, vi y3), (5, vi y5), (6, vi y6)] [] h (some (vi v)) h' := by
  unfold b_M_isSound_88 at hf
  refine z_iload 4 d_M_isSound_88 rfl ?_
  refine z_iconst (v := (nI 4)) d_M_isSound_90 (by decide) ?_
  refine z_icmp_ge (tgt := 136) d_M_isSound_91 (by decide) (fun c32 => ?_) (fun c32 => ?_)
  · rw [if_pos c32] at hf
    refine z_ls [0, 1, 2] rfl ?_
    exact ke h (Option.some.inj hf).symm
  · rw [if_neg c32] at hf
    refine z_aload_n 0 d_M_isSound_94 rfl rfl ?_
    obtain ⟨g33, hf⟩ := gd_some hf
    refine z_getR d_M_isSound_95 (fl_K (isK_eq g33) fl_M_44_8) (fi_K (isK_eq g33) rfl) rfl ?_
    refine z_iconst (v := (nI 4)) d_M_isSound_98 (by decide) ?_
    refine z_iload 3 d_M_isSound_99 rfl ?_
    refine z_imul d_M_isSound_101 ?_
    refine z_iload 4 d_M_isSound_102 rfl ?_
    refine z_iadd d_M_isSound_104 ?_
    obtain ⟨a34, e35, hf⟩ := dr_some hf
    obtain ⟨g36, hf⟩ := gd_some hf
    obtain ⟨g37, hf⟩ := gd_some hf
    refine z_iald d_M_isSound_105 e35 (by rw [isK_eq g36]; decide) (by rw [isK_eq g36]; rfl) (inb_vp g37) ?_
    refine z_if_le (tgt := 130) d_M_isSound_106 (by decide) (fun c38 => ?_) (fun c38 => ?_)
    · rw [if_pos c38] at hf
      refine z_iinc (ls2 := [(6, vi (y6 + (1 : Int32))), (0, vr (some y0)), (1, vi y1), (3, vi y3), (5, vi y5)]) 4 d_M_isSound_130 rfl rfl (by decide) rfl ?_
      refine z_goto (tgt := 88) d_M_isSound_133 (by decide) ?_
      refine z_ls [1, 2, 3, 4, 0] rfl ?_
      exact kc ((y6 + (1 : Int32)), h) (Option.some.inj hf).symm
    · rw [if_neg c38] at hf
      refine z_aload_n 0 d_M_isSound_109 rfl rfl ?_
      refine z_aload_n 0 d_M_isSound_110 rfl rfl ?_
      refine z_getR d_M_isSound_111 (fl_K (isK_eq g33) fl_M_44_8) (fi_K (isK_eq g33) rfl) rfl ?_
      refine z_iconst (v := (nI 4)) d_M_isSound_114 (by decide) ?_
      refine z_iload 3 d_M_isSound_115 rfl ?_
      refine z_imul d_M_isSound_117 ?_
      refine z_iload 4 d_M_isSound_118 rfl ?_
      refine z_iadd d_M_isSound_120 ?_
      refine z_iald d_M_isSound_121 e35 (by rw [isK_eq g36]; decide) (by rw [isK_eq g36]; rfl) (inb_vp g37) ?_
      obtain ⟨v41, h39, ec40, hf⟩ := cl_some hf
      refine z_callVx rfl (c_M_page ec40) d_M_isSound_122 cw_M_page lk_M_108 im_M_page se_M_page (kc_K (isK_eq g33) kc_8) ⟨by decide, by decide⟩ (Nat.le_of_ble_eq_true rfl) rfl ?_
      refine z_if_ge (tgt := 130) d_M_isSound_125 (by decide) (fun c43 => ?_) (fun c43 => ?_)
      · rw [if_pos c43] at hf
        refine z_iinc (ls2 := [(6, vi (y6 + (1 : Int32))), (0, vr (some y0)), (1, vi y1), (3, vi y3), (5, vi y5)]) 4 d_M_isSound_130 rfl rfl (by decide) rfl ?_
        refine z_goto (tgt := 88) d_M_isSound_133 (by decide) ?_
        refine z_ls [1, 2, 3, 4, 0] rfl ?_
        exact kc ((y6 + (1 : Int32)), h39) (Option.some.inj hf).symm
      · rw [if_neg c43] at hf
        refine z_iconst (v := (0 : Int32)) d_M_isSound_128 (by decide) ?_
        obtain ⟨rfl, rfl⟩ := kr _ _ (Option.some.inj hf).symm
        exact z_ret d_M_isSound_129 rfl
set_option maxRecDepth 100000 in
set_option maxHeartbeats 4000000 in
theorem kb_M_isSound_88 {C : Ct} {mi : Nat} {y0 : Nat} {y1 : Int32} {y3 : Int32} {y5 : Int32} {y6 : Int32} {h : Hp} {q : ((Int32 × Hp) ⊕ ((Hp) ⊕ (Int32 × Hp)))} (hf : b_M_isSound_88 y0 y1 y3 y5 y6 h = some q) : Keep W_M_isSound h (Sum.elim (fun s : Int32 × Hp => s.2) (Sum.elim (fun x : Hp => x) (fun r : (Int32 × Hp) => r.2)) q) := by
  unfold b_M_isSound_88 at hf
  rcases Classical.em ((nI 4) ≤ y6) with c32 | c32
  · rw [if_pos c32] at hf
    cases (Option.some.inj hf)
    exact (Keep.refl W_M_isSound _)
  · rw [if_neg c32] at hf
    obtain ⟨g33, hf⟩ := gd_some hf
    obtain ⟨a34, e35, hf⟩ := dr_some hf
    obtain ⟨g36, hf⟩ := gd_some hf
    obtain ⟨g37, hf⟩ := gd_some hf
    rcases Classical.em ((hpI h a34 (((nI 4) * y5) + y6).toNatClampNeg) ≤ 0) with c38 | c38
    · rw [if_pos c38] at hf
      cases (Option.some.inj hf)
      exact (Keep.refl W_M_isSound _)
    · rw [if_neg c38] at hf
      obtain ⟨v41, h39, ec40, hf⟩ := cl_some hf
      have K42 := (Keep.refl W_M_isSound _).trans ((fr_M_page (C := C) (mi := mi) ec40).mono (by decide) (by decide))
      rcases Classical.em (0 ≤ v41) with c43 | c43
      · rw [if_pos c43] at hf
        cases (Option.some.inj hf)
        exact K42
      · rw [if_neg c43] at hf
        cases (Option.some.inj hf)
        exact K42
def l_M_isSound_88 (y0 : Nat) (y1 : Int32) (y3 : Int32) (y5 : Int32) (s : Int32 × Hp) : Option ((Hp) ⊕ (Int32 × Hp)) := lp (fun s => b_M_isSound_88 y0 y1 y3 y5 s.1 s.2) FU s
theorem zzl_M_isSound_88 {l : Launch} {C : Ct} {mi : Nat} {y0 : Nat} {y1 : Int32} {y3 : Int32} {y5 : Int32} {h' : Hp} {v : Int32} : ∀ (n : Nat) (s : Int32 × Hp) (q : ((Hp) ⊕ (Int32 × Hp))), lp (fun s : Int32 × Hp => b_M_isSound_88 y0 y1 y3 y5 s.1 s.2) n s = some q → (∀ x, q = .inl x → Z l C mi m_M_isSound 1 136 [(0, vr (some y0)), (1, vi y1), (3, vi y3)] [] x (some (vi v)) h') → (∀ rv rh, q = .inr (rv, rh) → v = rv ∧ h' = rh) → Z l C mi m_M_isSound 1 88 [(0, vr (some y0)), (1, vi y1), (3, vi y3), (5, vi y5), (6, vi s.1)] [] s.2 (some (vi v)) h' := by
  intro n
  induction n with
  | zero => intro s q hl; cases hl
  | succ n ih =>
    intro s q hl ke kr
    rcases lp_some hl with ⟨s2, hb, hl2⟩ | hb
    · exact zb_M_isSound_88 hb (fun s3 e3 => by cases e3; refine z_ls [0, 1, 2, 3, 4] rfl ?_; exact ih s2 q hl2 ke kr) (fun x e3 => by cases e3) (fun rv rh e3 => by cases e3)
    · exact zb_M_isSound_88 hb (fun s3 e3 => by cases e3) (fun x e3 => ke x (Sum.inr.inj e3)) (fun rv rh e3 => kr rv rh (Sum.inr.inj e3))
theorem zl_M_isSound_88 {l : Launch} {C : Ct} {mi : Nat} {y0 : Nat} {y1 : Int32} {y3 : Int32} {y5 : Int32} {h' : Hp} {v : Int32} {s : Int32 × Hp} {q : ((Hp) ⊕ (Int32 × Hp))} (hl : l_M_isSound_88 y0 y1 y3 y5 s = some q) (ke : ∀ x, q = .inl x → Z l C mi m_M_isSound 1 136 [(0, vr (some y0)), (1, vi y1), (3, vi y3)] [] x (some (vi v)) h') (kr : ∀ rv rh, q = .inr (rv, rh) → v = rv ∧ h' = rh) : Z l C mi m_M_isSound 1 88 [(0, vr (some y0)), (1, vi y1), (3, vi y3), (5, vi y5), (6, vi s.1)] [] s.2 (some (vi v)) h' := zzl_M_isSound_88 FU s q hl ke kr
theorem kl_M_isSound_88 {C : Ct} {mi : Nat} {y0 : Nat} {y1 : Int32} {y3 : Int32} {y5 : Int32} {s : Int32 × Hp} {q : ((Hp) ⊕ (Int32 × Hp))} (hl : l_M_isSound_88 y0 y1 y3 y5 s = some q) : Keep W_M_isSound s.2 ((Sum.elim (fun x : Hp => x) (fun r : (Int32 × Hp) => r.2)) q) := lpk (sh := (fun s : Int32 × Hp => s.2)) (rh := (Sum.elim (fun x : Hp => x) (fun r : (Int32 × Hp) => r.2))) (fun s q hb => kb_M_isSound_88 (C := C) (mi := mi) hb) FU s q hl
def b_M_isSound_45 (y0 : Nat) (y1 : Int32) (y3 : Int32) (h : Hp) : Option ((Int32 × Hp) ⊕ ((Hp) ⊕ (Int32 × Hp))) :=
  if (nI 4) ≤ y3 then (some (.inr (.inl h))) else (gd (isK h y0 8) (dr (hpR h y0 11) fun a22 => gd (isK h a22 86) (gd (inb (((nI 4) * y1) + y3) (hpL h a22)) (cl (f_M_page y0 (hpI h a22 (((nI 4) * y1) + y3).toNatClampNeg) h) fun v28 h26 => if (hpI h a22 (((nI 4) * y1) + y3).toNatClampNeg) = 0 then (some (.inl ((y3 + (1 : Int32)), h26))) else (if 0 ≤ v28 then (lk (l_M_isSound_88 y0 y1 y3 v28 ((0 : Int32), h26)) (fun x44 => some (.inl ((y3 + (1 : Int32)), x44))) (fun rt => some (.inr (.inr rt)))) else (some (.inr (.inr ((0 : Int32), h26)))))))))
set_option maxRecDepth 100000 in
set_option maxHeartbeats 4000000 in
theorem zb_M_isSound_45 {l : Launch} {C : Ct} {mi : Nat} {y0 : Nat} {y1 : Int32} {y3 : Int32} {h h' : Hp} {v : Int32} {q : ((Int32 × Hp) ⊕ ((Hp) ⊕ (Int32 × Hp)))} (hf : b_M_isSound_45 y0 y1 y3 h = some q) (kc : ∀ s, q = .inl s → Z l C mi m_M_isSound 1 45 [(0, vr (some y0)), (1, vi y1), (3, vi s.1)] [] s.2 (some (vi v)) h') (ke : ∀ x, q = .inr (.inl x) → Z l C mi m_M_isSound 1 142 [] [] x (some (vi v)) h') (kr : ∀ rv rh, q = .inr (.inr (rv, rh)) → v = rv ∧ h' = rh) : Z l C mi m_M_isSound 1 45 [(0, vr (some y0)), (1, vi y1), (3, vi y3)] [] h (some (vi v)) h' := by
  unfold b_M_isSound_45 at hf
  refine z_iload_n 2 d_M_isSound_45 rfl rfl ?_
  refine z_iconst (v := (nI 4)) d_M_isSound_46 (by decide) ?_
  refine z_icmp_ge (tgt := 142) d_M_isSound_47 (by decide) (fun c20 => ?_) (fun c20 => ?_)
  · rw [if_pos c20] at hf
    refine z_ls [] rfl ?_
    exact ke h (Option.some.inj hf).symm
  · rw [if_neg c20] at hf
    refine z_aload_n 0 d_M_isSound_50 rfl rfl ?_
    obtain ⟨g21, hf⟩ := gd_some hf
    refine z_getR d_M_isSound_51 (fl_K (isK_eq g21) fl_M_44_8) (fi_K (isK_eq g21) rfl) rfl ?_
    refine z_iconst (v := (nI 4)) d_M_isSound_54 (by decide) ?_
    refine z_iload_n 1 d_M_isSound_55 rfl rfl ?_
    refine z_imul d_M_isSound_56 ?_
    refine z_iload_n 2 d_M_isSound_57 rfl rfl ?_
    refine z_iadd d_M_isSound_58 ?_
    obtain ⟨a22, e23, hf⟩ := dr_some hf
    obtain ⟨g24, hf⟩ := gd_some hf
    obtain ⟨g25, hf⟩ := gd_some hf
    refine z_iald d_M_isSound_59 e23 (by rw [isK_eq g24]; decide) (by rw [isK_eq g24]; rfl) (inb_vp g25) ?_
    refine z_istore (ls2 := [(4, vi (hpI h a22 (((nI 4) * y1) + y3).toNatClampNeg)), (0, vr (some y0)), (1, vi y1), (3, vi y3)]) d_M_isSound_60 (by decide) rfl ?_
    refine z_aload_n 1 d_M_isSound_62 rfl rfl ?_
    refine z_iload 0 d_M_isSound_63 rfl ?_
    obtain ⟨v28, h26, ec27, hf⟩ := cl_some hf
    refine z_callVx rfl (c_M_page ec27) d_M_isSound_65 cw_M_page lk_M_108 im_M_page se_M_page (kc_K (isK_eq g21) kc_8) ⟨by decide, by decide⟩ (Nat.le_of_ble_eq_true rfl) rfl ?_
    refine z_istore (ls2 := [(5, vi v28), (4, vi (hpI h a22 (((nI 4) * y1) + y3).toNatClampNeg)), (0, vr (some y0)), (1, vi y1), (3, vi y3)]) d_M_isSound_68 (by decide) rfl ?_
    refine z_iload 1 d_M_isSound_70 rfl ?_
    refine z_if_ne (tgt := 78) d_M_isSound_72 (by decide) (fun c30 => ?_) (fun c30 => ?_)
    · rw [if_neg c30] at hf
      refine z_iload 0 d_M_isSound_78 rfl ?_
      refine z_if_ge (tgt := 85) d_M_isSound_80 (by decide) (fun c31 => ?_) (fun c31 => ?_)
      · rw [if_pos c31] at hf
        refine z_iconst (v := (0 : Int32)) d_M_isSound_85 (by decide) ?_
        refine z_istore (ls2 := [(6, vi (0 : Int32)), (5, vi v28), (4, vi (hpI h a22 (((nI 4) * y1) + y3).toNatClampNeg)), (0, vr (some y0)), (1, vi y1), (3, vi y3)]) d_M_isSound_86 (by decide) rfl ?_
        rcases lk_some hf with ⟨x44, el45, hf⟩ | ⟨x44r, el45, hf⟩
        · skip
          refine z_ls [3, 4, 5, 1, 0] rfl ?_
          refine zl_M_isSound_88 el45 (fun x2 e2 => ?_) (fun rv rh e2 => by cases e2)
          cases e2
          refine z_iinc (ls2 := [(3, vi (y3 + (1 : Int32))), (0, vr (some y0)), (1, vi y1)]) 2 d_M_isSound_136 rfl rfl (by decide) rfl ?_
          refine z_goto (tgt := 45) d_M_isSound_139 (by decide) ?_
          refine z_ls [1, 2, 0] rfl ?_
          exact kc ((y3 + (1 : Int32)), x44) (Option.some.inj hf).symm
        · skip
          refine z_ls [3, 4, 5, 1, 0] rfl ?_
          refine zl_M_isSound_88 el45 (fun x2 e2 => by cases e2) (fun rv rh e2 => ?_)
          cases e2
          exact kr _ _ (Option.some.inj hf).symm
      · rw [if_neg c31] at hf
        refine z_iconst (v := (0 : Int32)) d_M_isSound_83 (by decide) ?_
        obtain ⟨rfl, rfl⟩ := kr _ _ (Option.some.inj hf).symm
        exact z_ret d_M_isSound_84 rfl
    · rw [if_pos c30] at hf
      refine z_goto (tgt := 136) d_M_isSound_75 (by decide) ?_
      refine z_iinc (ls2 := [(3, vi (y3 + (1 : Int32))), (5, vi v28), (4, vi (hpI h a22 (((nI 4) * y1) + y3).toNatClampNeg)), (0, vr (some y0)), (1, vi y1)]) 4 d_M_isSound_136 rfl rfl (by decide) rfl ?_
      refine z_goto (tgt := 45) d_M_isSound_139 (by decide) ?_
      refine z_ls [3, 4, 0] rfl ?_
      exact kc ((y3 + (1 : Int32)), h26) (Option.some.inj hf).symm
set_option maxRecDepth 100000 in
set_option maxHeartbeats 4000000 in
theorem kb_M_isSound_45 {C : Ct} {mi : Nat} {y0 : Nat} {y1 : Int32} {y3 : Int32} {h : Hp} {q : ((Int32 × Hp) ⊕ ((Hp) ⊕ (Int32 × Hp)))} (hf : b_M_isSound_45 y0 y1 y3 h = some q) : Keep W_M_isSound h (Sum.elim (fun s : Int32 × Hp => s.2) (Sum.elim (fun x : Hp => x) (fun r : (Int32 × Hp) => r.2)) q) := by
  unfold b_M_isSound_45 at hf
  rcases Classical.em ((nI 4) ≤ y3) with c20 | c20
  · rw [if_pos c20] at hf
    cases (Option.some.inj hf)
    exact (Keep.refl W_M_isSound _)
  · rw [if_neg c20] at hf
    obtain ⟨g21, hf⟩ := gd_some hf
    obtain ⟨a22, e23, hf⟩ := dr_some hf
    obtain ⟨g24, hf⟩ := gd_some hf
    obtain ⟨g25, hf⟩ := gd_some hf
    obtain ⟨v28, h26, ec27, hf⟩ := cl_some hf
    have K29 := (Keep.refl W_M_isSound _).trans ((fr_M_page (C := C) (mi := mi) ec27).mono (by decide) (by decide))
    rcases (Classical.em ((hpI h a22 (((nI 4) * y1) + y3).toNatClampNeg) = 0)).symm with c30 | c30
    · rw [if_neg c30] at hf
      rcases Classical.em (0 ≤ v28) with c31 | c31
      · rw [if_pos c31] at hf
        rcases lk_some hf with ⟨x44, el45, hf⟩ | ⟨x44r, el45, hf⟩
        · skip
          have K46 := K29.trans (kl_M_isSound_88 (C := C) (mi := mi) el45)
          cases (Option.some.inj hf)
          exact K46
        · skip
          have K47 := K29.trans (kl_M_isSound_88 (C := C) (mi := mi) el45)
          cases (Option.some.inj hf)
          exact K47
      · rw [if_neg c31] at hf
        cases (Option.some.inj hf)
        exact K29
    · rw [if_pos c30] at hf
      cases (Option.some.inj hf)
      exact K29
def l_M_isSound_45 (y0 : Nat) (y1 : Int32) (s : Int32 × Hp) : Option ((Hp) ⊕ (Int32 × Hp)) := lp (fun s => b_M_isSound_45 y0 y1 s.1 s.2) FU s
theorem zzl_M_isSound_45 {l : Launch} {C : Ct} {mi : Nat} {y0 : Nat} {y1 : Int32} {h' : Hp} {v : Int32} : ∀ (n : Nat) (s : Int32 × Hp) (q : ((Hp) ⊕ (Int32 × Hp))), lp (fun s : Int32 × Hp => b_M_isSound_45 y0 y1 s.1 s.2) n s = some q → (∀ x, q = .inl x → Z l C mi m_M_isSound 1 142 [] [] x (some (vi v)) h') → (∀ rv rh, q = .inr (rv, rh) → v = rv ∧ h' = rh) → Z l C mi m_M_isSound 1 45 [(0, vr (some y0)), (1, vi y1), (3, vi s.1)] [] s.2 (some (vi v)) h' := by
  intro n
  induction n with
  | zero => intro s q hl; cases hl
  | succ n ih =>
    intro s q hl ke kr
    rcases lp_some hl with ⟨s2, hb, hl2⟩ | hb
    · exact zb_M_isSound_45 hb (fun s3 e3 => by cases e3; refine z_ls [0, 1, 2] rfl ?_; exact ih s2 q hl2 ke kr) (fun x e3 => by cases e3) (fun rv rh e3 => by cases e3)
    · exact zb_M_isSound_45 hb (fun s3 e3 => by cases e3) (fun x e3 => ke x (Sum.inr.inj e3)) (fun rv rh e3 => kr rv rh (Sum.inr.inj e3))
theorem zl_M_isSound_45 {l : Launch} {C : Ct} {mi : Nat} {y0 : Nat} {y1 : Int32} {h' : Hp} {v : Int32} {s : Int32 × Hp} {q : ((Hp) ⊕ (Int32 × Hp))} (hl : l_M_isSound_45 y0 y1 s = some q) (ke : ∀ x, q = .inl x → Z l C mi m_M_isSound 1 142 [] [] x (some (vi v)) h') (kr : ∀ rv rh, q = .inr (rv, rh) → v = rv ∧ h' = rh) : Z l C mi m_M_isSound 1 45 [(0, vr (some y0)), (1, vi y1), (3, vi s.1)] [] s.2 (some (vi v)) h' := zzl_M_isSound_45 FU s q hl ke kr
theorem kl_M_isSound_45 {C : Ct} {mi : Nat} {y0 : Nat} {y1 : Int32} {s : Int32 × Hp} {q : ((Hp) ⊕ (Int32 × Hp))} (hl : l_M_isSound_45 y0 y1 s = some q) : Keep W_M_isSound s.2 ((Sum.elim (fun x : Hp => x) (fun r : (Int32 × Hp) => r.2)) q) := lpk (sh := (fun s : Int32 × Hp => s.2)) (rh := (Sum.elim (fun x : Hp => x) (fun r : (Int32 × Hp) => r.2))) (fun s q hb => kb_M_isSound_45 (C := C) (mi := mi) hb) FU s q hl
def f0_M_isSound (a0 : Nat) (p1 : Int32) (h : Hp) : Option (Int32 × Hp) :=
  gd (isK h a0 8) (dr (hpR h a0 4) fun a2 => gd (isK h a2 79) (gd (inb p1 (hpL h a2)) (lk (l_M_isSound_9 a0 p1 (hpI h a2 p1.toNatClampNeg) ((0 : Int32), h)) (fun x17 => lk (l_M_isSound_45 a0 p1 ((0 : Int32), x17)) (fun x48 => some ((1 : Int32), x48)) some) some)))
def f_M_isSound (a0 : Nat) (p1 : Int32) (h : Hp) : Option (Int32 × Hp) := zbw (f0_M_isSound a0 p1 h)
set_option maxRecDepth 100000 in
set_option maxHeartbeats 4000000 in
theorem zf_M_isSound {l : Launch} {C : Ct} {mi : Nat} {a0 : Nat} {p1 : Int32} {h h' : Hp} {v : Int32} (hf : f0_M_isSound a0 p1 h = some (v, h')) : Z l C mi m_M_isSound 1 0 [(0, vr (some a0)), (1, vi p1)] [] h (some (vi v)) h' := by
  unfold f0_M_isSound at hf
  refine z_aload_n 0 d_M_isSound_0 rfl rfl ?_
  obtain ⟨g1, hf⟩ := gd_some hf
  refine z_getR d_M_isSound_1 (fl_K (isK_eq g1) fl_M_23_8) (fi_K (isK_eq g1) rfl) rfl ?_
  refine z_iload_n 1 d_M_isSound_4 rfl rfl ?_
  obtain ⟨a2, e3, hf⟩ := dr_some hf
  obtain ⟨g4, hf⟩ := gd_some hf
  obtain ⟨g5, hf⟩ := gd_some hf
  refine z_iald d_M_isSound_5 e3 (by rw [isK_eq g4]; decide) (by rw [isK_eq g4]; rfl) (inb_vp g5) ?_
  refine z_istore_n (ls2 := [(2, vi (hpI h a2 p1.toNatClampNeg)), (0, vr (some a0)), (1, vi p1)]) d_M_isSound_6 rfl (by decide) rfl ?_
  refine z_iconst (v := (0 : Int32)) d_M_isSound_7 (by decide) ?_
  refine z_istore_n (ls2 := [(3, vi (0 : Int32)), (2, vi (hpI h a2 p1.toNatClampNeg)), (0, vr (some a0)), (1, vi p1)]) d_M_isSound_8 rfl (by decide) rfl ?_
  rcases lk_some hf with ⟨x17, el18, hf⟩ | ⟨x17r, el18, hf⟩
  · skip
    refine z_ls [2, 3, 1, 0] rfl ?_
    refine zl_M_isSound_9 el18 (fun x2 e2 => ?_) (fun rv rh e2 => by cases e2)
    cases e2
    refine z_iconst (v := (0 : Int32)) d_M_isSound_43 (by decide) ?_
    refine z_istore_n (ls2 := [(3, vi (0 : Int32)), (0, vr (some a0)), (1, vi p1)]) d_M_isSound_44 rfl (by decide) rfl ?_
    rcases lk_some hf with ⟨x48, el49, hf⟩ | ⟨x48r, el49, hf⟩
    · skip
      refine z_ls [1, 2, 0] rfl ?_
      refine zl_M_isSound_45 el49 (fun x2 e2 => ?_) (fun rv rh e2 => by cases e2)
      cases e2
      refine z_iconst (v := (1 : Int32)) d_M_isSound_142 (by decide) ?_
      obtain ⟨rfl, rfl⟩ := Prod.mk.inj (Option.some.inj hf)
      exact z_ret d_M_isSound_143 rfl
    · skip
      refine z_ls [1, 2, 0] rfl ?_
      refine zl_M_isSound_45 el49 (fun x2 e2 => by cases e2) (fun rv rh e2 => ?_)
      cases e2
      have e4 := Prod.mk.inj (Option.some.inj hf)
      exact ⟨e4.1.symm, e4.2.symm⟩
  · skip
    refine z_ls [2, 3, 1, 0] rfl ?_
    refine zl_M_isSound_9 el18 (fun x2 e2 => by cases e2) (fun rv rh e2 => ?_)
    cases e2
    have e4 := Prod.mk.inj (Option.some.inj hf)
    exact ⟨e4.1.symm, e4.2.symm⟩
set_option maxRecDepth 100000 in
set_option maxHeartbeats 4000000 in
theorem fr0_M_isSound {C : Ct} {mi : Nat} {a0 : Nat} {p1 : Int32} {h h' : Hp} {v : Int32} (hf : f0_M_isSound a0 p1 h = some (v, h')) : Keep W_M_isSound h h' := by
  unfold f0_M_isSound at hf
  obtain ⟨g1, hf⟩ := gd_some hf
  obtain ⟨a2, e3, hf⟩ := dr_some hf
  obtain ⟨g4, hf⟩ := gd_some hf
  obtain ⟨g5, hf⟩ := gd_some hf
  rcases lk_some hf with ⟨x17, el18, hf⟩ | ⟨x17r, el18, hf⟩
  · skip
    have K19 := (Keep.refl W_M_isSound _).trans (kl_M_isSound_9 (C := C) (mi := mi) el18)
    rcases lk_some hf with ⟨x48, el49, hf⟩ | ⟨x48r, el49, hf⟩
    · skip
      have K50 := K19.trans (kl_M_isSound_45 (C := C) (mi := mi) el49)
      obtain ⟨rfl, rfl⟩ := Prod.mk.inj (Option.some.inj hf)
      exact K50
    · skip
      have K51 := K19.trans (kl_M_isSound_45 (C := C) (mi := mi) el49)
      cases (Option.some.inj hf)
      exact K51
  · skip
    have K52 := (Keep.refl W_M_isSound _).trans (kl_M_isSound_9 (C := C) (mi := mi) el18)
    cases (Option.some.inj hf)
    exact K52
theorem fr_M_isSound {C : Ct} {mi : Nat} {a0 : Nat} {p1 : Int32} {h h' : Hp} {v : Int32} (hf : f_M_isSound a0 p1 h = some (v, h')) : Keep W_M_isSound h h' := fr0_M_isSound (C := C) (mi := mi) (zbw_some hf).2
theorem c_M_isSound {l : Launch} {C : Ct} {mi : Nat} {a0 : Nat} {p1 : Int32} {h h' : Hp} {v : Int32} (hf : f_M_isSound a0 p1 h = some (v, h')) : Mt l C mi m_M_isSound 1 [vr (some a0), vi p1] h (some (vi v)) h' := mt_I (ty := .boolean) rfl rfl (zb_eq (zbw_some hf).1) (by decide) (Nat.le_of_ble_eq_true rfl) (zf_M_isSound (zbw_some hf).2)
-- VersionMapsModel.crash(II)I
def m_M_crash : Mi := (⟨"VersionMapsModel", "crash", "(II)I"⟩, prog_11_method_39_code, 6, (Option.some Jvm.ClassFile.FieldType.int), .ireturn)
theorem cw_M_crash : cw_ok m_M_crash 2 := ⟨by decide +kernel, by decide +kernel, by decide +kernel, by decide +kernel⟩
theorem im_M_crash : Cond.instanceMethod m_M_crash.1 ∈ lw_w := by decide +kernel
theorem se_M_crash : Cond.selects "VersionMapsModel" m_M_crash.1 m_M_crash.1 ∈ lw_w := by decide +kernel
theorem d_M_crash_0 : decode prog_11_method_39_code 0 = .ok (.iload_n 1, 1) := by decide +kernel
theorem d_M_crash_1 : decode prog_11_method_39_code 1 = .ok (.aload_n 0, 1) := by decide +kernel
theorem d_M_crash_2 : decode prog_11_method_39_code 2 = .ok (.getfield 156, 3) := by decide +kernel
theorem d_M_crash_5 : decode prog_11_method_39_code 5 = .ok (.iconst 1, 1) := by decide +kernel
theorem d_M_crash_6 : decode prog_11_method_39_code 6 = .ok (.iadd, 1) := by decide +kernel
theorem d_M_crash_7 : decode prog_11_method_39_code 7 = .ok (.invokestatic 125, 3) := by decide +kernel
theorem d_M_crash_10 : decode prog_11_method_39_code 10 = .ok (.ifCond .eq 12, 3) := by decide +kernel
theorem d_M_crash_13 : decode prog_11_method_39_code 13 = .ok (.iload_n 2, 1) := by decide +kernel
theorem d_M_crash_14 : decode prog_11_method_39_code 14 = .ok (.ldc 199, 2) := by decide +kernel
theorem d_M_crash_16 : decode prog_11_method_39_code 16 = .ok (.invokestatic 125, 3) := by decide +kernel
theorem d_M_crash_19 : decode prog_11_method_39_code 19 = .ok (.ifCond .ne 5, 3) := by decide +kernel
theorem d_M_crash_22 : decode prog_11_method_39_code 22 = .ok (.iconst (-1), 1) := by decide +kernel
theorem d_M_crash_23 : decode prog_11_method_39_code 23 = .ok (.ireturn, 1) := by decide +kernel
theorem d_M_crash_24 : decode prog_11_method_39_code 24 = .ok (.iload_n 1, 1) := by decide +kernel
theorem d_M_crash_25 : decode prog_11_method_39_code 25 = .ok (.istore_n 3, 1) := by decide +kernel
theorem d_M_crash_26 : decode prog_11_method_39_code 26 = .ok (.iload_n 3, 1) := by decide +kernel
theorem d_M_crash_27 : decode prog_11_method_39_code 27 = .ok (.aload_n 0, 1) := by decide +kernel
theorem d_M_crash_28 : decode prog_11_method_39_code 28 = .ok (.getfield 156, 3) := by decide +kernel
theorem d_M_crash_31 : decode prog_11_method_39_code 31 = .ok (.if_icmp .ge 70, 3) := by decide +kernel
theorem d_M_crash_34 : decode prog_11_method_39_code 34 = .ok (.aload_n 0, 1) := by decide +kernel
theorem d_M_crash_35 : decode prog_11_method_39_code 35 = .ok (.getfield 62, 3) := by decide +kernel
theorem d_M_crash_38 : decode prog_11_method_39_code 38 = .ok (.iload_n 3, 1) := by decide +kernel
theorem d_M_crash_39 : decode prog_11_method_39_code 39 = .ok (.iaload, 1) := by decide +kernel
theorem d_M_crash_40 : decode prog_11_method_39_code 40 = .ok (.istore 4, 2) := by decide +kernel
theorem d_M_crash_42 : decode prog_11_method_39_code 42 = .ok (.iload_n 3, 1) := by decide +kernel
theorem d_M_crash_43 : decode prog_11_method_39_code 43 = .ok (.iload_n 1, 1) := by decide +kernel
theorem d_M_crash_44 : decode prog_11_method_39_code 44 = .ok (.isub, 1) := by decide +kernel
theorem d_M_crash_45 : decode prog_11_method_39_code 45 = .ok (.istore 5, 2) := by decide +kernel
theorem d_M_crash_47 : decode prog_11_method_39_code 47 = .ok (.iload 5, 2) := by decide +kernel
theorem d_M_crash_49 : decode prog_11_method_39_code 49 = .ok (.bipush 16, 2) := by decide +kernel
theorem d_M_crash_51 : decode prog_11_method_39_code 51 = .ok (.if_icmp .ge 16, 3) := by decide +kernel
theorem d_M_crash_54 : decode prog_11_method_39_code 54 = .ok (.iload_n 2, 1) := by decide +kernel
theorem d_M_crash_55 : decode prog_11_method_39_code 55 = .ok (.iload 5, 2) := by decide +kernel
theorem d_M_crash_57 : decode prog_11_method_39_code 57 = .ok (.ishr, 1) := by decide +kernel
theorem d_M_crash_58 : decode prog_11_method_39_code 58 = .ok (.iconst 1, 1) := by decide +kernel
theorem d_M_crash_59 : decode prog_11_method_39_code 59 = .ok (.iand, 1) := by decide +kernel
theorem d_M_crash_60 : decode prog_11_method_39_code 60 = .ok (.iconst 1, 1) := by decide +kernel
theorem d_M_crash_61 : decode prog_11_method_39_code 61 = .ok (.if_icmp .ne 6, 3) := by decide +kernel
theorem d_M_crash_64 : decode prog_11_method_39_code 64 = .ok (.goto 31, 3) := by decide +kernel
theorem d_M_crash_67 : decode prog_11_method_39_code 67 = .ok (.aload_n 0, 1) := by decide +kernel
theorem d_M_crash_68 : decode prog_11_method_39_code 68 = .ok (.getfield 50, 3) := by decide +kernel
theorem d_M_crash_71 : decode prog_11_method_39_code 71 = .ok (.iload 4, 2) := by decide +kernel
theorem d_M_crash_73 : decode prog_11_method_39_code 73 = .ok (.aload_n 0, 1) := by decide +kernel
theorem d_M_crash_74 : decode prog_11_method_39_code 74 = .ok (.getfield 56, 3) := by decide +kernel
theorem d_M_crash_77 : decode prog_11_method_39_code 77 = .ok (.iload 4, 2) := by decide +kernel
theorem d_M_crash_79 : decode prog_11_method_39_code 79 = .ok (.iaload, 1) := by decide +kernel
theorem d_M_crash_80 : decode prog_11_method_39_code 80 = .ok (.iastore, 1) := by decide +kernel
theorem d_M_crash_81 : decode prog_11_method_39_code 81 = .ok (.aload_n 0, 1) := by decide +kernel
theorem d_M_crash_82 : decode prog_11_method_39_code 82 = .ok (.getfield 53, 3) := by decide +kernel
theorem d_M_crash_85 : decode prog_11_method_39_code 85 = .ok (.iload 4, 2) := by decide +kernel
theorem d_M_crash_87 : decode prog_11_method_39_code 87 = .ok (.aload_n 0, 1) := by decide +kernel
theorem d_M_crash_88 : decode prog_11_method_39_code 88 = .ok (.getfield 59, 3) := by decide +kernel
theorem d_M_crash_91 : decode prog_11_method_39_code 91 = .ok (.iload 4, 2) := by decide +kernel
theorem d_M_crash_93 : decode prog_11_method_39_code 93 = .ok (.iaload, 1) := by decide +kernel
theorem d_M_crash_94 : decode prog_11_method_39_code 94 = .ok (.iastore, 1) := by decide +kernel
theorem d_M_crash_95 : decode prog_11_method_39_code 95 = .ok (.iinc 3 1, 3) := by decide +kernel
theorem d_M_crash_98 : decode prog_11_method_39_code 98 = .ok (.goto (-72), 3) := by decide +kernel
theorem d_M_crash_101 : decode prog_11_method_39_code 101 = .ok (.aload_n 0, 1) := by decide +kernel
theorem d_M_crash_102 : decode prog_11_method_39_code 102 = .ok (.invokevirtual 193, 3) := by decide +kernel
theorem d_M_crash_105 : decode prog_11_method_39_code 105 = .ok (.aload_n 0, 1) := by decide +kernel
theorem d_M_crash_106 : decode prog_11_method_39_code 106 = .ok (.invokevirtual 166, 3) := by decide +kernel
theorem d_M_crash_109 : decode prog_11_method_39_code 109 = .ok (.iconst (-1), 1) := by decide +kernel
theorem d_M_crash_110 : decode prog_11_method_39_code 110 = .ok (.istore_n 3, 1) := by decide +kernel
theorem d_M_crash_111 : decode prog_11_method_39_code 111 = .ok (.iconst 0, 1) := by decide +kernel
theorem d_M_crash_112 : decode prog_11_method_39_code 112 = .ok (.istore 4, 2) := by decide +kernel
theorem d_M_crash_114 : decode prog_11_method_39_code 114 = .ok (.iload 4, 2) := by decide +kernel
theorem d_M_crash_116 : decode prog_11_method_39_code 116 = .ok (.sipush 160, 3) := by decide +kernel
theorem d_M_crash_119 : decode prog_11_method_39_code 119 = .ok (.if_icmp .ge 62, 3) := by decide +kernel
theorem d_M_crash_122 : decode prog_11_method_39_code 122 = .ok (.aload_n 0, 1) := by decide +kernel
theorem d_M_crash_123 : decode prog_11_method_39_code 123 = .ok (.getfield 23, 3) := by decide +kernel
theorem d_M_crash_126 : decode prog_11_method_39_code 126 = .ok (.iload 4, 2) := by decide +kernel
theorem d_M_crash_128 : decode prog_11_method_39_code 128 = .ok (.iaload, 1) := by decide +kernel
theorem d_M_crash_129 : decode prog_11_method_39_code 129 = .ok (.ifCond .le 46, 3) := by decide +kernel
theorem d_M_crash_132 : decode prog_11_method_39_code 132 = .ok (.aload_n 0, 1) := by decide +kernel
theorem d_M_crash_133 : decode prog_11_method_39_code 133 = .ok (.getfield 29, 3) := by decide +kernel
theorem d_M_crash_136 : decode prog_11_method_39_code 136 = .ok (.iload 4, 2) := by decide +kernel
theorem d_M_crash_138 : decode prog_11_method_39_code 138 = .ok (.iaload, 1) := by decide +kernel
theorem d_M_crash_139 : decode prog_11_method_39_code 139 = .ok (.iconst 2, 1) := by decide +kernel
theorem d_M_crash_140 : decode prog_11_method_39_code 140 = .ok (.if_icmp .ne 35, 3) := by decide +kernel
theorem d_M_crash_143 : decode prog_11_method_39_code 143 = .ok (.iload_n 3, 1) := by decide +kernel
theorem d_M_crash_144 : decode prog_11_method_39_code 144 = .ok (.ifCond .lt 19, 3) := by decide +kernel
theorem d_M_crash_147 : decode prog_11_method_39_code 147 = .ok (.aload_n 0, 1) := by decide +kernel
theorem d_M_crash_148 : decode prog_11_method_39_code 148 = .ok (.getfield 23, 3) := by decide +kernel
theorem d_M_crash_151 : decode prog_11_method_39_code 151 = .ok (.iload 4, 2) := by decide +kernel
theorem d_M_crash_153 : decode prog_11_method_39_code 153 = .ok (.iaload, 1) := by decide +kernel
theorem d_M_crash_154 : decode prog_11_method_39_code 154 = .ok (.aload_n 0, 1) := by decide +kernel
theorem d_M_crash_155 : decode prog_11_method_39_code 155 = .ok (.getfield 23, 3) := by decide +kernel
theorem d_M_crash_158 : decode prog_11_method_39_code 158 = .ok (.iload_n 3, 1) := by decide +kernel
theorem d_M_crash_159 : decode prog_11_method_39_code 159 = .ok (.iaload, 1) := by decide +kernel
theorem d_M_crash_160 : decode prog_11_method_39_code 160 = .ok (.if_icmp .le 15, 3) := by decide +kernel
theorem d_M_crash_163 : decode prog_11_method_39_code 163 = .ok (.aload_n 0, 1) := by decide +kernel
theorem d_M_crash_164 : decode prog_11_method_39_code 164 = .ok (.iload 4, 2) := by decide +kernel
theorem d_M_crash_166 : decode prog_11_method_39_code 166 = .ok (.invokevirtual 200, 3) := by decide +kernel
theorem d_M_crash_169 : decode prog_11_method_39_code 169 = .ok (.ifCond .eq 6, 3) := by decide +kernel
theorem d_M_crash_172 : decode prog_11_method_39_code 172 = .ok (.iload 4, 2) := by decide +kernel
theorem d_M_crash_174 : decode prog_11_method_39_code 174 = .ok (.istore_n 3, 1) := by decide +kernel
theorem d_M_crash_175 : decode prog_11_method_39_code 175 = .ok (.iinc 4 1, 3) := by decide +kernel
theorem d_M_crash_178 : decode prog_11_method_39_code 178 = .ok (.goto (-64), 3) := by decide +kernel
theorem d_M_crash_181 : decode prog_11_method_39_code 181 = .ok (.aload_n 0, 1) := by decide +kernel
theorem d_M_crash_182 : decode prog_11_method_39_code 182 = .ok (.iconst 1, 1) := by decide +kernel
theorem d_M_crash_183 : decode prog_11_method_39_code 183 = .ok (.putfield 96, 3) := by decide +kernel
theorem d_M_crash_186 : decode prog_11_method_39_code 186 = .ok (.aload_n 0, 1) := by decide +kernel
theorem d_M_crash_187 : decode prog_11_method_39_code 187 = .ok (.getfield 90, 3) := by decide +kernel
theorem d_M_crash_190 : decode prog_11_method_39_code 190 = .ok (.iconst 0, 1) := by decide +kernel
theorem d_M_crash_191 : decode prog_11_method_39_code 191 = .ok (.iconst 0, 1) := by decide +kernel
theorem d_M_crash_192 : decode prog_11_method_39_code 192 = .ok (.iastore, 1) := by decide +kernel
theorem d_M_crash_193 : decode prog_11_method_39_code 193 = .ok (.aload_n 0, 1) := by decide +kernel
theorem d_M_crash_194 : decode prog_11_method_39_code 194 = .ok (.iload_n 3, 1) := by decide +kernel
theorem d_M_crash_195 : decode prog_11_method_39_code 195 = .ok (.ifCond .ge 7, 3) := by decide +kernel
theorem d_M_crash_198 : decode prog_11_method_39_code 198 = .ok (.iconst 0, 1) := by decide +kernel
theorem d_M_crash_199 : decode prog_11_method_39_code 199 = .ok (.goto 9, 3) := by decide +kernel
theorem d_M_crash_202 : decode prog_11_method_39_code 202 = .ok (.aload_n 0, 1) := by decide +kernel
theorem d_M_crash_203 : decode prog_11_method_39_code 203 = .ok (.getfield 35, 3) := by decide +kernel
theorem d_M_crash_206 : decode prog_11_method_39_code 206 = .ok (.iload_n 3, 1) := by decide +kernel
theorem d_M_crash_207 : decode prog_11_method_39_code 207 = .ok (.iaload, 1) := by decide +kernel
theorem d_M_crash_208 : decode prog_11_method_39_code 208 = .ok (.putfield 119, 3) := by decide +kernel
theorem d_M_crash_211 : decode prog_11_method_39_code 211 = .ok (.aload_n 0, 1) := by decide +kernel
theorem d_M_crash_212 : decode prog_11_method_39_code 212 = .ok (.getfield 87, 3) := by decide +kernel
theorem d_M_crash_215 : decode prog_11_method_39_code 215 = .ok (.iconst 0, 1) := by decide +kernel
theorem d_M_crash_216 : decode prog_11_method_39_code 216 = .ok (.aload_n 0, 1) := by decide +kernel
theorem d_M_crash_217 : decode prog_11_method_39_code 217 = .ok (.getfield 119, 3) := by decide +kernel
theorem d_M_crash_220 : decode prog_11_method_39_code 220 = .ok (.iastore, 1) := by decide +kernel
theorem d_M_crash_221 : decode prog_11_method_39_code 221 = .ok (.aload_n 0, 1) := by decide +kernel
theorem d_M_crash_222 : decode prog_11_method_39_code 222 = .ok (.getfield 93, 3) := by decide +kernel
theorem d_M_crash_225 : decode prog_11_method_39_code 225 = .ok (.iconst 0, 1) := by decide +kernel
theorem d_M_crash_226 : decode prog_11_method_39_code 226 = .ok (.iload_n 3, 1) := by decide +kernel
theorem d_M_crash_227 : decode prog_11_method_39_code 227 = .ok (.ifCond .ge 7, 3) := by decide +kernel
theorem d_M_crash_230 : decode prog_11_method_39_code 230 = .ok (.iconst 0, 1) := by decide +kernel
theorem d_M_crash_231 : decode prog_11_method_39_code 231 = .ok (.goto 19, 3) := by decide +kernel
theorem d_M_crash_234 : decode prog_11_method_39_code 234 = .ok (.bipush 32, 2) := by decide +kernel
theorem d_M_crash_236 : decode prog_11_method_39_code 236 = .ok (.aload_n 0, 1) := by decide +kernel
theorem d_M_crash_237 : decode prog_11_method_39_code 237 = .ok (.getfield 23, 3) := by decide +kernel
theorem d_M_crash_240 : decode prog_11_method_39_code 240 = .ok (.iload_n 3, 1) := by decide +kernel
theorem d_M_crash_241 : decode prog_11_method_39_code 241 = .ok (.iaload, 1) := by decide +kernel
theorem d_M_crash_242 : decode prog_11_method_39_code 242 = .ok (.imul, 1) := by decide +kernel
theorem d_M_crash_243 : decode prog_11_method_39_code 243 = .ok (.aload_n 0, 1) := by decide +kernel
theorem d_M_crash_244 : decode prog_11_method_39_code 244 = .ok (.getfield 26, 3) := by decide +kernel
theorem d_M_crash_247 : decode prog_11_method_39_code 247 = .ok (.iload_n 3, 1) := by decide +kernel
theorem d_M_crash_248 : decode prog_11_method_39_code 248 = .ok (.iaload, 1) := by decide +kernel
theorem d_M_crash_249 : decode prog_11_method_39_code 249 = .ok (.iadd, 1) := by decide +kernel
theorem d_M_crash_250 : decode prog_11_method_39_code 250 = .ok (.iastore, 1) := by decide +kernel
theorem d_M_crash_251 : decode prog_11_method_39_code 251 = .ok (.aload_n 0, 1) := by decide +kernel
theorem d_M_crash_252 : decode prog_11_method_39_code 252 = .ok (.aload_n 0, 1) := by decide +kernel
theorem d_M_crash_253 : decode prog_11_method_39_code 253 = .ok (.getfield 93, 3) := by decide +kernel
theorem d_M_crash_256 : decode prog_11_method_39_code 256 = .ok (.iconst 0, 1) := by decide +kernel
theorem d_M_crash_257 : decode prog_11_method_39_code 257 = .ok (.iaload, 1) := by decide +kernel
theorem d_M_crash_258 : decode prog_11_method_39_code 258 = .ok (.invokevirtual 184, 3) := by decide +kernel
theorem d_M_crash_261 : decode prog_11_method_39_code 261 = .ok (.aload_n 0, 1) := by decide +kernel
theorem d_M_crash_262 : decode prog_11_method_39_code 262 = .ok (.invokevirtual 196, 3) := by decide +kernel
theorem d_M_crash_265 : decode prog_11_method_39_code 265 = .ok (.aload_n 0, 1) := by decide +kernel
theorem d_M_crash_266 : decode prog_11_method_39_code 266 = .ok (.iconst 1, 1) := by decide +kernel
theorem d_M_crash_267 : decode prog_11_method_39_code 267 = .ok (.putfield 83, 3) := by decide +kernel
theorem d_M_crash_270 : decode prog_11_method_39_code 270 = .ok (.iconst 0, 1) := by decide +kernel
theorem d_M_crash_271 : decode prog_11_method_39_code 271 = .ok (.istore 4, 2) := by decide +kernel
theorem d_M_crash_273 : decode prog_11_method_39_code 273 = .ok (.iload 4, 2) := by decide +kernel
theorem d_M_crash_275 : decode prog_11_method_39_code 275 = .ok (.bipush 32, 2) := by decide +kernel
theorem d_M_crash_277 : decode prog_11_method_39_code 277 = .ok (.if_icmp .ge 36, 3) := by decide +kernel
theorem d_M_crash_280 : decode prog_11_method_39_code 280 = .ok (.aload_n 0, 1) := by decide +kernel
theorem d_M_crash_281 : decode prog_11_method_39_code 281 = .ok (.getfield 50, 3) := by decide +kernel
theorem d_M_crash_284 : decode prog_11_method_39_code 284 = .ok (.iload 4, 2) := by decide +kernel
theorem d_M_crash_286 : decode prog_11_method_39_code 286 = .ok (.iaload, 1) := by decide +kernel
theorem d_M_crash_287 : decode prog_11_method_39_code 287 = .ok (.aload_n 0, 1) := by decide +kernel
theorem d_M_crash_288 : decode prog_11_method_39_code 288 = .ok (.getfield 83, 3) := by decide +kernel
theorem d_M_crash_291 : decode prog_11_method_39_code 291 = .ok (.if_icmp .lt 16, 3) := by decide +kernel
theorem d_M_crash_294 : decode prog_11_method_39_code 294 = .ok (.aload_n 0, 1) := by decide +kernel
theorem d_M_crash_295 : decode prog_11_method_39_code 295 = .ok (.aload_n 0, 1) := by decide +kernel
theorem d_M_crash_296 : decode prog_11_method_39_code 296 = .ok (.getfield 50, 3) := by decide +kernel
theorem d_M_crash_299 : decode prog_11_method_39_code 299 = .ok (.iload 4, 2) := by decide +kernel
theorem d_M_crash_301 : decode prog_11_method_39_code 301 = .ok (.iaload, 1) := by decide +kernel
theorem d_M_crash_302 : decode prog_11_method_39_code 302 = .ok (.iconst 1, 1) := by decide +kernel
theorem d_M_crash_303 : decode prog_11_method_39_code 303 = .ok (.iadd, 1) := by decide +kernel
theorem d_M_crash_304 : decode prog_11_method_39_code 304 = .ok (.putfield 83, 3) := by decide +kernel
theorem d_M_crash_307 : decode prog_11_method_39_code 307 = .ok (.iinc 4 1, 3) := by decide +kernel
theorem d_M_crash_310 : decode prog_11_method_39_code 310 = .ok (.goto (-37), 3) := by decide +kernel
theorem d_M_crash_313 : decode prog_11_method_39_code 313 = .ok (.aload_n 0, 1) := by decide +kernel
theorem d_M_crash_314 : decode prog_11_method_39_code 314 = .ok (.getfield 119, 3) := by decide +kernel
theorem d_M_crash_317 : decode prog_11_method_39_code 317 = .ok (.ireturn, 1) := by decide +kernel
def W_M_crash : Wl := ([(8, 19), (8, 25), (8, 26), (8, 30), (8, 31)], [75, 76, 77, 78, 79, 87, 88, 89, 90, 91, 93, 94, 95, 96, 97, 98, 99, 100, 101])
def j_M_crash_67_L26 (y0 : Nat) (y1 : Int32) (y2 : Int32) (y3 : Int32) (y4 : Int32) (h : Hp) : Option ((Int32 × Hp) ⊕ (Hp)) :=
  gd (isK h y0 8) (dr (hpR h y0 15) fun a20 => gd (isK h a20 90) (gd (inb y4 (hpL h a20)) (dr (hpR h y0 13) fun a24 => gd (isK h a24 88) (gd (inb y4 (hpL h a24)) (nm (wI h a24 y4.toNatClampNeg (hpI h a20 y4.toNatClampNeg)) fun h28 => dr (hpR h28 y0 16) fun a31 => gd (isK h28 a31 91) (gd (inb y4 (hpL h28 a31)) (dr (hpR h28 y0 14) fun a35 => gd (isK h28 a35 89) (gd (inb y4 (hpL h28 a35)) (nm (wI h28 a35 y4.toNatClampNeg (hpI h28 a31 y4.toNatClampNeg)) fun h39 => some (.inl ((y3 + (1 : Int32)), h39)))))))))))
set_option maxRecDepth 100000 in
set_option maxHeartbeats 4000000 in
theorem zj_M_crash_67_L26 {l : Launch} {C : Ct} {mi : Nat} {y0 : Nat} {y1 : Int32} {y2 : Int32} {y3 : Int32} {y4 : Int32} {h h' : Hp} {v : Int32} {q : ((Int32 × Hp) ⊕ (Hp))} (hf : j_M_crash_67_L26 y0 y1 y2 y3 y4 h = some q) (kc : ∀ s, q = .inl s → Z l C mi m_M_crash 4 26 [(0, vr (some y0)), (1, vi y1), (2, vi y2), (3, vi s.1)] [] s.2 (some (vi v)) h') (ke : ∀ x, q = .inr x → Z l C mi m_M_crash 4 101 [(0, vr (some y0))] [] x (some (vi v)) h') : Z l C mi m_M_crash 4 67 [(0, vr (some y0)), (1, vi y1), (2, vi y2), (3, vi y3), (4, vi y4)] [] h (some (vi v)) h' := by
  unfold j_M_crash_67_L26 at hf
  refine z_aload_n 0 d_M_crash_67 rfl rfl ?_
  obtain ⟨g19, hf⟩ := gd_some hf
  refine z_getR d_M_crash_68 (fl_K (isK_eq g19) fl_M_50_8) (fi_K (isK_eq g19) rfl) rfl ?_
  refine z_iload 4 d_M_crash_71 rfl ?_
  refine z_aload_n 0 d_M_crash_73 rfl rfl ?_
  refine z_getR d_M_crash_74 (fl_K (isK_eq g19) fl_M_56_8) (fi_K (isK_eq g19) rfl) rfl ?_
  refine z_iload 4 d_M_crash_77 rfl ?_
  obtain ⟨a20, e21, hf⟩ := dr_some hf
  obtain ⟨g22, hf⟩ := gd_some hf
  obtain ⟨g23, hf⟩ := gd_some hf
  refine z_iald d_M_crash_79 e21 (by rw [isK_eq g22]; decide) (by rw [isK_eq g22]; rfl) (inb_vp g23) ?_
  obtain ⟨a24, e25, hf⟩ := dr_some hf
  obtain ⟨g26, hf⟩ := gd_some hf
  obtain ⟨g27, hf⟩ := gd_some hf
  obtain ⟨h28, eh29, hf⟩ := nm_some hf
  refine z_iast d_M_crash_80 e25 (by rw [isK_eq g26]; decide) (by rw [isK_eq g26]; rfl) (inb_vp g27) ?_
  refine z_hp eh29 ?_
  refine z_aload_n 0 d_M_crash_81 rfl rfl ?_
  refine z_getR d_M_crash_82 (fl_K (isK_eq (isK_wI eh29 g19)) fl_M_53_8) (fi_K (isK_eq (isK_wI eh29 g19)) rfl) rfl ?_
  refine z_iload 4 d_M_crash_85 rfl ?_
  refine z_aload_n 0 d_M_crash_87 rfl rfl ?_
  refine z_getR d_M_crash_88 (fl_K (isK_eq (isK_wI eh29 g19)) fl_M_59_8) (fi_K (isK_eq (isK_wI eh29 g19)) rfl) rfl ?_
  refine z_iload 4 d_M_crash_91 rfl ?_
  obtain ⟨a31, e32, hf⟩ := dr_some hf
  obtain ⟨g33, hf⟩ := gd_some hf
  obtain ⟨g34, hf⟩ := gd_some hf
  refine z_iald d_M_crash_93 e32 (by rw [isK_eq g33]; decide) (by rw [isK_eq g33]; rfl) (inb_vp g34) ?_
  obtain ⟨a35, e36, hf⟩ := dr_some hf
  obtain ⟨g37, hf⟩ := gd_some hf
  obtain ⟨g38, hf⟩ := gd_some hf
  obtain ⟨h39, eh40, hf⟩ := nm_some hf
  refine z_iast d_M_crash_94 e36 (by rw [isK_eq g37]; decide) (by rw [isK_eq g37]; rfl) (inb_vp g38) ?_
  refine z_hp eh40 ?_
  refine z_iinc (ls2 := [(3, vi (y3 + (1 : Int32))), (0, vr (some y0)), (1, vi y1), (2, vi y2), (4, vi y4)]) 3 d_M_crash_95 rfl rfl (by decide) rfl ?_
  refine z_goto (tgt := 26) d_M_crash_98 (by decide) ?_
  refine z_ls [1, 2, 3, 0] rfl ?_
  exact kc ((y3 + (1 : Int32)), h39) (Option.some.inj hf).symm
set_option maxRecDepth 100000 in
set_option maxHeartbeats 4000000 in
theorem kj_M_crash_67_L26 {C : Ct} {mi : Nat} {y0 : Nat} {y1 : Int32} {y2 : Int32} {y3 : Int32} {y4 : Int32} {h : Hp} {q : ((Int32 × Hp) ⊕ (Hp))} (hf : j_M_crash_67_L26 y0 y1 y2 y3 y4 h = some q) : Keep W_M_crash h (Sum.elim (fun s : Int32 × Hp => s.2) (fun x : Hp => x) q) := by
  unfold j_M_crash_67_L26 at hf
  obtain ⟨g19, hf⟩ := gd_some hf
  obtain ⟨a20, e21, hf⟩ := dr_some hf
  obtain ⟨g22, hf⟩ := gd_some hf
  obtain ⟨g23, hf⟩ := gd_some hf
  obtain ⟨a24, e25, hf⟩ := dr_some hf
  obtain ⟨g26, hf⟩ := gd_some hf
  obtain ⟨g27, hf⟩ := gd_some hf
  obtain ⟨h28, eh29, hf⟩ := nm_some hf
  have K30 := (Keep.refl W_M_crash _).trans (kw_I eh29 (isK_eq g26) (Or.inr (by decide)))
  obtain ⟨a31, e32, hf⟩ := dr_some hf
  obtain ⟨g33, hf⟩ := gd_some hf
  obtain ⟨g34, hf⟩ := gd_some hf
  obtain ⟨a35, e36, hf⟩ := dr_some hf
  obtain ⟨g37, hf⟩ := gd_some hf
  obtain ⟨g38, hf⟩ := gd_some hf
  obtain ⟨h39, eh40, hf⟩ := nm_some hf
  have K41 := K30.trans (kw_I eh40 (isK_eq g37) (Or.inr (by decide)))
  cases (Option.some.inj hf)
  exact K41
def b_M_crash_26 (y0 : Nat) (y1 : Int32) (y2 : Int32) (y3 : Int32) (h : Hp) : Option ((Int32 × Hp) ⊕ (Hp)) :=
  gd (isK h y0 8) (if (hpI h y0 19) ≤ y3 then (some (.inr h)) else (dr (hpR h y0 17) fun a14 => gd (isK h a14 92) (gd (inb y3 (hpL h a14)) (if (nI 16) ≤ (y3 - y1) then (j_M_crash_67_L26 y0 y1 y2 y3 (hpI h a14 y3.toNatClampNeg) h) else (if ((y2 >>> ((y3 - y1) &&& 31)) &&& (1 : Int32)) = (1 : Int32) then (some (.inl ((y3 + (1 : Int32)), h))) else (j_M_crash_67_L26 y0 y1 y2 y3 (hpI h a14 y3.toNatClampNeg) h))))))
set_option maxRecDepth 100000 in
set_option maxHeartbeats 4000000 in
theorem zb_M_crash_26 {l : Launch} {C : Ct} {mi : Nat} {y0 : Nat} {y1 : Int32} {y2 : Int32} {y3 : Int32} {h h' : Hp} {v : Int32} {q : ((Int32 × Hp) ⊕ (Hp))} (hf : b_M_crash_26 y0 y1 y2 y3 h = some q) (kc : ∀ s, q = .inl s → Z l C mi m_M_crash 4 26 [(0, vr (some y0)), (1, vi y1), (2, vi y2), (3, vi s.1)] [] s.2 (some (vi v)) h') (ke : ∀ x, q = .inr x → Z l C mi m_M_crash 4 101 [(0, vr (some y0))] [] x (some (vi v)) h') : Z l C mi m_M_crash 4 26 [(0, vr (some y0)), (1, vi y1), (2, vi y2), (3, vi y3)] [] h (some (vi v)) h' := by
  unfold b_M_crash_26 at hf
  refine z_iload_n 3 d_M_crash_26 rfl rfl ?_
  refine z_aload_n 0 d_M_crash_27 rfl rfl ?_
  obtain ⟨g12, hf⟩ := gd_some hf
  refine z_getI d_M_crash_28 (fl_K (isK_eq g12) fl_M_156_8) (fi_K (isK_eq g12) rfl) rfl ?_
  refine z_icmp_ge (tgt := 101) d_M_crash_31 (by decide) (fun c13 => ?_) (fun c13 => ?_)
  · rw [if_pos c13] at hf
    refine z_ls [0] rfl ?_
    exact ke h (Option.some.inj hf).symm
  · rw [if_neg c13] at hf
    refine z_aload_n 0 d_M_crash_34 rfl rfl ?_
    refine z_getR d_M_crash_35 (fl_K (isK_eq g12) fl_M_62_8) (fi_K (isK_eq g12) rfl) rfl ?_
    refine z_iload_n 3 d_M_crash_38 rfl rfl ?_
    obtain ⟨a14, e15, hf⟩ := dr_some hf
    obtain ⟨g16, hf⟩ := gd_some hf
    obtain ⟨g17, hf⟩ := gd_some hf
    refine z_iald d_M_crash_39 e15 (by rw [isK_eq g16]; decide) (by rw [isK_eq g16]; rfl) (inb_vp g17) ?_
    refine z_istore (ls2 := [(4, vi (hpI h a14 y3.toNatClampNeg)), (0, vr (some y0)), (1, vi y1), (2, vi y2), (3, vi y3)]) d_M_crash_40 (by decide) rfl ?_
    refine z_iload_n 4 d_M_crash_42 rfl rfl ?_
    refine z_iload_n 2 d_M_crash_43 rfl rfl ?_
    refine z_isub d_M_crash_44 ?_
    refine z_istore (ls2 := [(5, vi (y3 - y1)), (4, vi (hpI h a14 y3.toNatClampNeg)), (0, vr (some y0)), (1, vi y1), (2, vi y2), (3, vi y3)]) d_M_crash_45 (by decide) rfl ?_
    refine z_iload 0 d_M_crash_47 rfl ?_
    refine z_bipush (v := (nI 16)) d_M_crash_49 (by decide) ?_
    refine z_icmp_ge (tgt := 67) d_M_crash_51 (by decide) (fun c18 => ?_) (fun c18 => ?_)
    · rw [if_pos c18] at hf
      refine z_ls [2, 3, 4, 5, 1] rfl ?_
      exact zj_M_crash_67_L26 hf kc ke
    · rw [if_neg c18] at hf
      refine z_iload_n 4 d_M_crash_54 rfl rfl ?_
      refine z_iload 0 d_M_crash_55 rfl ?_
      refine z_ishr d_M_crash_57 ?_
      refine z_iconst (v := (1 : Int32)) d_M_crash_58 (by decide) ?_
      refine z_iand d_M_crash_59 ?_
      refine z_iconst (v := (1 : Int32)) d_M_crash_60 (by decide) ?_
      refine z_icmp_ne (tgt := 67) d_M_crash_61 (by decide) (fun c42 => ?_) (fun c42 => ?_)
      · rw [if_neg c42] at hf
        refine z_ls [2, 3, 4, 5, 1] rfl ?_
        exact zj_M_crash_67_L26 hf kc ke
      · rw [if_pos c42] at hf
        refine z_goto (tgt := 95) d_M_crash_64 (by decide) ?_
        refine z_iinc (ls2 := [(3, vi (y3 + (1 : Int32))), (5, vi (y3 - y1)), (4, vi (hpI h a14 y3.toNatClampNeg)), (0, vr (some y0)), (1, vi y1), (2, vi y2)]) 5 d_M_crash_95 rfl rfl (by decide) rfl ?_
        refine z_goto (tgt := 26) d_M_crash_98 (by decide) ?_
        refine z_ls [3, 4, 5, 0] rfl ?_
        exact kc ((y3 + (1 : Int32)), h) (Option.some.inj hf).symm
set_option maxRecDepth 100000 in
set_option maxHeartbeats 4000000 in
theorem kb_M_crash_26 {C : Ct} {mi : Nat} {y0 : Nat} {y1 : Int32} {y2 : Int32} {y3 : Int32} {h : Hp} {q : ((Int32 × Hp) ⊕ (Hp))} (hf : b_M_crash_26 y0 y1 y2 y3 h = some q) : Keep W_M_crash h (Sum.elim (fun s : Int32 × Hp => s.2) (fun x : Hp => x) q) := by
  unfold b_M_crash_26 at hf
  obtain ⟨g12, hf⟩ := gd_some hf
  rcases Classical.em ((hpI h y0 19) ≤ y3) with c13 | c13
  · rw [if_pos c13] at hf
    cases (Option.some.inj hf)
    exact (Keep.refl W_M_crash _)
  · rw [if_neg c13] at hf
    obtain ⟨a14, e15, hf⟩ := dr_some hf
    obtain ⟨g16, hf⟩ := gd_some hf
    obtain ⟨g17, hf⟩ := gd_some hf
    rcases Classical.em ((nI 16) ≤ (y3 - y1)) with c18 | c18
    · rw [if_pos c18] at hf
      exact (Keep.refl W_M_crash _).trans (kj_M_crash_67_L26 (C := C) (mi := mi) hf)
    · rw [if_neg c18] at hf
      rcases (Classical.em (((y2 >>> ((y3 - y1) &&& 31)) &&& (1 : Int32)) = (1 : Int32))).symm with c42 | c42
      · rw [if_neg c42] at hf
        exact (Keep.refl W_M_crash _).trans (kj_M_crash_67_L26 (C := C) (mi := mi) hf)
      · rw [if_pos c42] at hf
        cases (Option.some.inj hf)
        exact (Keep.refl W_M_crash _)
def l_M_crash_26 (y0 : Nat) (y1 : Int32) (y2 : Int32) (s : Int32 × Hp) : Option (Hp) := lp (fun s => b_M_crash_26 y0 y1 y2 s.1 s.2) FU s
theorem zzl_M_crash_26 {l : Launch} {C : Ct} {mi : Nat} {y0 : Nat} {y1 : Int32} {y2 : Int32} {h' : Hp} {v : Int32} : ∀ (n : Nat) (s : Int32 × Hp) (x : (Hp)), lp (fun s : Int32 × Hp => b_M_crash_26 y0 y1 y2 s.1 s.2) n s = some x → Z l C mi m_M_crash 4 101 [(0, vr (some y0))] [] x (some (vi v)) h' → Z l C mi m_M_crash 4 26 [(0, vr (some y0)), (1, vi y1), (2, vi y2), (3, vi s.1)] [] s.2 (some (vi v)) h' := by
  intro n
  induction n with
  | zero => intro s x hl; cases hl
  | succ n ih =>
    intro s x hl ke
    rcases lp_some hl with ⟨s2, hb, hl2⟩ | hb
    · exact zb_M_crash_26 hb (fun s3 e3 => by cases e3; refine z_ls [0, 1, 2, 3] rfl ?_; exact ih s2 x hl2 ke) (fun x e3 => by cases e3)
    · exact zb_M_crash_26 hb (fun s3 e3 => by cases e3) (fun x e3 => by cases e3; exact ke)
theorem zl_M_crash_26 {l : Launch} {C : Ct} {mi : Nat} {y0 : Nat} {y1 : Int32} {y2 : Int32} {h' : Hp} {v : Int32} {s : Int32 × Hp} {x : (Hp)} (hl : l_M_crash_26 y0 y1 y2 s = some x) (ke : Z l C mi m_M_crash 4 101 [(0, vr (some y0))] [] x (some (vi v)) h') : Z l C mi m_M_crash 4 26 [(0, vr (some y0)), (1, vi y1), (2, vi y2), (3, vi s.1)] [] s.2 (some (vi v)) h' := zzl_M_crash_26 FU s x hl ke
theorem kl_M_crash_26 {C : Ct} {mi : Nat} {y0 : Nat} {y1 : Int32} {y2 : Int32} {s : Int32 × Hp} {q : (Hp)} (hl : l_M_crash_26 y0 y1 y2 s = some q) : Keep W_M_crash s.2 ((fun x : Hp => x) q) := lpk (sh := (fun s : Int32 × Hp => s.2)) (rh := (fun x : Hp => x)) (fun s q hb => kb_M_crash_26 (C := C) (mi := mi) hb) FU s q hl
def j_M_crash_163_L114 (y0 : Nat) (y3 : Int32) (y4 : Int32) (h : Hp) : Option ((Int32 × Int32 × Hp) ⊕ (Int32 × Hp)) :=
  gd (isK h y0 8) (cl (f_M_isSound y0 y4 h) fun v70 h68 => if v70 = 0 then (some (.inl (y3, (y4 + (1 : Int32)), h68))) else (some (.inl (y4, (y4 + (1 : Int32)), h68))))
set_option maxRecDepth 100000 in
set_option maxHeartbeats 4000000 in
theorem zj_M_crash_163_L114 {l : Launch} {C : Ct} {mi : Nat} {y0 : Nat} {y3 : Int32} {y4 : Int32} {h h' : Hp} {v : Int32} {q : ((Int32 × Int32 × Hp) ⊕ (Int32 × Hp))} (hf : j_M_crash_163_L114 y0 y3 y4 h = some q) (kc : ∀ s, q = .inl s → Z l C mi m_M_crash 4 114 [(0, vr (some y0)), (3, vi s.1), (4, vi s.2.1)] [] s.2.2 (some (vi v)) h') (ke : ∀ x, q = .inr x → Z l C mi m_M_crash 4 181 [(0, vr (some y0)), (3, vi x.1)] [] x.2 (some (vi v)) h') : Z l C mi m_M_crash 4 163 [(0, vr (some y0)), (3, vi y3), (4, vi y4)] [] h (some (vi v)) h' := by
  unfold j_M_crash_163_L114 at hf
  refine z_aload_n 0 d_M_crash_163 rfl rfl ?_
  refine z_iload 2 d_M_crash_164 rfl ?_
  obtain ⟨g67, hf⟩ := gd_some hf
  obtain ⟨v70, h68, ec69, hf⟩ := cl_some hf
  refine z_callVx rfl (c_M_isSound ec69) d_M_crash_166 cw_M_isSound lk_M_200 im_M_isSound se_M_isSound (kc_K (isK_eq g67) kc_8) ⟨by decide, by decide⟩ (Nat.le_of_ble_eq_true rfl) rfl ?_
  refine z_if_eq (tgt := 175) d_M_crash_169 (by decide) (fun c72 => ?_) (fun c72 => ?_)
  · rw [if_pos c72] at hf
    refine z_iinc (ls2 := [(4, vi (y4 + (1 : Int32))), (0, vr (some y0)), (3, vi y3)]) 2 d_M_crash_175 rfl rfl (by decide) rfl ?_
    refine z_goto (tgt := 114) d_M_crash_178 (by decide) ?_
    refine z_ls [1, 2, 0] rfl ?_
    exact kc (y3, (y4 + (1 : Int32)), h68) (Option.some.inj hf).symm
  · rw [if_neg c72] at hf
    refine z_iload 2 d_M_crash_172 rfl ?_
    refine z_istore_n (ls2 := [(3, vi y4), (0, vr (some y0)), (4, vi y4)]) d_M_crash_174 rfl (by decide) rfl ?_
    refine z_iinc (ls2 := [(4, vi (y4 + (1 : Int32))), (3, vi y4), (0, vr (some y0))]) 2 d_M_crash_175 rfl rfl (by decide) rfl ?_
    refine z_goto (tgt := 114) d_M_crash_178 (by decide) ?_
    refine z_ls [2, 1, 0] rfl ?_
    exact kc (y4, (y4 + (1 : Int32)), h68) (Option.some.inj hf).symm
set_option maxRecDepth 100000 in
set_option maxHeartbeats 4000000 in
theorem kj_M_crash_163_L114 {C : Ct} {mi : Nat} {y0 : Nat} {y3 : Int32} {y4 : Int32} {h : Hp} {q : ((Int32 × Int32 × Hp) ⊕ (Int32 × Hp))} (hf : j_M_crash_163_L114 y0 y3 y4 h = some q) : Keep W_M_crash h (Sum.elim (fun s : Int32 × Int32 × Hp => s.2.2) (fun x : Int32 × Hp => x.2) q) := by
  unfold j_M_crash_163_L114 at hf
  obtain ⟨g67, hf⟩ := gd_some hf
  obtain ⟨v70, h68, ec69, hf⟩ := cl_some hf
  have K71 := (Keep.refl W_M_crash _).trans ((fr_M_isSound (C := C) (mi := mi) ec69).mono (by decide) (by decide))
  rcases Classical.em (v70 = 0) with c72 | c72
  · rw [if_pos c72] at hf
    cases (Option.some.inj hf)
    exact K71
  · rw [if_neg c72] at hf
    cases (Option.some.inj hf)
    exact K71
def b_M_crash_114 (y0 : Nat) (y3 : Int32) (y4 : Int32) (h : Hp) : Option ((Int32 × Int32 × Hp) ⊕ (Int32 × Hp)) :=
  if (nI 160) ≤ y4 then (some (.inr (y3, h))) else (gd (isK h y0 8) (dr (hpR h y0 4) fun a56 => gd (isK h a56 79) (gd (inb y4 (hpL h a56)) (if (hpI h a56 y4.toNatClampNeg) ≤ 0 then (some (.inl (y3, (y4 + (1 : Int32)), h))) else (dr (hpR h y0 6) fun a61 => gd (isK h a61 81) (gd (inb y4 (hpL h a61)) (if (hpI h a61 y4.toNatClampNeg) = (nI 2) then (if y3 < 0 then (j_M_crash_163_L114 y0 y3 y4 h) else (gd (inb y3 (hpL h a56)) (if (hpI h a56 y4.toNatClampNeg) ≤ (hpI h a56 y3.toNatClampNeg) then (some (.inl (y3, (y4 + (1 : Int32)), h))) else (j_M_crash_163_L114 y0 y3 y4 h)))) else (some (.inl (y3, (y4 + (1 : Int32)), h))))))))))
set_option maxRecDepth 100000 in
set_option maxHeartbeats 4000000 in
theorem zb_M_crash_114 {l : Launch} {C : Ct} {mi : Nat} {y0 : Nat} {y3 : Int32} {y4 : Int32} {h h' : Hp} {v : Int32} {q : ((Int32 × Int32 × Hp) ⊕ (Int32 × Hp))} (hf : b_M_crash_114 y0 y3 y4 h = some q) (kc : ∀ s, q = .inl s → Z l C mi m_M_crash 4 114 [(0, vr (some y0)), (3, vi s.1), (4, vi s.2.1)] [] s.2.2 (some (vi v)) h') (ke : ∀ x, q = .inr x → Z l C mi m_M_crash 4 181 [(0, vr (some y0)), (3, vi x.1)] [] x.2 (some (vi v)) h') : Z l C mi m_M_crash 4 114 [(0, vr (some y0)), (3, vi y3), (4, vi y4)] [] h (some (vi v)) h' := by
  unfold b_M_crash_114 at hf
  refine z_iload 2 d_M_crash_114 rfl ?_
  refine z_sipush (v := (nI 160)) d_M_crash_116 (by decide) ?_
  refine z_icmp_ge (tgt := 181) d_M_crash_119 (by decide) (fun c54 => ?_) (fun c54 => ?_)
  · rw [if_pos c54] at hf
    refine z_ls [0, 1] rfl ?_
    exact ke (y3, h) (Option.some.inj hf).symm
  · rw [if_neg c54] at hf
    refine z_aload_n 0 d_M_crash_122 rfl rfl ?_
    obtain ⟨g55, hf⟩ := gd_some hf
    refine z_getR d_M_crash_123 (fl_K (isK_eq g55) fl_M_23_8) (fi_K (isK_eq g55) rfl) rfl ?_
    refine z_iload 2 d_M_crash_126 rfl ?_
    obtain ⟨a56, e57, hf⟩ := dr_some hf
    obtain ⟨g58, hf⟩ := gd_some hf
    obtain ⟨g59, hf⟩ := gd_some hf
    refine z_iald d_M_crash_128 e57 (by rw [isK_eq g58]; decide) (by rw [isK_eq g58]; rfl) (inb_vp g59) ?_
    refine z_if_le (tgt := 175) d_M_crash_129 (by decide) (fun c60 => ?_) (fun c60 => ?_)
    · rw [if_pos c60] at hf
      refine z_iinc (ls2 := [(4, vi (y4 + (1 : Int32))), (0, vr (some y0)), (3, vi y3)]) 2 d_M_crash_175 rfl rfl (by decide) rfl ?_
      refine z_goto (tgt := 114) d_M_crash_178 (by decide) ?_
      refine z_ls [1, 2, 0] rfl ?_
      exact kc (y3, (y4 + (1 : Int32)), h) (Option.some.inj hf).symm
    · rw [if_neg c60] at hf
      refine z_aload_n 0 d_M_crash_132 rfl rfl ?_
      refine z_getR d_M_crash_133 (fl_K (isK_eq g55) fl_M_29_8) (fi_K (isK_eq g55) rfl) rfl ?_
      refine z_iload 2 d_M_crash_136 rfl ?_
      obtain ⟨a61, e62, hf⟩ := dr_some hf
      obtain ⟨g63, hf⟩ := gd_some hf
      obtain ⟨g64, hf⟩ := gd_some hf
      refine z_iald d_M_crash_138 e62 (by rw [isK_eq g63]; decide) (by rw [isK_eq g63]; rfl) (inb_vp g64) ?_
      refine z_iconst (v := (nI 2)) d_M_crash_139 (by decide) ?_
      refine z_icmp_ne (tgt := 175) d_M_crash_140 (by decide) (fun c65 => ?_) (fun c65 => ?_)
      · rw [if_neg c65] at hf
        refine z_iinc (ls2 := [(4, vi (y4 + (1 : Int32))), (0, vr (some y0)), (3, vi y3)]) 2 d_M_crash_175 rfl rfl (by decide) rfl ?_
        refine z_goto (tgt := 114) d_M_crash_178 (by decide) ?_
        refine z_ls [1, 2, 0] rfl ?_
        exact kc (y3, (y4 + (1 : Int32)), h) (Option.some.inj hf).symm
      · rw [if_pos c65] at hf
        refine z_iload_n 1 d_M_crash_143 rfl rfl ?_
        refine z_if_lt (tgt := 163) d_M_crash_144 (by decide) (fun c66 => ?_) (fun c66 => ?_)
        · rw [if_pos c66] at hf
          refine z_ls [0, 1, 2] rfl ?_
          exact zj_M_crash_163_L114 hf kc ke
        · rw [if_neg c66] at hf
          refine z_aload_n 0 d_M_crash_147 rfl rfl ?_
          refine z_getR d_M_crash_148 (fl_K (isK_eq g55) fl_M_23_8) (fi_K (isK_eq g55) rfl) rfl ?_
          refine z_iload 2 d_M_crash_151 rfl ?_
          refine z_iald d_M_crash_153 e57 (by rw [isK_eq g58]; decide) (by rw [isK_eq g58]; rfl) (inb_vp g59) ?_
          refine z_aload_n 0 d_M_crash_154 rfl rfl ?_
          refine z_getR d_M_crash_155 (fl_K (isK_eq g55) fl_M_23_8) (fi_K (isK_eq g55) rfl) rfl ?_
          refine z_iload_n 1 d_M_crash_158 rfl rfl ?_
          obtain ⟨g73, hf⟩ := gd_some hf
          refine z_iald d_M_crash_159 e57 (by rw [isK_eq g58]; decide) (by rw [isK_eq g58]; rfl) (inb_vp g73) ?_
          refine z_icmp_le (tgt := 175) d_M_crash_160 (by decide) (fun c74 => ?_) (fun c74 => ?_)
          · rw [if_pos c74] at hf
            refine z_iinc (ls2 := [(4, vi (y4 + (1 : Int32))), (0, vr (some y0)), (3, vi y3)]) 2 d_M_crash_175 rfl rfl (by decide) rfl ?_
            refine z_goto (tgt := 114) d_M_crash_178 (by decide) ?_
            refine z_ls [1, 2, 0] rfl ?_
            exact kc (y3, (y4 + (1 : Int32)), h) (Option.some.inj hf).symm
          · rw [if_neg c74] at hf
            refine z_ls [0, 1, 2] rfl ?_
            exact zj_M_crash_163_L114 hf kc ke
set_option maxRecDepth 100000 in
set_option maxHeartbeats 4000000 in
theorem kb_M_crash_114 {C : Ct} {mi : Nat} {y0 : Nat} {y3 : Int32} {y4 : Int32} {h : Hp} {q : ((Int32 × Int32 × Hp) ⊕ (Int32 × Hp))} (hf : b_M_crash_114 y0 y3 y4 h = some q) : Keep W_M_crash h (Sum.elim (fun s : Int32 × Int32 × Hp => s.2.2) (fun x : Int32 × Hp => x.2) q) := by
  unfold b_M_crash_114 at hf
  rcases Classical.em ((nI 160) ≤ y4) with c54 | c54
  · rw [if_pos c54] at hf
    cases (Option.some.inj hf)
    exact (Keep.refl W_M_crash _)
  · rw [if_neg c54] at hf
    obtain ⟨g55, hf⟩ := gd_some hf
    obtain ⟨a56, e57, hf⟩ := dr_some hf
    obtain ⟨g58, hf⟩ := gd_some hf
    obtain ⟨g59, hf⟩ := gd_some hf
    rcases Classical.em ((hpI h a56 y4.toNatClampNeg) ≤ 0) with c60 | c60
    · rw [if_pos c60] at hf
      cases (Option.some.inj hf)
      exact (Keep.refl W_M_crash _)
    · rw [if_neg c60] at hf
      obtain ⟨a61, e62, hf⟩ := dr_some hf
      obtain ⟨g63, hf⟩ := gd_some hf
      obtain ⟨g64, hf⟩ := gd_some hf
      rcases (Classical.em ((hpI h a61 y4.toNatClampNeg) = (nI 2))).symm with c65 | c65
      · rw [if_neg c65] at hf
        cases (Option.some.inj hf)
        exact (Keep.refl W_M_crash _)
      · rw [if_pos c65] at hf
        rcases Classical.em (y3 < 0) with c66 | c66
        · rw [if_pos c66] at hf
          exact (Keep.refl W_M_crash _).trans (kj_M_crash_163_L114 (C := C) (mi := mi) hf)
        · rw [if_neg c66] at hf
          obtain ⟨g73, hf⟩ := gd_some hf
          rcases Classical.em ((hpI h a56 y4.toNatClampNeg) ≤ (hpI h a56 y3.toNatClampNeg)) with c74 | c74
          · rw [if_pos c74] at hf
            cases (Option.some.inj hf)
            exact (Keep.refl W_M_crash _)
          · rw [if_neg c74] at hf
            exact (Keep.refl W_M_crash _).trans (kj_M_crash_163_L114 (C := C) (mi := mi) hf)
def l_M_crash_114 (y0 : Nat) (s : Int32 × Int32 × Hp) : Option (Int32 × Hp) := lp (fun s => b_M_crash_114 y0 s.1 s.2.1 s.2.2) FU s
theorem zzl_M_crash_114 {l : Launch} {C : Ct} {mi : Nat} {y0 : Nat} {h' : Hp} {v : Int32} : ∀ (n : Nat) (s : Int32 × Int32 × Hp) (x : (Int32 × Hp)), lp (fun s : Int32 × Int32 × Hp => b_M_crash_114 y0 s.1 s.2.1 s.2.2) n s = some x → Z l C mi m_M_crash 4 181 [(0, vr (some y0)), (3, vi x.1)] [] x.2 (some (vi v)) h' → Z l C mi m_M_crash 4 114 [(0, vr (some y0)), (3, vi s.1), (4, vi s.2.1)] [] s.2.2 (some (vi v)) h' := by
  intro n
  induction n with
  | zero => intro s x hl; cases hl
  | succ n ih =>
    intro s x hl ke
    rcases lp_some hl with ⟨s2, hb, hl2⟩ | hb
    · exact zb_M_crash_114 hb (fun s3 e3 => by cases e3; refine z_ls [0, 1, 2] rfl ?_; exact ih s2 x hl2 ke) (fun x e3 => by cases e3)
    · exact zb_M_crash_114 hb (fun s3 e3 => by cases e3) (fun x e3 => by cases e3; exact ke)
theorem zl_M_crash_114 {l : Launch} {C : Ct} {mi : Nat} {y0 : Nat} {h' : Hp} {v : Int32} {s : Int32 × Int32 × Hp} {x : (Int32 × Hp)} (hl : l_M_crash_114 y0 s = some x) (ke : Z l C mi m_M_crash 4 181 [(0, vr (some y0)), (3, vi x.1)] [] x.2 (some (vi v)) h') : Z l C mi m_M_crash 4 114 [(0, vr (some y0)), (3, vi s.1), (4, vi s.2.1)] [] s.2.2 (some (vi v)) h' := zzl_M_crash_114 FU s x hl ke
theorem kl_M_crash_114 {C : Ct} {mi : Nat} {y0 : Nat} {s : Int32 × Int32 × Hp} {q : (Int32 × Hp)} (hl : l_M_crash_114 y0 s = some q) : Keep W_M_crash s.2.2 ((fun x : Int32 × Hp => x.2) q) := lpk (sh := (fun s : Int32 × Int32 × Hp => s.2.2)) (rh := (fun x : Int32 × Hp => x.2)) (fun s q hb => kb_M_crash_114 (C := C) (mi := mi) hb) FU s q hl
def b_M_crash_273 (y0 : Nat) (y4 : Int32) (h : Hp) : Option ((Int32 × Hp) ⊕ (Hp)) :=
  if (nI 32) ≤ y4 then (some (.inr h)) else (gd (isK h y0 8) (dr (hpR h y0 13) fun a140 => gd (isK h a140 88) (gd (inb y4 (hpL h a140)) (if (hpI h a140 y4.toNatClampNeg) < (hpI h y0 26) then (some (.inl ((y4 + (1 : Int32)), h))) else (nm (wI h y0 26 ((hpI h a140 y4.toNatClampNeg) + (1 : Int32))) fun h145 => some (.inl ((y4 + (1 : Int32)), h145)))))))
set_option maxRecDepth 100000 in
set_option maxHeartbeats 4000000 in
theorem zb_M_crash_273 {l : Launch} {C : Ct} {mi : Nat} {y0 : Nat} {y4 : Int32} {h h' : Hp} {v : Int32} {q : ((Int32 × Hp) ⊕ (Hp))} (hf : b_M_crash_273 y0 y4 h = some q) (kc : ∀ s, q = .inl s → Z l C mi m_M_crash 4 273 [(0, vr (some y0)), (4, vi s.1)] [] s.2 (some (vi v)) h') (ke : ∀ x, q = .inr x → Z l C mi m_M_crash 4 313 [(0, vr (some y0))] [] x (some (vi v)) h') : Z l C mi m_M_crash 4 273 [(0, vr (some y0)), (4, vi y4)] [] h (some (vi v)) h' := by
  unfold b_M_crash_273 at hf
  refine z_iload 1 d_M_crash_273 rfl ?_
  refine z_bipush (v := (nI 32)) d_M_crash_275 (by decide) ?_
  refine z_icmp_ge (tgt := 313) d_M_crash_277 (by decide) (fun c138 => ?_) (fun c138 => ?_)
  · rw [if_pos c138] at hf
    refine z_ls [0] rfl ?_
    exact ke h (Option.some.inj hf).symm
  · rw [if_neg c138] at hf
    refine z_aload_n 0 d_M_crash_280 rfl rfl ?_
    obtain ⟨g139, hf⟩ := gd_some hf
    refine z_getR d_M_crash_281 (fl_K (isK_eq g139) fl_M_50_8) (fi_K (isK_eq g139) rfl) rfl ?_
    refine z_iload 1 d_M_crash_284 rfl ?_
    obtain ⟨a140, e141, hf⟩ := dr_some hf
    obtain ⟨g142, hf⟩ := gd_some hf
    obtain ⟨g143, hf⟩ := gd_some hf
    refine z_iald d_M_crash_286 e141 (by rw [isK_eq g142]; decide) (by rw [isK_eq g142]; rfl) (inb_vp g143) ?_
    refine z_aload_n 0 d_M_crash_287 rfl rfl ?_
    refine z_getI d_M_crash_288 (fl_K (isK_eq g139) fl_M_83_8) (fi_K (isK_eq g139) rfl) rfl ?_
    refine z_icmp_lt (tgt := 307) d_M_crash_291 (by decide) (fun c144 => ?_) (fun c144 => ?_)
    · rw [if_pos c144] at hf
      refine z_iinc (ls2 := [(4, vi (y4 + (1 : Int32))), (0, vr (some y0))]) 1 d_M_crash_307 rfl rfl (by decide) rfl ?_
      refine z_goto (tgt := 273) d_M_crash_310 (by decide) ?_
      refine z_ls [1, 0] rfl ?_
      exact kc ((y4 + (1 : Int32)), h) (Option.some.inj hf).symm
    · rw [if_neg c144] at hf
      refine z_aload_n 0 d_M_crash_294 rfl rfl ?_
      refine z_aload_n 0 d_M_crash_295 rfl rfl ?_
      refine z_getR d_M_crash_296 (fl_K (isK_eq g139) fl_M_50_8) (fi_K (isK_eq g139) rfl) rfl ?_
      refine z_iload 1 d_M_crash_299 rfl ?_
      refine z_iald d_M_crash_301 e141 (by rw [isK_eq g142]; decide) (by rw [isK_eq g142]; rfl) (inb_vp g143) ?_
      refine z_iconst (v := (1 : Int32)) d_M_crash_302 (by decide) ?_
      refine z_iadd d_M_crash_303 ?_
      obtain ⟨h145, eh146, hf⟩ := nm_some hf
      refine z_putI d_M_crash_304 (fl_K (isK_eq g139) fl_M_83_8) (pu_K (isK_eq g139) (fun q hq => by cases (Option.some.inj hq); exact Or.inl rfl)) (fi_K (isK_eq g139) rfl) rfl ?_
      refine z_hp eh146 ?_
      refine z_iinc (ls2 := [(4, vi (y4 + (1 : Int32))), (0, vr (some y0))]) 1 d_M_crash_307 rfl rfl (by decide) rfl ?_
      refine z_goto (tgt := 273) d_M_crash_310 (by decide) ?_
      refine z_ls [1, 0] rfl ?_
      exact kc ((y4 + (1 : Int32)), h145) (Option.some.inj hf).symm
set_option maxRecDepth 100000 in
set_option maxHeartbeats 4000000 in
theorem kb_M_crash_273 {C : Ct} {mi : Nat} {y0 : Nat} {y4 : Int32} {h : Hp} {q : ((Int32 × Hp) ⊕ (Hp))} (hf : b_M_crash_273 y0 y4 h = some q) : Keep W_M_crash h (Sum.elim (fun s : Int32 × Hp => s.2) (fun x : Hp => x) q) := by
  unfold b_M_crash_273 at hf
  rcases Classical.em ((nI 32) ≤ y4) with c138 | c138
  · rw [if_pos c138] at hf
    cases (Option.some.inj hf)
    exact (Keep.refl W_M_crash _)
  · rw [if_neg c138] at hf
    obtain ⟨g139, hf⟩ := gd_some hf
    obtain ⟨a140, e141, hf⟩ := dr_some hf
    obtain ⟨g142, hf⟩ := gd_some hf
    obtain ⟨g143, hf⟩ := gd_some hf
    rcases Classical.em ((hpI h a140 y4.toNatClampNeg) < (hpI h y0 26)) with c144 | c144
    · rw [if_pos c144] at hf
      cases (Option.some.inj hf)
      exact (Keep.refl W_M_crash _)
    · rw [if_neg c144] at hf
      obtain ⟨h145, eh146, hf⟩ := nm_some hf
      have K147 := (Keep.refl W_M_crash _).trans (kw_I eh146 (isK_eq g139) (Or.inl (by decide)))
      cases (Option.some.inj hf)
      exact K147
def l_M_crash_273 (y0 : Nat) (s : Int32 × Hp) : Option (Hp) := lp (fun s => b_M_crash_273 y0 s.1 s.2) FU s
theorem zzl_M_crash_273 {l : Launch} {C : Ct} {mi : Nat} {y0 : Nat} {h' : Hp} {v : Int32} : ∀ (n : Nat) (s : Int32 × Hp) (x : (Hp)), lp (fun s : Int32 × Hp => b_M_crash_273 y0 s.1 s.2) n s = some x → Z l C mi m_M_crash 4 313 [(0, vr (some y0))] [] x (some (vi v)) h' → Z l C mi m_M_crash 4 273 [(0, vr (some y0)), (4, vi s.1)] [] s.2 (some (vi v)) h' := by
  intro n
  induction n with
  | zero => intro s x hl; cases hl
  | succ n ih =>
    intro s x hl ke
    rcases lp_some hl with ⟨s2, hb, hl2⟩ | hb
    · exact zb_M_crash_273 hb (fun s3 e3 => by cases e3; refine z_ls [0, 1] rfl ?_; exact ih s2 x hl2 ke) (fun x e3 => by cases e3)
    · exact zb_M_crash_273 hb (fun s3 e3 => by cases e3) (fun x e3 => by cases e3; exact ke)
theorem zl_M_crash_273 {l : Launch} {C : Ct} {mi : Nat} {y0 : Nat} {h' : Hp} {v : Int32} {s : Int32 × Hp} {x : (Hp)} (hl : l_M_crash_273 y0 s = some x) (ke : Z l C mi m_M_crash 4 313 [(0, vr (some y0))] [] x (some (vi v)) h') : Z l C mi m_M_crash 4 273 [(0, vr (some y0)), (4, vi s.1)] [] s.2 (some (vi v)) h' := zzl_M_crash_273 FU s x hl ke
theorem kl_M_crash_273 {C : Ct} {mi : Nat} {y0 : Nat} {s : Int32 × Hp} {q : (Hp)} (hl : l_M_crash_273 y0 s = some q) : Keep W_M_crash s.2 ((fun x : Hp => x) q) := lpk (sh := (fun s : Int32 × Hp => s.2)) (rh := (fun x : Hp => x)) (fun s q hb => kb_M_crash_273 (C := C) (mi := mi) hb) FU s q hl
def j_M_crash_250_M (y0 : Nat) (w0 : Int32) (w1 : Int32) (w2 : Option Nat) (h : Hp) : Option (Int32 × Hp) :=
  dr w2 fun a115 => gd (isK h a115 101) (gd (inb w1 (hpL h a115)) (nm (wI h a115 w1.toNatClampNeg w0) fun h119 => gd (isK h119 y0 8) (dr (hpR h119 y0 29) fun a123 => gd (isK h119 a123 101) (gd (inb (0 : Int32) (hpL h119 a123)) (cv (f_M_load y0 (hpI h119 a123 (0 : Int32).toNatClampNeg) h119) fun h127 => gd (isK h127 y0 8) (cv (f_M_clean y0 h127) fun h131 => gd (isK h131 y0 8) (nm (wI h131 y0 26 (1 : Int32)) fun h135 => bd (l_M_crash_273 y0 ((0 : Int32), h135)) fun x148 => gd (isK x148 y0 8) (some ((hpI x148 y0 31), x148)))))))))
set_option maxRecDepth 100000 in
set_option maxHeartbeats 4000000 in
theorem zj_M_crash_250_M {l : Launch} {C : Ct} {mi : Nat} {y0 : Nat} {w0 : Int32} {w1 : Int32} {w2 : Option Nat} {h h' : Hp} {v : Int32} (hf : j_M_crash_250_M y0 w0 w1 w2 h = some (v, h')) : Z l C mi m_M_crash 4 250 [(0, vr (some y0))] [vi w0, vi w1, vr w2] h (some (vi v)) h' := by
  unfold j_M_crash_250_M at hf
  obtain ⟨a115, e116, hf⟩ := dr_some hf
  obtain ⟨g117, hf⟩ := gd_some hf
  obtain ⟨g118, hf⟩ := gd_some hf
  obtain ⟨h119, eh120, hf⟩ := nm_some hf
  refine z_iast d_M_crash_250 e116 (by rw [isK_eq g117]; decide) (by rw [isK_eq g117]; rfl) (inb_vp g118) ?_
  refine z_hp eh120 ?_
  refine z_aload_n 0 d_M_crash_251 rfl rfl ?_
  refine z_aload_n 0 d_M_crash_252 rfl rfl ?_
  obtain ⟨g122, hf⟩ := gd_some hf
  refine z_getR d_M_crash_253 (fl_K (isK_eq g122) fl_M_93_8) (fi_K (isK_eq g122) rfl) rfl ?_
  refine z_iconst (v := (0 : Int32)) d_M_crash_256 (by decide) ?_
  obtain ⟨a123, e124, hf⟩ := dr_some hf
  obtain ⟨g125, hf⟩ := gd_some hf
  obtain ⟨g126, hf⟩ := gd_some hf
  refine z_iald d_M_crash_257 e124 (by rw [isK_eq g125]; decide) (by rw [isK_eq g125]; rfl) (inb_vp g126) ?_
  obtain ⟨h127, ec128, hf⟩ := cv_some hf
  refine z_callVx rfl (c_M_load ec128) d_M_crash_258 cw_M_load lk_M_184 im_M_load se_M_load (kc_K (isK_eq g122) kc_8) ⟨by decide, by decide⟩ (Nat.le_of_ble_eq_true rfl) rfl ?_
  refine z_aload_n 0 d_M_crash_261 rfl rfl ?_
  obtain ⟨g130, hf⟩ := gd_some hf
  obtain ⟨h131, ec132, hf⟩ := cv_some hf
  refine z_callVx rfl (c_M_clean ec132) d_M_crash_262 cw_M_clean lk_M_196 im_M_clean se_M_clean (kc_K (isK_eq g130) kc_8) ⟨by decide, by decide⟩ (Nat.le_of_ble_eq_true rfl) rfl ?_
  refine z_aload_n 0 d_M_crash_265 rfl rfl ?_
  refine z_iconst (v := (1 : Int32)) d_M_crash_266 (by decide) ?_
  obtain ⟨g134, hf⟩ := gd_some hf
  obtain ⟨h135, eh136, hf⟩ := nm_some hf
  refine z_putI d_M_crash_267 (fl_K (isK_eq g134) fl_M_83_8) (pu_K (isK_eq g134) (fun q hq => by cases (Option.some.inj hq); exact Or.inl rfl)) (fi_K (isK_eq g134) rfl) rfl ?_
  refine z_hp eh136 ?_
  refine z_iconst (v := (0 : Int32)) d_M_crash_270 (by decide) ?_
  refine z_istore (ls2 := [(4, vi (0 : Int32)), (0, vr (some y0))]) d_M_crash_271 (by decide) rfl ?_
  obtain ⟨x148, el149, hf⟩ := bd_some hf
  refine z_ls [1, 0] rfl ?_
  refine zl_M_crash_273 el149 ?_
  refine z_aload_n 0 d_M_crash_313 rfl rfl ?_
  obtain ⟨g151, hf⟩ := gd_some hf
  refine z_getI d_M_crash_314 (fl_K (isK_eq g151) fl_M_119_8) (fi_K (isK_eq g151) rfl) rfl ?_
  obtain ⟨rfl, rfl⟩ := Prod.mk.inj (Option.some.inj hf)
  exact z_ret d_M_crash_317 rfl
set_option maxRecDepth 100000 in
set_option maxHeartbeats 4000000 in
theorem kj_M_crash_250_M {C : Ct} {mi : Nat} {y0 : Nat} {w0 : Int32} {w1 : Int32} {w2 : Option Nat} {h h' : Hp} {v : Int32} (hf : j_M_crash_250_M y0 w0 w1 w2 h = some (v, h')) : Keep W_M_crash h h' := by
  unfold j_M_crash_250_M at hf
  obtain ⟨a115, e116, hf⟩ := dr_some hf
  obtain ⟨g117, hf⟩ := gd_some hf
  obtain ⟨g118, hf⟩ := gd_some hf
  obtain ⟨h119, eh120, hf⟩ := nm_some hf
  have K121 := (Keep.refl W_M_crash _).trans (kw_I eh120 (isK_eq g117) (Or.inr (by decide)))
  obtain ⟨g122, hf⟩ := gd_some hf
  obtain ⟨a123, e124, hf⟩ := dr_some hf
  obtain ⟨g125, hf⟩ := gd_some hf
  obtain ⟨g126, hf⟩ := gd_some hf
  obtain ⟨h127, ec128, hf⟩ := cv_some hf
  have K129 := K121.trans ((fr_M_load (C := C) (mi := mi) ec128).mono (by decide) (by decide))
  obtain ⟨g130, hf⟩ := gd_some hf
  obtain ⟨h131, ec132, hf⟩ := cv_some hf
  have K133 := K129.trans ((fr_M_clean (C := C) (mi := mi) ec132).mono (by decide) (by decide))
  obtain ⟨g134, hf⟩ := gd_some hf
  obtain ⟨h135, eh136, hf⟩ := nm_some hf
  have K137 := K133.trans (kw_I eh136 (isK_eq g134) (Or.inl (by decide)))
  obtain ⟨x148, el149, hf⟩ := bd_some hf
  have K150 := K137.trans (kl_M_crash_273 (C := C) (mi := mi) el149)
  obtain ⟨g151, hf⟩ := gd_some hf
  obtain ⟨rfl, rfl⟩ := Prod.mk.inj (Option.some.inj hf)
  exact K150
def j_M_crash_208_M (y0 : Nat) (y3 : Int32) (w0 : Int32) (w1 : Nat) (h : Hp) : Option (Int32 × Hp) :=
  gd (isK h w1 8) (nm (wI h w1 31 w0) fun h95 => gd (isK h95 y0 8) (dr (hpR h95 y0 27) fun a99 => gd (isK h95 a99 99) (gd (inb (0 : Int32) (hpL h95 a99)) (nm (wI h95 a99 (0 : Int32).toNatClampNeg (hpI h95 y0 31)) fun h103 => if 0 ≤ y3 then (dr (hpR h103 y0 4) fun a107 => gd (isK h103 a107 79) (gd (inb y3 (hpL h103 a107)) (dr (hpR h103 y0 5) fun a111 => gd (isK h103 a111 80) (gd (inb y3 (hpL h103 a111)) (j_M_crash_250_M y0 (((nI 32) * (hpI h103 a107 y3.toNatClampNeg)) + (hpI h103 a111 y3.toNatClampNeg)) (0 : Int32) (hpR h103 y0 29) h103))))) else (j_M_crash_250_M y0 (0 : Int32) (0 : Int32) (hpR h103 y0 29) h103)))))
set_option maxRecDepth 100000 in
set_option maxHeartbeats 4000000 in
theorem zj_M_crash_208_M {l : Launch} {C : Ct} {mi : Nat} {y0 : Nat} {y3 : Int32} {w0 : Int32} {w1 : Nat} {h h' : Hp} {v : Int32} (hf : j_M_crash_208_M y0 y3 w0 w1 h = some (v, h')) : Z l C mi m_M_crash 4 208 [(0, vr (some y0)), (3, vi y3)] [vi w0, vr (some w1)] h (some (vi v)) h' := by
  unfold j_M_crash_208_M at hf
  obtain ⟨g94, hf⟩ := gd_some hf
  obtain ⟨h95, eh96, hf⟩ := nm_some hf
  refine z_putI d_M_crash_208 (fl_K (isK_eq g94) fl_M_119_8) (pu_K (isK_eq g94) (fun q hq => by cases (Option.some.inj hq); exact Or.inl rfl)) (fi_K (isK_eq g94) rfl) rfl ?_
  refine z_hp eh96 ?_
  refine z_aload_n 0 d_M_crash_211 rfl rfl ?_
  obtain ⟨g98, hf⟩ := gd_some hf
  refine z_getR d_M_crash_212 (fl_K (isK_eq g98) fl_M_87_8) (fi_K (isK_eq g98) rfl) rfl ?_
  refine z_iconst (v := (0 : Int32)) d_M_crash_215 (by decide) ?_
  refine z_aload_n 0 d_M_crash_216 rfl rfl ?_
  refine z_getI d_M_crash_217 (fl_K (isK_eq g98) fl_M_119_8) (fi_K (isK_eq g98) rfl) rfl ?_
  obtain ⟨a99, e100, hf⟩ := dr_some hf
  obtain ⟨g101, hf⟩ := gd_some hf
  obtain ⟨g102, hf⟩ := gd_some hf
  obtain ⟨h103, eh104, hf⟩ := nm_some hf
  refine z_iast d_M_crash_220 e100 (by rw [isK_eq g101]; decide) (by rw [isK_eq g101]; rfl) (inb_vp g102) ?_
  refine z_hp eh104 ?_
  refine z_aload_n 0 d_M_crash_221 rfl rfl ?_
  refine z_getR d_M_crash_222 (fl_K (isK_eq (isK_wI eh104 g98)) fl_M_93_8) (fi_K (isK_eq (isK_wI eh104 g98)) rfl) rfl ?_
  refine z_iconst (v := (0 : Int32)) d_M_crash_225 (by decide) ?_
  refine z_iload_n 1 d_M_crash_226 rfl rfl ?_
  refine z_if_ge (tgt := 234) d_M_crash_227 (by decide) (fun c106 => ?_) (fun c106 => ?_)
  · rw [if_pos c106] at hf
    refine z_bipush (v := (nI 32)) d_M_crash_234 (by decide) ?_
    refine z_aload_n 0 d_M_crash_236 rfl rfl ?_
    refine z_getR d_M_crash_237 (fl_K (isK_eq (isK_wI eh104 g98)) fl_M_23_8) (fi_K (isK_eq (isK_wI eh104 g98)) rfl) rfl ?_
    refine z_iload_n 1 d_M_crash_240 rfl rfl ?_
    obtain ⟨a107, e108, hf⟩ := dr_some hf
    obtain ⟨g109, hf⟩ := gd_some hf
    obtain ⟨g110, hf⟩ := gd_some hf
    refine z_iald d_M_crash_241 e108 (by rw [isK_eq g109]; decide) (by rw [isK_eq g109]; rfl) (inb_vp g110) ?_
    refine z_imul d_M_crash_242 ?_
    refine z_aload_n 0 d_M_crash_243 rfl rfl ?_
    refine z_getR d_M_crash_244 (fl_K (isK_eq (isK_wI eh104 g98)) fl_M_26_8) (fi_K (isK_eq (isK_wI eh104 g98)) rfl) rfl ?_
    refine z_iload_n 1 d_M_crash_247 rfl rfl ?_
    obtain ⟨a111, e112, hf⟩ := dr_some hf
    obtain ⟨g113, hf⟩ := gd_some hf
    obtain ⟨g114, hf⟩ := gd_some hf
    refine z_iald d_M_crash_248 e112 (by rw [isK_eq g113]; decide) (by rw [isK_eq g113]; rfl) (inb_vp g114) ?_
    refine z_iadd d_M_crash_249 ?_
    refine z_ls [0] rfl ?_
    exact zj_M_crash_250_M hf
  · rw [if_neg c106] at hf
    refine z_iconst (v := (0 : Int32)) d_M_crash_230 (by decide) ?_
    refine z_goto (tgt := 250) d_M_crash_231 (by decide) ?_
    refine z_ls [0] rfl ?_
    exact zj_M_crash_250_M hf
set_option maxRecDepth 100000 in
set_option maxHeartbeats 4000000 in
theorem kj_M_crash_208_M {C : Ct} {mi : Nat} {y0 : Nat} {y3 : Int32} {w0 : Int32} {w1 : Nat} {h h' : Hp} {v : Int32} (hf : j_M_crash_208_M y0 y3 w0 w1 h = some (v, h')) : Keep W_M_crash h h' := by
  unfold j_M_crash_208_M at hf
  obtain ⟨g94, hf⟩ := gd_some hf
  obtain ⟨h95, eh96, hf⟩ := nm_some hf
  have K97 := (Keep.refl W_M_crash _).trans (kw_I eh96 (isK_eq g94) (Or.inl (by decide)))
  obtain ⟨g98, hf⟩ := gd_some hf
  obtain ⟨a99, e100, hf⟩ := dr_some hf
  obtain ⟨g101, hf⟩ := gd_some hf
  obtain ⟨g102, hf⟩ := gd_some hf
  obtain ⟨h103, eh104, hf⟩ := nm_some hf
  have K105 := K97.trans (kw_I eh104 (isK_eq g101) (Or.inr (by decide)))
  rcases Classical.em (0 ≤ y3) with c106 | c106
  · rw [if_pos c106] at hf
    obtain ⟨a107, e108, hf⟩ := dr_some hf
    obtain ⟨g109, hf⟩ := gd_some hf
    obtain ⟨g110, hf⟩ := gd_some hf
    obtain ⟨a111, e112, hf⟩ := dr_some hf
    obtain ⟨g113, hf⟩ := gd_some hf
    obtain ⟨g114, hf⟩ := gd_some hf
    exact K105.trans (kj_M_crash_250_M (C := C) (mi := mi) hf)
  · rw [if_neg c106] at hf
    exact K105.trans (kj_M_crash_250_M (C := C) (mi := mi) hf)
def f_M_crash (a0 : Nat) (p1 : Int32) (p2 : Int32) (h : Hp) : Option (Int32 × Hp) :=
  gd (isK h a0 8) (cl (f_M_in p1 ((hpI h a0 19) + (1 : Int32)) h) fun v4 h2 => if v4 = 0 then (some ((-1 : Int32), h2)) else (cl (f_M_in p2 (nI 65536) h2) fun v9 h7 => if v9 = 0 then (some ((-1 : Int32), h7)) else (bd (l_M_crash_26 a0 p1 p2 (p1, h7)) fun x43 => gd (isK x43 a0 8) (cv (f_M_keepAll a0 x43) fun h47 => gd (isK h47 a0 8) (cv (f_M_purge a0 h47) fun h51 => bd (l_M_crash_114 a0 ((-1 : Int32), (0 : Int32), h51)) fun x75 => gd (isK x75.2 a0 8) (nm (wI x75.2 a0 30 (1 : Int32)) fun h79 => dr (hpR h79 a0 28) fun a82 => gd (isK h79 a82 100) (gd (inb (0 : Int32) (hpL h79 a82)) (nm (wI h79 a82 (0 : Int32).toNatClampNeg (0 : Int32)) fun h86 => if 0 ≤ x75.1 then (dr (hpR h86 a0 8) fun a90 => gd (isK h86 a90 83) (gd (inb x75.1 (hpL h86 a90)) (j_M_crash_208_M a0 x75.1 (hpI h86 a90 x75.1.toNatClampNeg) a0 h86))) else (j_M_crash_208_M a0 x75.1 (0 : Int32) a0 h86)))))))))
set_option maxRecDepth 100000 in
set_option maxHeartbeats 4000000 in
theorem zf_M_crash {l : Launch} {C : Ct} {mi : Nat} {a0 : Nat} {p1 : Int32} {p2 : Int32} {h h' : Hp} {v : Int32} (hf : f_M_crash a0 p1 p2 h = some (v, h')) : Z l C mi m_M_crash 4 0 [(0, vr (some a0)), (1, vi p1), (2, vi p2)] [] h (some (vi v)) h' := by
  unfold f_M_crash at hf
  refine z_iload_n 1 d_M_crash_0 rfl rfl ?_
  refine z_aload_n 0 d_M_crash_1 rfl rfl ?_
  obtain ⟨g1, hf⟩ := gd_some hf
  refine z_getI d_M_crash_2 (fl_K (isK_eq g1) fl_M_156_8) (fi_K (isK_eq g1) rfl) rfl ?_
  refine z_iconst (v := (1 : Int32)) d_M_crash_5 (by decide) ?_
  refine z_iadd d_M_crash_6 ?_
  obtain ⟨v4, h2, ec3, hf⟩ := cl_some hf
  refine z_callS (c_M_in ec3) d_M_crash_7 cw_M_in lk_M_125 (by decide +kernel) ⟨by decide, by decide⟩ (Nat.le_of_ble_eq_true rfl) rfl ?_
  refine z_if_eq (tgt := 22) d_M_crash_10 (by decide) (fun c6 => ?_) (fun c6 => ?_)
  · rw [if_pos c6] at hf
    refine z_iconst (v := (-1 : Int32)) d_M_crash_22 (by decide) ?_
    obtain ⟨rfl, rfl⟩ := Prod.mk.inj (Option.some.inj hf)
    exact z_ret d_M_crash_23 rfl
  · rw [if_neg c6] at hf
    refine z_iload_n 2 d_M_crash_13 rfl rfl ?_
    refine z_ldc (v := (nI 65536)) d_M_crash_14 (by decide +kernel) ?_
    obtain ⟨v9, h7, ec8, hf⟩ := cl_some hf
    refine z_callS (c_M_in ec8) d_M_crash_16 cw_M_in lk_M_125 (by decide +kernel) ⟨by decide, by decide⟩ (Nat.le_of_ble_eq_true rfl) rfl ?_
    refine z_if_ne (tgt := 24) d_M_crash_19 (by decide) (fun c11 => ?_) (fun c11 => ?_)
    · rw [if_neg c11] at hf
      refine z_iload_n 1 d_M_crash_24 rfl rfl ?_
      refine z_istore_n (ls2 := [(3, vi p1), (0, vr (some a0)), (1, vi p1), (2, vi p2)]) d_M_crash_25 rfl (by decide) rfl ?_
      obtain ⟨x43, el44, hf⟩ := bd_some hf
      refine z_ls [1, 2, 3, 0] rfl ?_
      refine zl_M_crash_26 el44 ?_
      refine z_aload_n 0 d_M_crash_101 rfl rfl ?_
      obtain ⟨g46, hf⟩ := gd_some hf
      obtain ⟨h47, ec48, hf⟩ := cv_some hf
      refine z_callVx rfl (c_M_keepAll ec48) d_M_crash_102 cw_M_keepAll lk_M_193 im_M_keepAll se_M_keepAll (kc_K (isK_eq g46) kc_8) ⟨by decide, by decide⟩ (Nat.le_of_ble_eq_true rfl) rfl ?_
      refine z_aload_n 0 d_M_crash_105 rfl rfl ?_
      obtain ⟨g50, hf⟩ := gd_some hf
      obtain ⟨h51, ec52, hf⟩ := cv_some hf
      refine z_callVx rfl (c_M_purge ec52) d_M_crash_106 cw_M_purge lk_M_166 im_M_purge se_M_purge (kc_K (isK_eq g50) kc_8) ⟨by decide, by decide⟩ (Nat.le_of_ble_eq_true rfl) rfl ?_
      refine z_iconst (v := (-1 : Int32)) d_M_crash_109 (by decide) ?_
      refine z_istore_n (ls2 := [(3, vi (-1 : Int32)), (0, vr (some a0))]) d_M_crash_110 rfl (by decide) rfl ?_
      refine z_iconst (v := (0 : Int32)) d_M_crash_111 (by decide) ?_
      refine z_istore (ls2 := [(4, vi (0 : Int32)), (3, vi (-1 : Int32)), (0, vr (some a0))]) d_M_crash_112 (by decide) rfl ?_
      obtain ⟨x75, el76, hf⟩ := bd_some hf
      refine z_ls [2, 1, 0] rfl ?_
      refine zl_M_crash_114 el76 ?_
      refine z_aload_n 0 d_M_crash_181 rfl rfl ?_
      refine z_iconst (v := (1 : Int32)) d_M_crash_182 (by decide) ?_
      obtain ⟨g78, hf⟩ := gd_some hf
      obtain ⟨h79, eh80, hf⟩ := nm_some hf
      refine z_putI d_M_crash_183 (fl_K (isK_eq g78) fl_M_96_8) (pu_K (isK_eq g78) (fun q hq => by cases (Option.some.inj hq); exact Or.inl rfl)) (fi_K (isK_eq g78) rfl) rfl ?_
      refine z_hp eh80 ?_
      refine z_aload_n 0 d_M_crash_186 rfl rfl ?_
      refine z_getR d_M_crash_187 (fl_K (isK_eq (isK_wI eh80 g78)) fl_M_90_8) (fi_K (isK_eq (isK_wI eh80 g78)) rfl) rfl ?_
      refine z_iconst (v := (0 : Int32)) d_M_crash_190 (by decide) ?_
      refine z_iconst (v := (0 : Int32)) d_M_crash_191 (by decide) ?_
      obtain ⟨a82, e83, hf⟩ := dr_some hf
      obtain ⟨g84, hf⟩ := gd_some hf
      obtain ⟨g85, hf⟩ := gd_some hf
      obtain ⟨h86, eh87, hf⟩ := nm_some hf
      refine z_iast d_M_crash_192 e83 (by rw [isK_eq g84]; decide) (by rw [isK_eq g84]; rfl) (inb_vp g85) ?_
      refine z_hp eh87 ?_
      refine z_aload_n 0 d_M_crash_193 rfl rfl ?_
      refine z_iload_n 1 d_M_crash_194 rfl rfl ?_
      refine z_if_ge (tgt := 202) d_M_crash_195 (by decide) (fun c89 => ?_) (fun c89 => ?_)
      · rw [if_pos c89] at hf
        refine z_aload_n 0 d_M_crash_202 rfl rfl ?_
        refine z_getR d_M_crash_203 (fl_K (isK_eq (isK_wI eh87 (isK_wI eh80 g78))) fl_M_35_8) (fi_K (isK_eq (isK_wI eh87 (isK_wI eh80 g78))) rfl) rfl ?_
        refine z_iload_n 1 d_M_crash_206 rfl rfl ?_
        obtain ⟨a90, e91, hf⟩ := dr_some hf
        obtain ⟨g92, hf⟩ := gd_some hf
        obtain ⟨g93, hf⟩ := gd_some hf
        refine z_iald d_M_crash_207 e91 (by rw [isK_eq g92]; decide) (by rw [isK_eq g92]; rfl) (inb_vp g93) ?_
        refine z_ls [0, 1] rfl ?_
        exact zj_M_crash_208_M hf
      · rw [if_neg c89] at hf
        refine z_iconst (v := (0 : Int32)) d_M_crash_198 (by decide) ?_
        refine z_goto (tgt := 208) d_M_crash_199 (by decide) ?_
        refine z_ls [0, 1] rfl ?_
        exact zj_M_crash_208_M hf
    · rw [if_pos c11] at hf
      refine z_iconst (v := (-1 : Int32)) d_M_crash_22 (by decide) ?_
      obtain ⟨rfl, rfl⟩ := Prod.mk.inj (Option.some.inj hf)
      exact z_ret d_M_crash_23 rfl
set_option maxRecDepth 100000 in
set_option maxHeartbeats 4000000 in
theorem fr_M_crash {C : Ct} {mi : Nat} {a0 : Nat} {p1 : Int32} {p2 : Int32} {h h' : Hp} {v : Int32} (hf : f_M_crash a0 p1 p2 h = some (v, h')) : Keep W_M_crash h h' := by
  unfold f_M_crash at hf
  obtain ⟨g1, hf⟩ := gd_some hf
  obtain ⟨v4, h2, ec3, hf⟩ := cl_some hf
  have K5 := (Keep.refl W_M_crash _).trans ((fr_M_in (C := C) (mi := mi) ec3).mono (by decide) (by decide))
  rcases Classical.em (v4 = 0) with c6 | c6
  · rw [if_pos c6] at hf
    obtain ⟨rfl, rfl⟩ := Prod.mk.inj (Option.some.inj hf)
    exact K5
  · rw [if_neg c6] at hf
    obtain ⟨v9, h7, ec8, hf⟩ := cl_some hf
    have K10 := K5.trans ((fr_M_in (C := C) (mi := mi) ec8).mono (by decide) (by decide))
    rcases (Classical.em (v9 = 0)).symm with c11 | c11
    · rw [if_neg c11] at hf
      obtain ⟨x43, el44, hf⟩ := bd_some hf
      have K45 := K10.trans (kl_M_crash_26 (C := C) (mi := mi) el44)
      obtain ⟨g46, hf⟩ := gd_some hf
      obtain ⟨h47, ec48, hf⟩ := cv_some hf
      have K49 := K45.trans ((fr_M_keepAll (C := C) (mi := mi) ec48).mono (by decide) (by decide))
      obtain ⟨g50, hf⟩ := gd_some hf
      obtain ⟨h51, ec52, hf⟩ := cv_some hf
      have K53 := K49.trans ((fr_M_purge (C := C) (mi := mi) ec52).mono (by decide) (by decide))
      obtain ⟨x75, el76, hf⟩ := bd_some hf
      have K77 := K53.trans (kl_M_crash_114 (C := C) (mi := mi) el76)
      obtain ⟨g78, hf⟩ := gd_some hf
      obtain ⟨h79, eh80, hf⟩ := nm_some hf
      have K81 := K77.trans (kw_I eh80 (isK_eq g78) (Or.inl (by decide)))
      obtain ⟨a82, e83, hf⟩ := dr_some hf
      obtain ⟨g84, hf⟩ := gd_some hf
      obtain ⟨g85, hf⟩ := gd_some hf
      obtain ⟨h86, eh87, hf⟩ := nm_some hf
      have K88 := K81.trans (kw_I eh87 (isK_eq g84) (Or.inr (by decide)))
      rcases Classical.em (0 ≤ x75.1) with c89 | c89
      · rw [if_pos c89] at hf
        obtain ⟨a90, e91, hf⟩ := dr_some hf
        obtain ⟨g92, hf⟩ := gd_some hf
        obtain ⟨g93, hf⟩ := gd_some hf
        exact K88.trans (kj_M_crash_208_M (C := C) (mi := mi) hf)
      · rw [if_neg c89] at hf
        exact K88.trans (kj_M_crash_208_M (C := C) (mi := mi) hf)
    · rw [if_pos c11] at hf
      obtain ⟨rfl, rfl⟩ := Prod.mk.inj (Option.some.inj hf)
      exact K10
theorem c_M_crash {l : Launch} {C : Ct} {mi : Nat} {a0 : Nat} {p1 : Int32} {p2 : Int32} {h h' : Hp} {v : Int32} (hf : f_M_crash a0 p1 p2 h = some (v, h')) : Mt l C mi m_M_crash 4 [vr (some a0), vi p1, vi p2] h (some (vi v)) h' := mt_I (ty := .int) rfl rfl rfl (by decide) (Nat.le_of_ble_eq_true rfl) (zf_M_crash hf)
-- VersionMapsModel.chunk(II)I
def m_M_chunk : Mi := (⟨"VersionMapsModel", "chunk", "(II)I"⟩, prog_11_method_40_code, 3, (Option.some Jvm.ClassFile.FieldType.int), .ireturn)
theorem cw_M_chunk : cw_ok m_M_chunk 2 := ⟨by decide +kernel, by decide +kernel, by decide +kernel, by decide +kernel⟩
theorem im_M_chunk : Cond.instanceMethod m_M_chunk.1 ∈ lw_w := by decide +kernel
theorem se_M_chunk : Cond.selects "VersionMapsModel" m_M_chunk.1 m_M_chunk.1 ∈ lw_w := by decide +kernel
theorem d_M_chunk_0 : decode prog_11_method_40_code 0 = .ok (.iload_n 1, 1) := by decide +kernel
theorem d_M_chunk_1 : decode prog_11_method_40_code 1 = .ok (.aload_n 0, 1) := by decide +kernel
theorem d_M_chunk_2 : decode prog_11_method_40_code 2 = .ok (.getfield 153, 3) := by decide +kernel
theorem d_M_chunk_5 : decode prog_11_method_40_code 5 = .ok (.invokestatic 125, 3) := by decide +kernel
theorem d_M_chunk_8 : decode prog_11_method_40_code 8 = .ok (.ifCond .ne 5, 3) := by decide +kernel
theorem d_M_chunk_11 : decode prog_11_method_40_code 11 = .ok (.iconst (-1), 1) := by decide +kernel
theorem d_M_chunk_12 : decode prog_11_method_40_code 12 = .ok (.ireturn, 1) := by decide +kernel
theorem d_M_chunk_13 : decode prog_11_method_40_code 13 = .ok (.iload_n 2, 1) := by decide +kernel
theorem d_M_chunk_14 : decode prog_11_method_40_code 14 = .ok (.tableswitch 83 0 5 #[38, 45, 52, 59, 66, 76], 38) := by decide +kernel
theorem d_M_chunk_52 : decode prog_11_method_40_code 52 = .ok (.aload_n 0, 1) := by decide +kernel
theorem d_M_chunk_53 : decode prog_11_method_40_code 53 = .ok (.getfield 68, 3) := by decide +kernel
theorem d_M_chunk_56 : decode prog_11_method_40_code 56 = .ok (.iload_n 1, 1) := by decide +kernel
theorem d_M_chunk_57 : decode prog_11_method_40_code 57 = .ok (.iaload, 1) := by decide +kernel
theorem d_M_chunk_58 : decode prog_11_method_40_code 58 = .ok (.ireturn, 1) := by decide +kernel
theorem d_M_chunk_59 : decode prog_11_method_40_code 59 = .ok (.aload_n 0, 1) := by decide +kernel
theorem d_M_chunk_60 : decode prog_11_method_40_code 60 = .ok (.getfield 71, 3) := by decide +kernel
theorem d_M_chunk_63 : decode prog_11_method_40_code 63 = .ok (.iload_n 1, 1) := by decide +kernel
theorem d_M_chunk_64 : decode prog_11_method_40_code 64 = .ok (.iaload, 1) := by decide +kernel
theorem d_M_chunk_65 : decode prog_11_method_40_code 65 = .ok (.ireturn, 1) := by decide +kernel
theorem d_M_chunk_66 : decode prog_11_method_40_code 66 = .ok (.aload_n 0, 1) := by decide +kernel
theorem d_M_chunk_67 : decode prog_11_method_40_code 67 = .ok (.getfield 74, 3) := by decide +kernel
theorem d_M_chunk_70 : decode prog_11_method_40_code 70 = .ok (.iload_n 1, 1) := by decide +kernel
theorem d_M_chunk_71 : decode prog_11_method_40_code 71 = .ok (.iaload, 1) := by decide +kernel
theorem d_M_chunk_72 : decode prog_11_method_40_code 72 = .ok (.ireturn, 1) := by decide +kernel
theorem d_M_chunk_73 : decode prog_11_method_40_code 73 = .ok (.aload_n 0, 1) := by decide +kernel
theorem d_M_chunk_74 : decode prog_11_method_40_code 74 = .ok (.getfield 77, 3) := by decide +kernel
theorem d_M_chunk_77 : decode prog_11_method_40_code 77 = .ok (.iload_n 1, 1) := by decide +kernel
theorem d_M_chunk_78 : decode prog_11_method_40_code 78 = .ok (.iaload, 1) := by decide +kernel
theorem d_M_chunk_79 : decode prog_11_method_40_code 79 = .ok (.ireturn, 1) := by decide +kernel
theorem d_M_chunk_80 : decode prog_11_method_40_code 80 = .ok (.aload_n 0, 1) := by decide +kernel
theorem d_M_chunk_81 : decode prog_11_method_40_code 81 = .ok (.invokevirtual 187, 3) := by decide +kernel
theorem d_M_chunk_84 : decode prog_11_method_40_code 84 = .ok (.aload_n 0, 1) := by decide +kernel
theorem d_M_chunk_85 : decode prog_11_method_40_code 85 = .ok (.iload_n 1, 1) := by decide +kernel
theorem d_M_chunk_86 : decode prog_11_method_40_code 86 = .ok (.invokevirtual 190, 3) := by decide +kernel
theorem d_M_chunk_89 : decode prog_11_method_40_code 89 = .ok (.ireturn, 1) := by decide +kernel
theorem d_M_chunk_90 : decode prog_11_method_40_code 90 = .ok (.aload_n 0, 1) := by decide +kernel
theorem d_M_chunk_91 : decode prog_11_method_40_code 91 = .ok (.getfield 80, 3) := by decide +kernel
theorem d_M_chunk_94 : decode prog_11_method_40_code 94 = .ok (.iload_n 1, 1) := by decide +kernel
theorem d_M_chunk_95 : decode prog_11_method_40_code 95 = .ok (.iaload, 1) := by decide +kernel
theorem d_M_chunk_96 : decode prog_11_method_40_code 96 = .ok (.ireturn, 1) := by decide +kernel
theorem d_M_chunk_97 : decode prog_11_method_40_code 97 = .ok (.iconst (-1), 1) := by decide +kernel
theorem d_M_chunk_98 : decode prog_11_method_40_code 98 = .ok (.ireturn, 1) := by decide +kernel
def W_M_chunk : Wl := ([], [87])
def f_M_chunk (a0 : Nat) (p1 : Int32) (p2 : Int32) (h : Hp) : Option (Int32 × Hp) :=
  gd (isK h a0 8) (cl (f_M_in p1 (hpI h a0 25) h) fun v4 h2 => if v4 = 0 then (some ((-1 : Int32), h2)) else (if p2 = (0 : Int32) then (gd (isK h2 a0 8) (dr (hpR h2 a0 20) fun a9 => gd (isK h2 a9 94) (gd (inb p1 (hpL h2 a9)) (some ((hpI h2 a9 p1.toNatClampNeg), h2))))) else if p2 = (1 : Int32) then (gd (isK h2 a0 8) (dr (hpR h2 a0 21) fun a15 => gd (isK h2 a15 95) (gd (inb p1 (hpL h2 a15)) (some ((hpI h2 a15 p1.toNatClampNeg), h2))))) else if p2 = (nI 2) then (gd (isK h2 a0 8) (dr (hpR h2 a0 22) fun a21 => gd (isK h2 a21 96) (gd (inb p1 (hpL h2 a21)) (some ((hpI h2 a21 p1.toNatClampNeg), h2))))) else if p2 = (nI 3) then (gd (isK h2 a0 8) (dr (hpR h2 a0 23) fun a27 => gd (isK h2 a27 97) (gd (inb p1 (hpL h2 a27)) (some ((hpI h2 a27 p1.toNatClampNeg), h2))))) else if p2 = (nI 4) then (gd (isK h2 a0 8) (cv (f_M_markKept a0 h2) fun h33 => gd (isK h33 a0 8) (cl (f_M_liveOf a0 p1 h33) fun v39 h37 => some (v39, h37)))) else if p2 = (nI 5) then (gd (isK h2 a0 8) (dr (hpR h2 a0 24) fun a43 => gd (isK h2 a43 98) (gd (inb p1 (hpL h2 a43)) (some ((hpI h2 a43 p1.toNatClampNeg), h2))))) else (some ((-1 : Int32), h2))))
set_option maxRecDepth 100000 in
set_option maxHeartbeats 4000000 in
theorem zf_M_chunk {l : Launch} {C : Ct} {mi : Nat} {a0 : Nat} {p1 : Int32} {p2 : Int32} {h h' : Hp} {v : Int32} (hf : f_M_chunk a0 p1 p2 h = some (v, h')) : Z l C mi m_M_chunk 3 0 [(0, vr (some a0)), (1, vi p1), (2, vi p2)] [] h (some (vi v)) h' := by
  unfold f_M_chunk at hf
  refine z_iload_n 1 d_M_chunk_0 rfl rfl ?_
  refine z_aload_n 0 d_M_chunk_1 rfl rfl ?_
  obtain ⟨g1, hf⟩ := gd_some hf
  refine z_getI d_M_chunk_2 (fl_K (isK_eq g1) fl_M_153_8) (fi_K (isK_eq g1) rfl) rfl ?_
  obtain ⟨v4, h2, ec3, hf⟩ := cl_some hf
  refine z_callS (c_M_in ec3) d_M_chunk_5 cw_M_in lk_M_125 (by decide +kernel) ⟨by decide, by decide⟩ (Nat.le_of_ble_eq_true rfl) rfl ?_
  refine z_if_ne (tgt := 13) d_M_chunk_8 (by decide) (fun c6 => ?_) (fun c6 => ?_)
  · rw [if_neg c6] at hf
    refine z_iload_n 2 d_M_chunk_13 rfl rfl ?_
    by_cases c7 : p2 = (0 : Int32)
    · rw [if_pos c7] at hf
      refine z_tabIn (off := 38) (tgt := 52) d_M_chunk_14 (by rw [c7]; decide) (by rw [c7]; decide) (by rw [c7]; rfl) (by decide) ?_
      refine z_aload_n 0 d_M_chunk_52 rfl rfl ?_
      obtain ⟨g8, hf⟩ := gd_some hf
      refine z_getR d_M_chunk_53 (fl_K (isK_eq g8) fl_M_68_8) (fi_K (isK_eq g8) rfl) rfl ?_
      refine z_iload_n 1 d_M_chunk_56 rfl rfl ?_
      obtain ⟨a9, e10, hf⟩ := dr_some hf
      obtain ⟨g11, hf⟩ := gd_some hf
      obtain ⟨g12, hf⟩ := gd_some hf
      refine z_iald d_M_chunk_57 e10 (by rw [isK_eq g11]; decide) (by rw [isK_eq g11]; rfl) (inb_vp g12) ?_
      obtain ⟨rfl, rfl⟩ := Prod.mk.inj (Option.some.inj hf)
      exact z_ret d_M_chunk_58 rfl
    rw [if_neg c7] at hf
    by_cases c13 : p2 = (1 : Int32)
    · rw [if_pos c13] at hf
      refine z_tabIn (off := 45) (tgt := 59) d_M_chunk_14 (by rw [c13]; decide) (by rw [c13]; decide) (by rw [c13]; rfl) (by decide) ?_
      refine z_aload_n 0 d_M_chunk_59 rfl rfl ?_
      obtain ⟨g14, hf⟩ := gd_some hf
      refine z_getR d_M_chunk_60 (fl_K (isK_eq g14) fl_M_71_8) (fi_K (isK_eq g14) rfl) rfl ?_
      refine z_iload_n 1 d_M_chunk_63 rfl rfl ?_
      obtain ⟨a15, e16, hf⟩ := dr_some hf
      obtain ⟨g17, hf⟩ := gd_some hf
      obtain ⟨g18, hf⟩ := gd_some hf
      refine z_iald d_M_chunk_64 e16 (by rw [isK_eq g17]; decide) (by rw [isK_eq g17]; rfl) (inb_vp g18) ?_
      obtain ⟨rfl, rfl⟩ := Prod.mk.inj (Option.some.inj hf)
      exact z_ret d_M_chunk_65 rfl
    rw [if_neg c13] at hf
    by_cases c19 : p2 = (nI 2)
    · rw [if_pos c19] at hf
      refine z_tabIn (off := 52) (tgt := 66) d_M_chunk_14 (by rw [c19]; decide) (by rw [c19]; decide) (by rw [c19]; rfl) (by decide) ?_
      refine z_aload_n 0 d_M_chunk_66 rfl rfl ?_
      obtain ⟨g20, hf⟩ := gd_some hf
      refine z_getR d_M_chunk_67 (fl_K (isK_eq g20) fl_M_74_8) (fi_K (isK_eq g20) rfl) rfl ?_
      refine z_iload_n 1 d_M_chunk_70 rfl rfl ?_
      obtain ⟨a21, e22, hf⟩ := dr_some hf
      obtain ⟨g23, hf⟩ := gd_some hf
      obtain ⟨g24, hf⟩ := gd_some hf
      refine z_iald d_M_chunk_71 e22 (by rw [isK_eq g23]; decide) (by rw [isK_eq g23]; rfl) (inb_vp g24) ?_
      obtain ⟨rfl, rfl⟩ := Prod.mk.inj (Option.some.inj hf)
      exact z_ret d_M_chunk_72 rfl
    rw [if_neg c19] at hf
    by_cases c25 : p2 = (nI 3)
    · rw [if_pos c25] at hf
      refine z_tabIn (off := 59) (tgt := 73) d_M_chunk_14 (by rw [c25]; decide) (by rw [c25]; decide) (by rw [c25]; rfl) (by decide) ?_
      refine z_aload_n 0 d_M_chunk_73 rfl rfl ?_
      obtain ⟨g26, hf⟩ := gd_some hf
      refine z_getR d_M_chunk_74 (fl_K (isK_eq g26) fl_M_77_8) (fi_K (isK_eq g26) rfl) rfl ?_
      refine z_iload_n 1 d_M_chunk_77 rfl rfl ?_
      obtain ⟨a27, e28, hf⟩ := dr_some hf
      obtain ⟨g29, hf⟩ := gd_some hf
      obtain ⟨g30, hf⟩ := gd_some hf
      refine z_iald d_M_chunk_78 e28 (by rw [isK_eq g29]; decide) (by rw [isK_eq g29]; rfl) (inb_vp g30) ?_
      obtain ⟨rfl, rfl⟩ := Prod.mk.inj (Option.some.inj hf)
      exact z_ret d_M_chunk_79 rfl
    rw [if_neg c25] at hf
    by_cases c31 : p2 = (nI 4)
    · rw [if_pos c31] at hf
      refine z_tabIn (off := 66) (tgt := 80) d_M_chunk_14 (by rw [c31]; decide) (by rw [c31]; decide) (by rw [c31]; rfl) (by decide) ?_
      refine z_aload_n 0 d_M_chunk_80 rfl rfl ?_
      obtain ⟨g32, hf⟩ := gd_some hf
      obtain ⟨h33, ec34, hf⟩ := cv_some hf
      refine z_callVx rfl (c_M_markKept ec34) d_M_chunk_81 cw_M_markKept lk_M_187 im_M_markKept se_M_markKept (kc_K (isK_eq g32) kc_8) ⟨by decide, by decide⟩ (Nat.le_of_ble_eq_true rfl) rfl ?_
      refine z_aload_n 0 d_M_chunk_84 rfl rfl ?_
      refine z_iload_n 1 d_M_chunk_85 rfl rfl ?_
      obtain ⟨g36, hf⟩ := gd_some hf
      obtain ⟨v39, h37, ec38, hf⟩ := cl_some hf
      refine z_callVx rfl (c_M_liveOf ec38) d_M_chunk_86 cw_M_liveOf lk_M_190 im_M_liveOf se_M_liveOf (kc_K (isK_eq g36) kc_8) ⟨by decide, by decide⟩ (Nat.le_of_ble_eq_true rfl) rfl ?_
      obtain ⟨rfl, rfl⟩ := Prod.mk.inj (Option.some.inj hf)
      exact z_ret d_M_chunk_89 rfl
    rw [if_neg c31] at hf
    by_cases c41 : p2 = (nI 5)
    · rw [if_pos c41] at hf
      refine z_tabIn (off := 76) (tgt := 90) d_M_chunk_14 (by rw [c41]; decide) (by rw [c41]; decide) (by rw [c41]; rfl) (by decide) ?_
      refine z_aload_n 0 d_M_chunk_90 rfl rfl ?_
      obtain ⟨g42, hf⟩ := gd_some hf
      refine z_getR d_M_chunk_91 (fl_K (isK_eq g42) fl_M_80_8) (fi_K (isK_eq g42) rfl) rfl ?_
      refine z_iload_n 1 d_M_chunk_94 rfl rfl ?_
      obtain ⟨a43, e44, hf⟩ := dr_some hf
      obtain ⟨g45, hf⟩ := gd_some hf
      obtain ⟨g46, hf⟩ := gd_some hf
      refine z_iald d_M_chunk_95 e44 (by rw [isK_eq g45]; decide) (by rw [isK_eq g45]; rfl) (inb_vp g46) ?_
      obtain ⟨rfl, rfl⟩ := Prod.mk.inj (Option.some.inj hf)
      exact z_ret d_M_chunk_96 rfl
    rw [if_neg c41] at hf
    refine z_tabOut (tgt := 97) d_M_chunk_14 (ts_out 6 (by decide) (fun j hj => ?_)) (by decide) ?_
    · have hj2 : j = 0 ∨ j = 1 ∨ j = 2 ∨ j = 3 ∨ j = 4 ∨ j = 5 := by omega
      rcases hj2 with e | e | e | e | e | e
      · subst e; exact c7
      · subst e; exact c13
      · subst e; exact c19
      · subst e; exact c25
      · subst e; exact c31
      · subst e; exact c41
    refine z_iconst (v := (-1 : Int32)) d_M_chunk_97 (by decide) ?_
    obtain ⟨rfl, rfl⟩ := Prod.mk.inj (Option.some.inj hf)
    exact z_ret d_M_chunk_98 rfl
  · rw [if_pos c6] at hf
    refine z_iconst (v := (-1 : Int32)) d_M_chunk_11 (by decide) ?_
    obtain ⟨rfl, rfl⟩ := Prod.mk.inj (Option.some.inj hf)
    exact z_ret d_M_chunk_12 rfl
set_option maxRecDepth 100000 in
set_option maxHeartbeats 4000000 in
theorem fr_M_chunk {C : Ct} {mi : Nat} {a0 : Nat} {p1 : Int32} {p2 : Int32} {h h' : Hp} {v : Int32} (hf : f_M_chunk a0 p1 p2 h = some (v, h')) : Keep W_M_chunk h h' := by
  unfold f_M_chunk at hf
  obtain ⟨g1, hf⟩ := gd_some hf
  obtain ⟨v4, h2, ec3, hf⟩ := cl_some hf
  have K5 := (Keep.refl W_M_chunk _).trans ((fr_M_in (C := C) (mi := mi) ec3).mono (by decide) (by decide))
  rcases (Classical.em (v4 = 0)).symm with c6 | c6
  · rw [if_neg c6] at hf
    by_cases c7 : p2 = (0 : Int32)
    · rw [if_pos c7] at hf
      obtain ⟨g8, hf⟩ := gd_some hf
      obtain ⟨a9, e10, hf⟩ := dr_some hf
      obtain ⟨g11, hf⟩ := gd_some hf
      obtain ⟨g12, hf⟩ := gd_some hf
      obtain ⟨rfl, rfl⟩ := Prod.mk.inj (Option.some.inj hf)
      exact K5
    rw [if_neg c7] at hf
    by_cases c13 : p2 = (1 : Int32)
    · rw [if_pos c13] at hf
      obtain ⟨g14, hf⟩ := gd_some hf
      obtain ⟨a15, e16, hf⟩ := dr_some hf
      obtain ⟨g17, hf⟩ := gd_some hf
      obtain ⟨g18, hf⟩ := gd_some hf
      obtain ⟨rfl, rfl⟩ := Prod.mk.inj (Option.some.inj hf)
      exact K5
    rw [if_neg c13] at hf
    by_cases c19 : p2 = (nI 2)
    · rw [if_pos c19] at hf
      obtain ⟨g20, hf⟩ := gd_some hf
      obtain ⟨a21, e22, hf⟩ := dr_some hf
      obtain ⟨g23, hf⟩ := gd_some hf
      obtain ⟨g24, hf⟩ := gd_some hf
      obtain ⟨rfl, rfl⟩ := Prod.mk.inj (Option.some.inj hf)
      exact K5
    rw [if_neg c19] at hf
    by_cases c25 : p2 = (nI 3)
    · rw [if_pos c25] at hf
      obtain ⟨g26, hf⟩ := gd_some hf
      obtain ⟨a27, e28, hf⟩ := dr_some hf
      obtain ⟨g29, hf⟩ := gd_some hf
      obtain ⟨g30, hf⟩ := gd_some hf
      obtain ⟨rfl, rfl⟩ := Prod.mk.inj (Option.some.inj hf)
      exact K5
    rw [if_neg c25] at hf
    by_cases c31 : p2 = (nI 4)
    · rw [if_pos c31] at hf
      obtain ⟨g32, hf⟩ := gd_some hf
      obtain ⟨h33, ec34, hf⟩ := cv_some hf
      have K35 := K5.trans ((fr_M_markKept (C := C) (mi := mi) ec34).mono (by decide) (by decide))
      obtain ⟨g36, hf⟩ := gd_some hf
      obtain ⟨v39, h37, ec38, hf⟩ := cl_some hf
      have K40 := K35.trans ((fr_M_liveOf (C := C) (mi := mi) ec38).mono (by decide) (by decide))
      obtain ⟨rfl, rfl⟩ := Prod.mk.inj (Option.some.inj hf)
      exact K40
    rw [if_neg c31] at hf
    by_cases c41 : p2 = (nI 5)
    · rw [if_pos c41] at hf
      obtain ⟨g42, hf⟩ := gd_some hf
      obtain ⟨a43, e44, hf⟩ := dr_some hf
      obtain ⟨g45, hf⟩ := gd_some hf
      obtain ⟨g46, hf⟩ := gd_some hf
      obtain ⟨rfl, rfl⟩ := Prod.mk.inj (Option.some.inj hf)
      exact K5
    rw [if_neg c41] at hf
    obtain ⟨rfl, rfl⟩ := Prod.mk.inj (Option.some.inj hf)
    exact K5
  · rw [if_pos c6] at hf
    obtain ⟨rfl, rfl⟩ := Prod.mk.inj (Option.some.inj hf)
    exact K5
theorem c_M_chunk {l : Launch} {C : Ct} {mi : Nat} {a0 : Nat} {p1 : Int32} {p2 : Int32} {h h' : Hp} {v : Int32} (hf : f_M_chunk a0 p1 p2 h = some (v, h')) : Mt l C mi m_M_chunk 3 [vr (some a0), vi p1, vi p2] h (some (vi v)) h' := mt_I (ty := .int) rfl rfl rfl (by decide) (Nat.le_of_ble_eq_true rfl) (zf_M_chunk hf)
-- VersionMapsModel.block(II)I
def m_M_block : Mi := (⟨"VersionMapsModel", "block", "(II)I"⟩, prog_11_method_41_code, 4, (Option.some Jvm.ClassFile.FieldType.int), .ireturn)
theorem cw_M_block : cw_ok m_M_block 2 := ⟨by decide +kernel, by decide +kernel, by decide +kernel, by decide +kernel⟩
theorem im_M_block : Cond.instanceMethod m_M_block.1 ∈ lw_w := by decide +kernel
theorem se_M_block : Cond.selects "VersionMapsModel" m_M_block.1 m_M_block.1 ∈ lw_w := by decide +kernel
theorem d_M_block_0 : decode prog_11_method_41_code 0 = .ok (.iload_n 1, 1) := by decide +kernel
theorem d_M_block_1 : decode prog_11_method_41_code 1 = .ok (.bipush 32, 2) := by decide +kernel
theorem d_M_block_3 : decode prog_11_method_41_code 3 = .ok (.invokestatic 125, 3) := by decide +kernel
theorem d_M_block_6 : decode prog_11_method_41_code 6 = .ok (.ifCond .ne 5, 3) := by decide +kernel
theorem d_M_block_9 : decode prog_11_method_41_code 9 = .ok (.iconst (-1), 1) := by decide +kernel
theorem d_M_block_10 : decode prog_11_method_41_code 10 = .ok (.ireturn, 1) := by decide +kernel
theorem d_M_block_11 : decode prog_11_method_41_code 11 = .ok (.iload_n 2, 1) := by decide +kernel
theorem d_M_block_12 : decode prog_11_method_41_code 12 = .ok (.tableswitch 91 0 3 #[32, 47, 54, 61], 32) := by decide +kernel
theorem d_M_block_44 : decode prog_11_method_41_code 44 = .ok (.aload_n 0, 1) := by decide +kernel
theorem d_M_block_45 : decode prog_11_method_41_code 45 = .ok (.getfield 65, 3) := by decide +kernel
theorem d_M_block_48 : decode prog_11_method_41_code 48 = .ok (.iload_n 1, 1) := by decide +kernel
theorem d_M_block_49 : decode prog_11_method_41_code 49 = .ok (.baload, 1) := by decide +kernel
theorem d_M_block_50 : decode prog_11_method_41_code 50 = .ok (.ifCond .eq 7, 3) := by decide +kernel
theorem d_M_block_53 : decode prog_11_method_41_code 53 = .ok (.iconst 1, 1) := by decide +kernel
theorem d_M_block_54 : decode prog_11_method_41_code 54 = .ok (.goto 4, 3) := by decide +kernel
theorem d_M_block_57 : decode prog_11_method_41_code 57 = .ok (.iconst 0, 1) := by decide +kernel
theorem d_M_block_58 : decode prog_11_method_41_code 58 = .ok (.ireturn, 1) := by decide +kernel
theorem d_M_block_59 : decode prog_11_method_41_code 59 = .ok (.aload_n 0, 1) := by decide +kernel
theorem d_M_block_60 : decode prog_11_method_41_code 60 = .ok (.getfield 50, 3) := by decide +kernel
theorem d_M_block_63 : decode prog_11_method_41_code 63 = .ok (.iload_n 1, 1) := by decide +kernel
theorem d_M_block_64 : decode prog_11_method_41_code 64 = .ok (.iaload, 1) := by decide +kernel
theorem d_M_block_65 : decode prog_11_method_41_code 65 = .ok (.ireturn, 1) := by decide +kernel
theorem d_M_block_66 : decode prog_11_method_41_code 66 = .ok (.aload_n 0, 1) := by decide +kernel
theorem d_M_block_67 : decode prog_11_method_41_code 67 = .ok (.getfield 53, 3) := by decide +kernel
theorem d_M_block_70 : decode prog_11_method_41_code 70 = .ok (.iload_n 1, 1) := by decide +kernel
theorem d_M_block_71 : decode prog_11_method_41_code 71 = .ok (.iaload, 1) := by decide +kernel
theorem d_M_block_72 : decode prog_11_method_41_code 72 = .ok (.ireturn, 1) := by decide +kernel
theorem d_M_block_73 : decode prog_11_method_41_code 73 = .ok (.iconst 0, 1) := by decide +kernel
theorem d_M_block_74 : decode prog_11_method_41_code 74 = .ok (.istore_n 3, 1) := by decide +kernel
theorem d_M_block_75 : decode prog_11_method_41_code 75 = .ok (.iload_n 3, 1) := by decide +kernel
theorem d_M_block_76 : decode prog_11_method_41_code 76 = .ok (.aload_n 0, 1) := by decide +kernel
theorem d_M_block_77 : decode prog_11_method_41_code 77 = .ok (.getfield 156, 3) := by decide +kernel
theorem d_M_block_80 : decode prog_11_method_41_code 80 = .ok (.if_icmp .ge 21, 3) := by decide +kernel
theorem d_M_block_83 : decode prog_11_method_41_code 83 = .ok (.aload_n 0, 1) := by decide +kernel
theorem d_M_block_84 : decode prog_11_method_41_code 84 = .ok (.getfield 62, 3) := by decide +kernel
theorem d_M_block_87 : decode prog_11_method_41_code 87 = .ok (.iload_n 3, 1) := by decide +kernel
theorem d_M_block_88 : decode prog_11_method_41_code 88 = .ok (.iaload, 1) := by decide +kernel
theorem d_M_block_89 : decode prog_11_method_41_code 89 = .ok (.iload_n 1, 1) := by decide +kernel
theorem d_M_block_90 : decode prog_11_method_41_code 90 = .ok (.if_icmp .ne 5, 3) := by decide +kernel
theorem d_M_block_93 : decode prog_11_method_41_code 93 = .ok (.iconst 1, 1) := by decide +kernel
theorem d_M_block_94 : decode prog_11_method_41_code 94 = .ok (.ireturn, 1) := by decide +kernel
theorem d_M_block_95 : decode prog_11_method_41_code 95 = .ok (.iinc 3 1, 3) := by decide +kernel
theorem d_M_block_98 : decode prog_11_method_41_code 98 = .ok (.goto (-23), 3) := by decide +kernel
theorem d_M_block_101 : decode prog_11_method_41_code 101 = .ok (.iconst 0, 1) := by decide +kernel
theorem d_M_block_102 : decode prog_11_method_41_code 102 = .ok (.ireturn, 1) := by decide +kernel
theorem d_M_block_103 : decode prog_11_method_41_code 103 = .ok (.iconst (-1), 1) := by decide +kernel
theorem d_M_block_104 : decode prog_11_method_41_code 104 = .ok (.ireturn, 1) := by decide +kernel
def W_M_block : Wl := ([], [])
def b_M_block_75 (y0 : Nat) (y1 : Int32) (y3 : Int32) (h : Hp) : Option ((Int32 × Hp) ⊕ ((Hp) ⊕ (Int32 × Hp))) :=
  gd (isK h y0 8) (if (hpI h y0 19) ≤ y3 then (some (.inr (.inl h))) else (dr (hpR h y0 17) fun a28 => gd (isK h a28 92) (gd (inb y3 (hpL h a28)) (if (hpI h a28 y3.toNatClampNeg) = y1 then (some (.inr (.inr ((1 : Int32), h)))) else (some (.inl ((y3 + (1 : Int32)), h)))))))
set_option maxRecDepth 100000 in
set_option maxHeartbeats 4000000 in
theorem zb_M_block_75 {l : Launch} {C : Ct} {mi : Nat} {y0 : Nat} {y1 : Int32} {y3 : Int32} {h h' : Hp} {v : Int32} {q : ((Int32 × Hp) ⊕ ((Hp) ⊕ (Int32 × Hp)))} (hf : b_M_block_75 y0 y1 y3 h = some q) (kc : ∀ s, q = .inl s → Z l C mi m_M_block 1 75 [(0, vr (some y0)), (1, vi y1), (3, vi s.1)] [] s.2 (some (vi v)) h') (ke : ∀ x, q = .inr (.inl x) → Z l C mi m_M_block 1 101 [] [] x (some (vi v)) h') (kr : ∀ rv rh, q = .inr (.inr (rv, rh)) → v = rv ∧ h' = rh) : Z l C mi m_M_block 1 75 [(0, vr (some y0)), (1, vi y1), (3, vi y3)] [] h (some (vi v)) h' := by
  unfold b_M_block_75 at hf
  refine z_iload_n 2 d_M_block_75 rfl rfl ?_
  refine z_aload_n 0 d_M_block_76 rfl rfl ?_
  obtain ⟨g26, hf⟩ := gd_some hf
  refine z_getI d_M_block_77 (fl_K (isK_eq g26) fl_M_156_8) (fi_K (isK_eq g26) rfl) rfl ?_
  refine z_icmp_ge (tgt := 101) d_M_block_80 (by decide) (fun c27 => ?_) (fun c27 => ?_)
  · rw [if_pos c27] at hf
    refine z_ls [] rfl ?_
    exact ke h (Option.some.inj hf).symm
  · rw [if_neg c27] at hf
    refine z_aload_n 0 d_M_block_83 rfl rfl ?_
    refine z_getR d_M_block_84 (fl_K (isK_eq g26) fl_M_62_8) (fi_K (isK_eq g26) rfl) rfl ?_
    refine z_iload_n 2 d_M_block_87 rfl rfl ?_
    obtain ⟨a28, e29, hf⟩ := dr_some hf
    obtain ⟨g30, hf⟩ := gd_some hf
    obtain ⟨g31, hf⟩ := gd_some hf
    refine z_iald d_M_block_88 e29 (by rw [isK_eq g30]; decide) (by rw [isK_eq g30]; rfl) (inb_vp g31) ?_
    refine z_iload_n 1 d_M_block_89 rfl rfl ?_
    refine z_icmp_ne (tgt := 95) d_M_block_90 (by decide) (fun c32 => ?_) (fun c32 => ?_)
    · rw [if_neg c32] at hf
      refine z_iinc (ls2 := [(3, vi (y3 + (1 : Int32))), (0, vr (some y0)), (1, vi y1)]) 2 d_M_block_95 rfl rfl (by decide) rfl ?_
      refine z_goto (tgt := 75) d_M_block_98 (by decide) ?_
      refine z_ls [1, 2, 0] rfl ?_
      exact kc ((y3 + (1 : Int32)), h) (Option.some.inj hf).symm
    · rw [if_pos c32] at hf
      refine z_iconst (v := (1 : Int32)) d_M_block_93 (by decide) ?_
      obtain ⟨rfl, rfl⟩ := kr _ _ (Option.some.inj hf).symm
      exact z_ret d_M_block_94 rfl
set_option maxRecDepth 100000 in
set_option maxHeartbeats 4000000 in
theorem kb_M_block_75 {C : Ct} {mi : Nat} {y0 : Nat} {y1 : Int32} {y3 : Int32} {h : Hp} {q : ((Int32 × Hp) ⊕ ((Hp) ⊕ (Int32 × Hp)))} (hf : b_M_block_75 y0 y1 y3 h = some q) : Keep W_M_block h (Sum.elim (fun s : Int32 × Hp => s.2) (Sum.elim (fun x : Hp => x) (fun r : (Int32 × Hp) => r.2)) q) := by
  unfold b_M_block_75 at hf
  obtain ⟨g26, hf⟩ := gd_some hf
  rcases Classical.em ((hpI h y0 19) ≤ y3) with c27 | c27
  · rw [if_pos c27] at hf
    cases (Option.some.inj hf)
    exact (Keep.refl W_M_block _)
  · rw [if_neg c27] at hf
    obtain ⟨a28, e29, hf⟩ := dr_some hf
    obtain ⟨g30, hf⟩ := gd_some hf
    obtain ⟨g31, hf⟩ := gd_some hf
    rcases (Classical.em ((hpI h a28 y3.toNatClampNeg) = y1)).symm with c32 | c32
    · rw [if_neg c32] at hf
      cases (Option.some.inj hf)
      exact (Keep.refl W_M_block _)
    · rw [if_pos c32] at hf
      cases (Option.some.inj hf)
      exact (Keep.refl W_M_block _)
def l_M_block_75 (y0 : Nat) (y1 : Int32) (s : Int32 × Hp) : Option ((Hp) ⊕ (Int32 × Hp)) := lp (fun s => b_M_block_75 y0 y1 s.1 s.2) FU s
theorem zzl_M_block_75 {l : Launch} {C : Ct} {mi : Nat} {y0 : Nat} {y1 : Int32} {h' : Hp} {v : Int32} : ∀ (n : Nat) (s : Int32 × Hp) (q : ((Hp) ⊕ (Int32 × Hp))), lp (fun s : Int32 × Hp => b_M_block_75 y0 y1 s.1 s.2) n s = some q → (∀ x, q = .inl x → Z l C mi m_M_block 1 101 [] [] x (some (vi v)) h') → (∀ rv rh, q = .inr (rv, rh) → v = rv ∧ h' = rh) → Z l C mi m_M_block 1 75 [(0, vr (some y0)), (1, vi y1), (3, vi s.1)] [] s.2 (some (vi v)) h' := by
  intro n
  induction n with
  | zero => intro s q hl; cases hl
  | succ n ih =>
    intro s q hl ke kr
    rcases lp_some hl with ⟨s2, hb, hl2⟩ | hb
    · exact zb_M_block_75 hb (fun s3 e3 => by cases e3; refine z_ls [0, 1, 2] rfl ?_; exact ih s2 q hl2 ke kr) (fun x e3 => by cases e3) (fun rv rh e3 => by cases e3)
    · exact zb_M_block_75 hb (fun s3 e3 => by cases e3) (fun x e3 => ke x (Sum.inr.inj e3)) (fun rv rh e3 => kr rv rh (Sum.inr.inj e3))
theorem zl_M_block_75 {l : Launch} {C : Ct} {mi : Nat} {y0 : Nat} {y1 : Int32} {h' : Hp} {v : Int32} {s : Int32 × Hp} {q : ((Hp) ⊕ (Int32 × Hp))} (hl : l_M_block_75 y0 y1 s = some q) (ke : ∀ x, q = .inl x → Z l C mi m_M_block 1 101 [] [] x (some (vi v)) h') (kr : ∀ rv rh, q = .inr (rv, rh) → v = rv ∧ h' = rh) : Z l C mi m_M_block 1 75 [(0, vr (some y0)), (1, vi y1), (3, vi s.1)] [] s.2 (some (vi v)) h' := zzl_M_block_75 FU s q hl ke kr
theorem kl_M_block_75 {C : Ct} {mi : Nat} {y0 : Nat} {y1 : Int32} {s : Int32 × Hp} {q : ((Hp) ⊕ (Int32 × Hp))} (hl : l_M_block_75 y0 y1 s = some q) : Keep W_M_block s.2 ((Sum.elim (fun x : Hp => x) (fun r : (Int32 × Hp) => r.2)) q) := lpk (sh := (fun s : Int32 × Hp => s.2)) (rh := (Sum.elim (fun x : Hp => x) (fun r : (Int32 × Hp) => r.2))) (fun s q hb => kb_M_block_75 (C := C) (mi := mi) hb) FU s q hl
def f_M_block (a0 : Nat) (p1 : Int32) (p2 : Int32) (h : Hp) : Option (Int32 × Hp) :=
  cl (f_M_in p1 (nI 32) h) fun v3 h1 => if v3 = 0 then (some ((-1 : Int32), h1)) else (if p2 = (0 : Int32) then (gd (isK h1 a0 8) (dr (hpR h1 a0 18) fun a8 => gd (isK h1 a8 93) (gd (inb p1 (hpL h1 a8)) (if (hpI h1 a8 p1.toNatClampNeg) = 0 then (some ((0 : Int32), h1)) else (some ((1 : Int32), h1)))))) else if p2 = (1 : Int32) then (gd (isK h1 a0 8) (dr (hpR h1 a0 13) fun a15 => gd (isK h1 a15 88) (gd (inb p1 (hpL h1 a15)) (some ((hpI h1 a15 p1.toNatClampNeg), h1))))) else if p2 = (nI 2) then (gd (isK h1 a0 8) (dr (hpR h1 a0 14) fun a21 => gd (isK h1 a21 89) (gd (inb p1 (hpL h1 a21)) (some ((hpI h1 a21 p1.toNatClampNeg), h1))))) else if p2 = (nI 3) then (lk (l_M_block_75 a0 p1 ((0 : Int32), h1)) (fun x33 => some ((0 : Int32), x33)) some) else (some ((-1 : Int32), h1)))
set_option maxRecDepth 100000 in
set_option maxHeartbeats 4000000 in
theorem zf_M_block {l : Launch} {C : Ct} {mi : Nat} {a0 : Nat} {p1 : Int32} {p2 : Int32} {h h' : Hp} {v : Int32} (hf : f_M_block a0 p1 p2 h = some (v, h')) : Z l C mi m_M_block 1 0 [(0, vr (some a0)), (1, vi p1), (2, vi p2)] [] h (some (vi v)) h' := by
  unfold f_M_block at hf
  refine z_iload_n 1 d_M_block_0 rfl rfl ?_
  refine z_bipush (v := (nI 32)) d_M_block_1 (by decide) ?_
  obtain ⟨v3, h1, ec2, hf⟩ := cl_some hf
  refine z_callS (c_M_in ec2) d_M_block_3 cw_M_in lk_M_125 (by decide +kernel) ⟨by decide, by decide⟩ (Nat.le_of_ble_eq_true rfl) rfl ?_
  refine z_if_ne (tgt := 11) d_M_block_6 (by decide) (fun c5 => ?_) (fun c5 => ?_)
  · rw [if_neg c5] at hf
    refine z_iload_n 2 d_M_block_11 rfl rfl ?_
    by_cases c6 : p2 = (0 : Int32)
    · rw [if_pos c6] at hf
      refine z_tabIn (off := 32) (tgt := 44) d_M_block_12 (by rw [c6]; decide) (by rw [c6]; decide) (by rw [c6]; rfl) (by decide) ?_
      refine z_aload_n 0 d_M_block_44 rfl rfl ?_
      obtain ⟨g7, hf⟩ := gd_some hf
      refine z_getR d_M_block_45 (fl_K (isK_eq g7) fl_M_65_8) (fi_K (isK_eq g7) rfl) rfl ?_
      refine z_iload_n 1 d_M_block_48 rfl rfl ?_
      obtain ⟨a8, e9, hf⟩ := dr_some hf
      obtain ⟨g10, hf⟩ := gd_some hf
      obtain ⟨g11, hf⟩ := gd_some hf
      refine z_zald d_M_block_49 e9 (by rw [isK_eq g10]; decide) (by rw [isK_eq g10]; rfl) (inb_vp g11) ?_
      refine z_if_eq (tgt := 57) d_M_block_50 (by decide) (fun c12 => ?_) (fun c12 => ?_)
      · rw [if_pos c12] at hf
        refine z_iconst (v := (0 : Int32)) d_M_block_57 (by decide) ?_
        obtain ⟨rfl, rfl⟩ := Prod.mk.inj (Option.some.inj hf)
        exact z_ret d_M_block_58 rfl
      · rw [if_neg c12] at hf
        refine z_iconst (v := (1 : Int32)) d_M_block_53 (by decide) ?_
        refine z_goto (tgt := 58) d_M_block_54 (by decide) ?_
        obtain ⟨rfl, rfl⟩ := Prod.mk.inj (Option.some.inj hf)
        exact z_ret d_M_block_58 rfl
    rw [if_neg c6] at hf
    by_cases c13 : p2 = (1 : Int32)
    · rw [if_pos c13] at hf
      refine z_tabIn (off := 47) (tgt := 59) d_M_block_12 (by rw [c13]; decide) (by rw [c13]; decide) (by rw [c13]; rfl) (by decide) ?_
      refine z_aload_n 0 d_M_block_59 rfl rfl ?_
      obtain ⟨g14, hf⟩ := gd_some hf
      refine z_getR d_M_block_60 (fl_K (isK_eq g14) fl_M_50_8) (fi_K (isK_eq g14) rfl) rfl ?_
      refine z_iload_n 1 d_M_block_63 rfl rfl ?_
      obtain ⟨a15, e16, hf⟩ := dr_some hf
      obtain ⟨g17, hf⟩ := gd_some hf
      obtain ⟨g18, hf⟩ := gd_some hf
      refine z_iald d_M_block_64 e16 (by rw [isK_eq g17]; decide) (by rw [isK_eq g17]; rfl) (inb_vp g18) ?_
      obtain ⟨rfl, rfl⟩ := Prod.mk.inj (Option.some.inj hf)
      exact z_ret d_M_block_65 rfl
    rw [if_neg c13] at hf
    by_cases c19 : p2 = (nI 2)
    · rw [if_pos c19] at hf
      refine z_tabIn (off := 54) (tgt := 66) d_M_block_12 (by rw [c19]; decide) (by rw [c19]; decide) (by rw [c19]; rfl) (by decide) ?_
      refine z_aload_n 0 d_M_block_66 rfl rfl ?_
      obtain ⟨g20, hf⟩ := gd_some hf
      refine z_getR d_M_block_67 (fl_K (isK_eq g20) fl_M_53_8) (fi_K (isK_eq g20) rfl) rfl ?_
      refine z_iload_n 1 d_M_block_70 rfl rfl ?_
      obtain ⟨a21, e22, hf⟩ := dr_some hf
      obtain ⟨g23, hf⟩ := gd_some hf
      obtain ⟨g24, hf⟩ := gd_some hf
      refine z_iald d_M_block_71 e22 (by rw [isK_eq g23]; decide) (by rw [isK_eq g23]; rfl) (inb_vp g24) ?_
      obtain ⟨rfl, rfl⟩ := Prod.mk.inj (Option.some.inj hf)
      exact z_ret d_M_block_72 rfl
    rw [if_neg c19] at hf
    by_cases c25 : p2 = (nI 3)
    · rw [if_pos c25] at hf
      refine z_tabIn (off := 61) (tgt := 73) d_M_block_12 (by rw [c25]; decide) (by rw [c25]; decide) (by rw [c25]; rfl) (by decide) ?_
      refine z_iconst (v := (0 : Int32)) d_M_block_73 (by decide) ?_
      refine z_istore_n (ls2 := [(3, vi (0 : Int32)), (0, vr (some a0)), (1, vi p1), (2, vi p2)]) d_M_block_74 rfl (by decide) rfl ?_
      rcases lk_some hf with ⟨x33, el34, hf⟩ | ⟨x33r, el34, hf⟩
      · skip
        refine z_ls [1, 2, 0] rfl ?_
        refine zl_M_block_75 el34 (fun x2 e2 => ?_) (fun rv rh e2 => by cases e2)
        cases e2
        refine z_iconst (v := (0 : Int32)) d_M_block_101 (by decide) ?_
        obtain ⟨rfl, rfl⟩ := Prod.mk.inj (Option.some.inj hf)
        exact z_ret d_M_block_102 rfl
      · skip
        refine z_ls [1, 2, 0] rfl ?_
        refine zl_M_block_75 el34 (fun x2 e2 => by cases e2) (fun rv rh e2 => ?_)
        cases e2
        have e4 := Prod.mk.inj (Option.some.inj hf)
        exact ⟨e4.1.symm, e4.2.symm⟩
    rw [if_neg c25] at hf
    refine z_tabOut (tgt := 103) d_M_block_12 (ts_out 4 (by decide) (fun j hj => ?_)) (by decide) ?_
    · have hj2 : j = 0 ∨ j = 1 ∨ j = 2 ∨ j = 3 := by omega
      rcases hj2 with e | e | e | e
      · subst e; exact c6
      · subst e; exact c13
      · subst e; exact c19
      · subst e; exact c25
    refine z_iconst (v := (-1 : Int32)) d_M_block_103 (by decide) ?_
    obtain ⟨rfl, rfl⟩ := Prod.mk.inj (Option.some.inj hf)
    exact z_ret d_M_block_104 rfl
  · rw [if_pos c5] at hf
    refine z_iconst (v := (-1 : Int32)) d_M_block_9 (by decide) ?_
    obtain ⟨rfl, rfl⟩ := Prod.mk.inj (Option.some.inj hf)
    exact z_ret d_M_block_10 rfl
set_option maxRecDepth 100000 in
set_option maxHeartbeats 4000000 in
theorem fr_M_block {C : Ct} {mi : Nat} {a0 : Nat} {p1 : Int32} {p2 : Int32} {h h' : Hp} {v : Int32} (hf : f_M_block a0 p1 p2 h = some (v, h')) : Keep W_M_block h h' := by
  unfold f_M_block at hf
  obtain ⟨v3, h1, ec2, hf⟩ := cl_some hf
  have K4 := (Keep.refl W_M_block _).trans ((fr_M_in (C := C) (mi := mi) ec2).mono (by decide) (by decide))
  rcases (Classical.em (v3 = 0)).symm with c5 | c5
  · rw [if_neg c5] at hf
    by_cases c6 : p2 = (0 : Int32)
    · rw [if_pos c6] at hf
      obtain ⟨g7, hf⟩ := gd_some hf
      obtain ⟨a8, e9, hf⟩ := dr_some hf
      obtain ⟨g10, hf⟩ := gd_some hf
      obtain ⟨g11, hf⟩ := gd_some hf
      rcases Classical.em ((hpI h1 a8 p1.toNatClampNeg) = 0) with c12 | c12
      · rw [if_pos c12] at hf
        obtain ⟨rfl, rfl⟩ := Prod.mk.inj (Option.some.inj hf)
        exact K4
      · rw [if_neg c12] at hf
        obtain ⟨rfl, rfl⟩ := Prod.mk.inj (Option.some.inj hf)
        exact K4
    rw [if_neg c6] at hf
    by_cases c13 : p2 = (1 : Int32)
    · rw [if_pos c13] at hf
      obtain ⟨g14, hf⟩ := gd_some hf
      obtain ⟨a15, e16, hf⟩ := dr_some hf
      obtain ⟨g17, hf⟩ := gd_some hf
      obtain ⟨g18, hf⟩ := gd_some hf
      obtain ⟨rfl, rfl⟩ := Prod.mk.inj (Option.some.inj hf)
      exact K4
    rw [if_neg c13] at hf
    by_cases c19 : p2 = (nI 2)
    · rw [if_pos c19] at hf
      obtain ⟨g20, hf⟩ := gd_some hf
      obtain ⟨a21, e22, hf⟩ := dr_some hf
      obtain ⟨g23, hf⟩ := gd_some hf
      obtain ⟨g24, hf⟩ := gd_some hf
      obtain ⟨rfl, rfl⟩ := Prod.mk.inj (Option.some.inj hf)
      exact K4
    rw [if_neg c19] at hf
    by_cases c25 : p2 = (nI 3)
    · rw [if_pos c25] at hf
      rcases lk_some hf with ⟨x33, el34, hf⟩ | ⟨x33r, el34, hf⟩
      · skip
        have K35 := K4.trans (kl_M_block_75 (C := C) (mi := mi) el34)
        obtain ⟨rfl, rfl⟩ := Prod.mk.inj (Option.some.inj hf)
        exact K35
      · skip
        have K36 := K4.trans (kl_M_block_75 (C := C) (mi := mi) el34)
        cases (Option.some.inj hf)
        exact K36
    rw [if_neg c25] at hf
    obtain ⟨rfl, rfl⟩ := Prod.mk.inj (Option.some.inj hf)
    exact K4
  · rw [if_pos c5] at hf
    obtain ⟨rfl, rfl⟩ := Prod.mk.inj (Option.some.inj hf)
    exact K4
theorem c_M_block {l : Launch} {C : Ct} {mi : Nat} {a0 : Nat} {p1 : Int32} {p2 : Int32} {h h' : Hp} {v : Int32} (hf : f_M_block a0 p1 p2 h = some (v, h')) : Mt l C mi m_M_block 1 [vr (some a0), vi p1, vi p2] h (some (vi v)) h' := mt_I (ty := .int) rfl rfl rfl (by decide) (Nat.le_of_ble_eq_true rfl) (zf_M_block hf)
-- VersionMapsModel.kept(I)I
def m_M_kept : Mi := (⟨"VersionMapsModel", "kept", "(I)I"⟩, prog_11_method_42_code, 2, (Option.some Jvm.ClassFile.FieldType.int), .ireturn)
theorem cw_M_kept : cw_ok m_M_kept 1 := ⟨by decide +kernel, by decide +kernel, by decide +kernel, by decide +kernel⟩
theorem im_M_kept : Cond.instanceMethod m_M_kept.1 ∈ lw_w := by decide +kernel
theorem se_M_kept : Cond.selects "VersionMapsModel" m_M_kept.1 m_M_kept.1 ∈ lw_w := by decide +kernel
theorem d_M_kept_0 : decode prog_11_method_42_code 0 = .ok (.iload_n 1, 1) := by decide +kernel
theorem d_M_kept_1 : decode prog_11_method_42_code 1 = .ok (.aload_n 0, 1) := by decide +kernel
theorem d_M_kept_2 : decode prog_11_method_42_code 2 = .ok (.getfield 96, 3) := by decide +kernel
theorem d_M_kept_5 : decode prog_11_method_42_code 5 = .ok (.invokestatic 125, 3) := by decide +kernel
theorem d_M_kept_8 : decode prog_11_method_42_code 8 = .ok (.ifCond .eq 12, 3) := by decide +kernel
theorem d_M_kept_11 : decode prog_11_method_42_code 11 = .ok (.aload_n 0, 1) := by decide +kernel
theorem d_M_kept_12 : decode prog_11_method_42_code 12 = .ok (.getfield 87, 3) := by decide +kernel
theorem d_M_kept_15 : decode prog_11_method_42_code 15 = .ok (.iload_n 1, 1) := by decide +kernel
theorem d_M_kept_16 : decode prog_11_method_42_code 16 = .ok (.iaload, 1) := by decide +kernel
theorem d_M_kept_17 : decode prog_11_method_42_code 17 = .ok (.goto 4, 3) := by decide +kernel
theorem d_M_kept_20 : decode prog_11_method_42_code 20 = .ok (.iconst (-1), 1) := by decide +kernel
theorem d_M_kept_21 : decode prog_11_method_42_code 21 = .ok (.ireturn, 1) := by decide +kernel
def W_M_kept : Wl := ([], [])
def f_M_kept (a0 : Nat) (p1 : Int32) (h : Hp) : Option (Int32 × Hp) :=
  gd (isK h a0 8) (cl (f_M_in p1 (hpI h a0 30) h) fun v4 h2 => if v4 = 0 then (some ((-1 : Int32), h2)) else (gd (isK h2 a0 8) (dr (hpR h2 a0 27) fun a8 => gd (isK h2 a8 99) (gd (inb p1 (hpL h2 a8)) (some ((hpI h2 a8 p1.toNatClampNeg), h2))))))
set_option maxRecDepth 100000 in
set_option maxHeartbeats 4000000 in
theorem zf_M_kept {l : Launch} {C : Ct} {mi : Nat} {a0 : Nat} {p1 : Int32} {h h' : Hp} {v : Int32} (hf : f_M_kept a0 p1 h = some (v, h')) : Z l C mi m_M_kept 1 0 [(0, vr (some a0)), (1, vi p1)] [] h (some (vi v)) h' := by
  unfold f_M_kept at hf
  refine z_iload_n 1 d_M_kept_0 rfl rfl ?_
  refine z_aload_n 0 d_M_kept_1 rfl rfl ?_
  obtain ⟨g1, hf⟩ := gd_some hf
  refine z_getI d_M_kept_2 (fl_K (isK_eq g1) fl_M_96_8) (fi_K (isK_eq g1) rfl) rfl ?_
  obtain ⟨v4, h2, ec3, hf⟩ := cl_some hf
  refine z_callS (c_M_in ec3) d_M_kept_5 cw_M_in lk_M_125 (by decide +kernel) ⟨by decide, by decide⟩ (Nat.le_of_ble_eq_true rfl) rfl ?_
  refine z_if_eq (tgt := 20) d_M_kept_8 (by decide) (fun c6 => ?_) (fun c6 => ?_)
  · rw [if_pos c6] at hf
    refine z_iconst (v := (-1 : Int32)) d_M_kept_20 (by decide) ?_
    obtain ⟨rfl, rfl⟩ := Prod.mk.inj (Option.some.inj hf)
    exact z_ret d_M_kept_21 rfl
  · rw [if_neg c6] at hf
    refine z_aload_n 0 d_M_kept_11 rfl rfl ?_
    obtain ⟨g7, hf⟩ := gd_some hf
    refine z_getR d_M_kept_12 (fl_K (isK_eq g7) fl_M_87_8) (fi_K (isK_eq g7) rfl) rfl ?_
    refine z_iload_n 1 d_M_kept_15 rfl rfl ?_
    obtain ⟨a8, e9, hf⟩ := dr_some hf
    obtain ⟨g10, hf⟩ := gd_some hf
    obtain ⟨g11, hf⟩ := gd_some hf
    refine z_iald d_M_kept_16 e9 (by rw [isK_eq g10]; decide) (by rw [isK_eq g10]; rfl) (inb_vp g11) ?_
    refine z_goto (tgt := 21) d_M_kept_17 (by decide) ?_
    obtain ⟨rfl, rfl⟩ := Prod.mk.inj (Option.some.inj hf)
    exact z_ret d_M_kept_21 rfl
set_option maxRecDepth 100000 in
set_option maxHeartbeats 4000000 in
theorem fr_M_kept {C : Ct} {mi : Nat} {a0 : Nat} {p1 : Int32} {h h' : Hp} {v : Int32} (hf : f_M_kept a0 p1 h = some (v, h')) : Keep W_M_kept h h' := by
  unfold f_M_kept at hf
  obtain ⟨g1, hf⟩ := gd_some hf
  obtain ⟨v4, h2, ec3, hf⟩ := cl_some hf
  have K5 := (Keep.refl W_M_kept _).trans ((fr_M_in (C := C) (mi := mi) ec3).mono (by decide) (by decide))
  rcases Classical.em (v4 = 0) with c6 | c6
  · rw [if_pos c6] at hf
    obtain ⟨rfl, rfl⟩ := Prod.mk.inj (Option.some.inj hf)
    exact K5
  · rw [if_neg c6] at hf
    obtain ⟨g7, hf⟩ := gd_some hf
    obtain ⟨a8, e9, hf⟩ := dr_some hf
    obtain ⟨g10, hf⟩ := gd_some hf
    obtain ⟨g11, hf⟩ := gd_some hf
    obtain ⟨rfl, rfl⟩ := Prod.mk.inj (Option.some.inj hf)
    exact K5
theorem c_M_kept {l : Launch} {C : Ct} {mi : Nat} {a0 : Nat} {p1 : Int32} {h h' : Hp} {v : Int32} (hf : f_M_kept a0 p1 h = some (v, h')) : Mt l C mi m_M_kept 1 [vr (some a0), vi p1] h (some (vi v)) h' := mt_I (ty := .int) rfl rfl rfl (by decide) (Nat.le_of_ble_eq_true rfl) (zf_M_kept hf)
-- VersionMapsModel.count(I)I
def m_M_count : Mi := (⟨"VersionMapsModel", "count", "(I)I"⟩, prog_11_method_43_code, 8, (Option.some Jvm.ClassFile.FieldType.int), .ireturn)
theorem cw_M_count : cw_ok m_M_count 1 := ⟨by decide +kernel, by decide +kernel, by decide +kernel, by decide +kernel⟩
theorem im_M_count : Cond.instanceMethod m_M_count.1 ∈ lw_w := by decide +kernel
theorem se_M_count : Cond.selects "VersionMapsModel" m_M_count.1 m_M_count.1 ∈ lw_w := by decide +kernel
theorem d_M_count_0 : decode prog_11_method_43_code 0 = .ok (.iconst 0, 1) := by decide +kernel
theorem d_M_count_1 : decode prog_11_method_43_code 1 = .ok (.istore_n 2, 1) := by decide +kernel
theorem d_M_count_2 : decode prog_11_method_43_code 2 = .ok (.iconst 0, 1) := by decide +kernel
theorem d_M_count_3 : decode prog_11_method_43_code 3 = .ok (.istore_n 3, 1) := by decide +kernel
theorem d_M_count_4 : decode prog_11_method_43_code 4 = .ok (.iconst 0, 1) := by decide +kernel
theorem d_M_count_5 : decode prog_11_method_43_code 5 = .ok (.istore 4, 2) := by decide +kernel
theorem d_M_count_7 : decode prog_11_method_43_code 7 = .ok (.iconst 0, 1) := by decide +kernel
theorem d_M_count_8 : decode prog_11_method_43_code 8 = .ok (.istore 5, 2) := by decide +kernel
theorem d_M_count_10 : decode prog_11_method_43_code 10 = .ok (.iconst 0, 1) := by decide +kernel
theorem d_M_count_11 : decode prog_11_method_43_code 11 = .ok (.istore 6, 2) := by decide +kernel
theorem d_M_count_13 : decode prog_11_method_43_code 13 = .ok (.iconst 0, 1) := by decide +kernel
theorem d_M_count_14 : decode prog_11_method_43_code 14 = .ok (.istore 7, 2) := by decide +kernel
theorem d_M_count_16 : decode prog_11_method_43_code 16 = .ok (.iload 7, 2) := by decide +kernel
theorem d_M_count_18 : decode prog_11_method_43_code 18 = .ok (.bipush 32, 2) := by decide +kernel
theorem d_M_count_20 : decode prog_11_method_43_code 20 = .ok (.if_icmp .ge 22, 3) := by decide +kernel
theorem d_M_count_23 : decode prog_11_method_43_code 23 = .ok (.aload_n 0, 1) := by decide +kernel
theorem d_M_count_24 : decode prog_11_method_43_code 24 = .ok (.getfield 65, 3) := by decide +kernel
theorem d_M_count_27 : decode prog_11_method_43_code 27 = .ok (.iload 7, 2) := by decide +kernel
theorem d_M_count_29 : decode prog_11_method_43_code 29 = .ok (.baload, 1) := by decide +kernel
theorem d_M_count_30 : decode prog_11_method_43_code 30 = .ok (.ifCond .eq 6, 3) := by decide +kernel
theorem d_M_count_33 : decode prog_11_method_43_code 33 = .ok (.iinc 2 1, 3) := by decide +kernel
theorem d_M_count_36 : decode prog_11_method_43_code 36 = .ok (.iinc 7 1, 3) := by decide +kernel
theorem d_M_count_39 : decode prog_11_method_43_code 39 = .ok (.goto (-23), 3) := by decide +kernel
theorem d_M_count_42 : decode prog_11_method_43_code 42 = .ok (.iconst 0, 1) := by decide +kernel
theorem d_M_count_43 : decode prog_11_method_43_code 43 = .ok (.istore 7, 2) := by decide +kernel
theorem d_M_count_45 : decode prog_11_method_43_code 45 = .ok (.iload 7, 2) := by decide +kernel
theorem d_M_count_47 : decode prog_11_method_43_code 47 = .ok (.bipush 16, 2) := by decide +kernel
theorem d_M_count_49 : decode prog_11_method_43_code 49 = .ok (.if_icmp .ge 22, 3) := by decide +kernel
theorem d_M_count_52 : decode prog_11_method_43_code 52 = .ok (.aload_n 0, 1) := by decide +kernel
theorem d_M_count_53 : decode prog_11_method_43_code 53 = .ok (.getfield 13, 3) := by decide +kernel
theorem d_M_count_56 : decode prog_11_method_43_code 56 = .ok (.iload 7, 2) := by decide +kernel
theorem d_M_count_58 : decode prog_11_method_43_code 58 = .ok (.baload, 1) := by decide +kernel
theorem d_M_count_59 : decode prog_11_method_43_code 59 = .ok (.ifCond .eq 6, 3) := by decide +kernel
theorem d_M_count_62 : decode prog_11_method_43_code 62 = .ok (.iinc 3 1, 3) := by decide +kernel
theorem d_M_count_65 : decode prog_11_method_43_code 65 = .ok (.iinc 7 1, 3) := by decide +kernel
theorem d_M_count_68 : decode prog_11_method_43_code 68 = .ok (.goto (-23), 3) := by decide +kernel
theorem d_M_count_71 : decode prog_11_method_43_code 71 = .ok (.iconst 0, 1) := by decide +kernel
theorem d_M_count_72 : decode prog_11_method_43_code 72 = .ok (.istore 7, 2) := by decide +kernel
theorem d_M_count_74 : decode prog_11_method_43_code 74 = .ok (.iload 7, 2) := by decide +kernel
theorem d_M_count_76 : decode prog_11_method_43_code 76 = .ok (.iconst 4, 1) := by decide +kernel
theorem d_M_count_77 : decode prog_11_method_43_code 77 = .ok (.if_icmp .ge 22, 3) := by decide +kernel
theorem d_M_count_80 : decode prog_11_method_43_code 80 = .ok (.aload_n 0, 1) := by decide +kernel
theorem d_M_count_81 : decode prog_11_method_43_code 81 = .ok (.getfield 16, 3) := by decide +kernel
theorem d_M_count_84 : decode prog_11_method_43_code 84 = .ok (.iload 7, 2) := by decide +kernel
theorem d_M_count_86 : decode prog_11_method_43_code 86 = .ok (.baload, 1) := by decide +kernel
theorem d_M_count_87 : decode prog_11_method_43_code 87 = .ok (.ifCond .eq 6, 3) := by decide +kernel
theorem d_M_count_90 : decode prog_11_method_43_code 90 = .ok (.iinc 4 1, 3) := by decide +kernel
theorem d_M_count_93 : decode prog_11_method_43_code 93 = .ok (.iinc 7 1, 3) := by decide +kernel
theorem d_M_count_96 : decode prog_11_method_43_code 96 = .ok (.goto (-22), 3) := by decide +kernel
theorem d_M_count_99 : decode prog_11_method_43_code 99 = .ok (.iconst 0, 1) := by decide +kernel
theorem d_M_count_100 : decode prog_11_method_43_code 100 = .ok (.istore 7, 2) := by decide +kernel
theorem d_M_count_102 : decode prog_11_method_43_code 102 = .ok (.iload 7, 2) := by decide +kernel
theorem d_M_count_104 : decode prog_11_method_43_code 104 = .ok (.sipush 128, 3) := by decide +kernel
theorem d_M_count_107 : decode prog_11_method_43_code 107 = .ok (.if_icmp .ge 22, 3) := by decide +kernel
theorem d_M_count_110 : decode prog_11_method_43_code 110 = .ok (.aload_n 0, 1) := by decide +kernel
theorem d_M_count_111 : decode prog_11_method_43_code 111 = .ok (.getfield 7, 3) := by decide +kernel
theorem d_M_count_114 : decode prog_11_method_43_code 114 = .ok (.iload 7, 2) := by decide +kernel
theorem d_M_count_116 : decode prog_11_method_43_code 116 = .ok (.baload, 1) := by decide +kernel
theorem d_M_count_117 : decode prog_11_method_43_code 117 = .ok (.ifCond .eq 6, 3) := by decide +kernel
theorem d_M_count_120 : decode prog_11_method_43_code 120 = .ok (.iinc 6 1, 3) := by decide +kernel
theorem d_M_count_123 : decode prog_11_method_43_code 123 = .ok (.iinc 7 1, 3) := by decide +kernel
theorem d_M_count_126 : decode prog_11_method_43_code 126 = .ok (.goto (-24), 3) := by decide +kernel
theorem d_M_count_129 : decode prog_11_method_43_code 129 = .ok (.aload_n 0, 1) := by decide +kernel
theorem d_M_count_130 : decode prog_11_method_43_code 130 = .ok (.invokevirtual 187, 3) := by decide +kernel
theorem d_M_count_133 : decode prog_11_method_43_code 133 = .ok (.iconst 0, 1) := by decide +kernel
theorem d_M_count_134 : decode prog_11_method_43_code 134 = .ok (.istore 7, 2) := by decide +kernel
theorem d_M_count_136 : decode prog_11_method_43_code 136 = .ok (.iload 7, 2) := by decide +kernel
theorem d_M_count_138 : decode prog_11_method_43_code 138 = .ok (.sipush 160, 3) := by decide +kernel
theorem d_M_count_141 : decode prog_11_method_43_code 141 = .ok (.if_icmp .ge 22, 3) := by decide +kernel
theorem d_M_count_144 : decode prog_11_method_43_code 144 = .ok (.aload_n 0, 1) := by decide +kernel
theorem d_M_count_145 : decode prog_11_method_43_code 145 = .ok (.getfield 47, 3) := by decide +kernel
theorem d_M_count_148 : decode prog_11_method_43_code 148 = .ok (.iload 7, 2) := by decide +kernel
theorem d_M_count_150 : decode prog_11_method_43_code 150 = .ok (.baload, 1) := by decide +kernel
theorem d_M_count_151 : decode prog_11_method_43_code 151 = .ok (.ifCond .eq 6, 3) := by decide +kernel
theorem d_M_count_154 : decode prog_11_method_43_code 154 = .ok (.iinc 5 1, 3) := by decide +kernel
theorem d_M_count_157 : decode prog_11_method_43_code 157 = .ok (.iinc 7 1, 3) := by decide +kernel
theorem d_M_count_160 : decode prog_11_method_43_code 160 = .ok (.goto (-24), 3) := by decide +kernel
theorem d_M_count_163 : decode prog_11_method_43_code 163 = .ok (.iload_n 1, 1) := by decide +kernel
theorem d_M_count_164 : decode prog_11_method_43_code 164 = .ok (.tableswitch 94 0 9 #[56, 61, 66, 71, 76, 78, 83, 85, 88, 91], 56) := by decide +kernel
theorem d_M_count_220 : decode prog_11_method_43_code 220 = .ok (.aload_n 0, 1) := by decide +kernel
theorem d_M_count_221 : decode prog_11_method_43_code 221 = .ok (.getfield 119, 3) := by decide +kernel
theorem d_M_count_224 : decode prog_11_method_43_code 224 = .ok (.ireturn, 1) := by decide +kernel
theorem d_M_count_225 : decode prog_11_method_43_code 225 = .ok (.aload_n 0, 1) := by decide +kernel
theorem d_M_count_226 : decode prog_11_method_43_code 226 = .ok (.getfield 96, 3) := by decide +kernel
theorem d_M_count_229 : decode prog_11_method_43_code 229 = .ok (.ireturn, 1) := by decide +kernel
theorem d_M_count_230 : decode prog_11_method_43_code 230 = .ok (.aload_n 0, 1) := by decide +kernel
theorem d_M_count_231 : decode prog_11_method_43_code 231 = .ok (.getfield 83, 3) := by decide +kernel
theorem d_M_count_234 : decode prog_11_method_43_code 234 = .ok (.ireturn, 1) := by decide +kernel
theorem d_M_count_235 : decode prog_11_method_43_code 235 = .ok (.aload_n 0, 1) := by decide +kernel
theorem d_M_count_236 : decode prog_11_method_43_code 236 = .ok (.getfield 153, 3) := by decide +kernel
theorem d_M_count_239 : decode prog_11_method_43_code 239 = .ok (.ireturn, 1) := by decide +kernel
theorem d_M_count_240 : decode prog_11_method_43_code 240 = .ok (.iload_n 2, 1) := by decide +kernel
theorem d_M_count_241 : decode prog_11_method_43_code 241 = .ok (.ireturn, 1) := by decide +kernel
theorem d_M_count_242 : decode prog_11_method_43_code 242 = .ok (.aload_n 0, 1) := by decide +kernel
theorem d_M_count_243 : decode prog_11_method_43_code 243 = .ok (.getfield 156, 3) := by decide +kernel
theorem d_M_count_246 : decode prog_11_method_43_code 246 = .ok (.ireturn, 1) := by decide +kernel
theorem d_M_count_247 : decode prog_11_method_43_code 247 = .ok (.iload_n 3, 1) := by decide +kernel
theorem d_M_count_248 : decode prog_11_method_43_code 248 = .ok (.ireturn, 1) := by decide +kernel
theorem d_M_count_249 : decode prog_11_method_43_code 249 = .ok (.iload 4, 2) := by decide +kernel
theorem d_M_count_251 : decode prog_11_method_43_code 251 = .ok (.ireturn, 1) := by decide +kernel
theorem d_M_count_252 : decode prog_11_method_43_code 252 = .ok (.iload 5, 2) := by decide +kernel
theorem d_M_count_254 : decode prog_11_method_43_code 254 = .ok (.ireturn, 1) := by decide +kernel
theorem d_M_count_255 : decode prog_11_method_43_code 255 = .ok (.iload 6, 2) := by decide +kernel
theorem d_M_count_257 : decode prog_11_method_43_code 257 = .ok (.ireturn, 1) := by decide +kernel
theorem d_M_count_258 : decode prog_11_method_43_code 258 = .ok (.iconst (-1), 1) := by decide +kernel
theorem d_M_count_259 : decode prog_11_method_43_code 259 = .ok (.ireturn, 1) := by decide +kernel
def W_M_count : Wl := ([], [87])
def b_M_count_16 (y0 : Nat) (y1 : Int32) (y2 : Int32) (y3 : Int32) (y4 : Int32) (y5 : Int32) (y6 : Int32) (y7 : Int32) (h : Hp) : Option ((Int32 × Int32 × Hp) ⊕ (Int32 × Hp)) :=
  if (nI 32) ≤ y7 then (some (.inr (y2, h))) else (gd (isK h y0 8) (dr (hpR h y0 18) fun a3 => gd (isK h a3 93) (gd (inb y7 (hpL h a3)) (if (hpI h a3 y7.toNatClampNeg) = 0 then (some (.inl (y2, (y7 + (1 : Int32)), h))) else (some (.inl ((y2 + (1 : Int32)), (y7 + (1 : Int32)), h)))))))
set_option maxRecDepth 100000 in
set_option maxHeartbeats 4000000 in
theorem zb_M_count_16 {l : Launch} {C : Ct} {mi : Nat} {y0 : Nat} {y1 : Int32} {y2 : Int32} {y3 : Int32} {y4 : Int32} {y5 : Int32} {y6 : Int32} {y7 : Int32} {h h' : Hp} {v : Int32} {q : ((Int32 × Int32 × Hp) ⊕ (Int32 × Hp))} (hf : b_M_count_16 y0 y1 y2 y3 y4 y5 y6 y7 h = some q) (kc : ∀ s, q = .inl s → Z l C mi m_M_count 3 16 [(0, vr (some y0)), (1, vi y1), (2, vi s.1), (3, vi y3), (4, vi y4), (5, vi y5), (6, vi y6), (7, vi s.2.1)] [] s.2.2 (some (vi v)) h') (ke : ∀ x, q = .inr x → Z l C mi m_M_count 3 42 [(0, vr (some y0)), (1, vi y1), (2, vi x.1), (3, vi y3), (4, vi y4), (5, vi y5), (6, vi y6)] [] x.2 (some (vi v)) h') : Z l C mi m_M_count 3 16 [(0, vr (some y0)), (1, vi y1), (2, vi y2), (3, vi y3), (4, vi y4), (5, vi y5), (6, vi y6), (7, vi y7)] [] h (some (vi v)) h' := by
  unfold b_M_count_16 at hf
  refine z_iload 7 d_M_count_16 rfl ?_
  refine z_bipush (v := (nI 32)) d_M_count_18 (by decide) ?_
  refine z_icmp_ge (tgt := 42) d_M_count_20 (by decide) (fun c1 => ?_) (fun c1 => ?_)
  · rw [if_pos c1] at hf
    refine z_ls [0, 1, 2, 3, 4, 5, 6] rfl ?_
    exact ke (y2, h) (Option.some.inj hf).symm
  · rw [if_neg c1] at hf
    refine z_aload_n 0 d_M_count_23 rfl rfl ?_
    obtain ⟨g2, hf⟩ := gd_some hf
    refine z_getR d_M_count_24 (fl_K (isK_eq g2) fl_M_65_8) (fi_K (isK_eq g2) rfl) rfl ?_
    refine z_iload 7 d_M_count_27 rfl ?_
    obtain ⟨a3, e4, hf⟩ := dr_some hf
    obtain ⟨g5, hf⟩ := gd_some hf
    obtain ⟨g6, hf⟩ := gd_some hf
    refine z_zald d_M_count_29 e4 (by rw [isK_eq g5]; decide) (by rw [isK_eq g5]; rfl) (inb_vp g6) ?_
    refine z_if_eq (tgt := 36) d_M_count_30 (by decide) (fun c7 => ?_) (fun c7 => ?_)
    · rw [if_pos c7] at hf
      refine z_iinc (ls2 := [(7, vi (y7 + (1 : Int32))), (0, vr (some y0)), (1, vi y1), (2, vi y2), (3, vi y3), (4, vi y4), (5, vi y5), (6, vi y6)]) 7 d_M_count_36 rfl rfl (by decide) rfl ?_
      refine z_goto (tgt := 16) d_M_count_39 (by decide) ?_
      refine z_ls [1, 2, 3, 4, 5, 6, 7, 0] rfl ?_
      exact kc (y2, (y7 + (1 : Int32)), h) (Option.some.inj hf).symm
    · rw [if_neg c7] at hf
      refine z_iinc (ls2 := [(2, vi (y2 + (1 : Int32))), (0, vr (some y0)), (1, vi y1), (3, vi y3), (4, vi y4), (5, vi y5), (6, vi y6), (7, vi y7)]) 2 d_M_count_33 rfl rfl (by decide) rfl ?_
      refine z_iinc (ls2 := [(7, vi (y7 + (1 : Int32))), (2, vi (y2 + (1 : Int32))), (0, vr (some y0)), (1, vi y1), (3, vi y3), (4, vi y4), (5, vi y5), (6, vi y6)]) 7 d_M_count_36 rfl rfl (by decide) rfl ?_
      refine z_goto (tgt := 16) d_M_count_39 (by decide) ?_
      refine z_ls [2, 3, 1, 4, 5, 6, 7, 0] rfl ?_
      exact kc ((y2 + (1 : Int32)), (y7 + (1 : Int32)), h) (Option.some.inj hf).symm
set_option maxRecDepth 100000 in
set_option maxHeartbeats 4000000 in
theorem kb_M_count_16 {C : Ct} {mi : Nat} {y0 : Nat} {y1 : Int32} {y2 : Int32} {y3 : Int32} {y4 : Int32} {y5 : Int32} {y6 : Int32} {y7 : Int32} {h : Hp} {q : ((Int32 × Int32 × Hp) ⊕ (Int32 × Hp))} (hf : b_M_count_16 y0 y1 y2 y3 y4 y5 y6 y7 h = some q) : Keep W_M_count h (Sum.elim (fun s : Int32 × Int32 × Hp => s.2.2) (fun x : Int32 × Hp => x.2) q) := by
  unfold b_M_count_16 at hf
  rcases Classical.em ((nI 32) ≤ y7) with c1 | c1
  · rw [if_pos c1] at hf
    cases (Option.some.inj hf)
    exact (Keep.refl W_M_count _)
  · rw [if_neg c1] at hf
    obtain ⟨g2, hf⟩ := gd_some hf
    obtain ⟨a3, e4, hf⟩ := dr_some hf
    obtain ⟨g5, hf⟩ := gd_some hf
    obtain ⟨g6, hf⟩ := gd_some hf
    rcases Classical.em ((hpI h a3 y7.toNatClampNeg) = 0) with c7 | c7
    · rw [if_pos c7] at hf
      cases (Option.some.inj hf)
      exact (Keep.refl W_M_count _)
    · rw [if_neg c7] at hf
      cases (Option.some.inj hf)
      exact (Keep.refl W_M_count _)
def l_M_count_16 (y0 : Nat) (y1 : Int32) (y3 : Int32) (y4 : Int32) (y5 : Int32) (y6 : Int32) (s : Int32 × Int32 × Hp) : Option (Int32 × Hp) := lp (fun s => b_M_count_16 y0 y1 s.1 y3 y4 y5 y6 s.2.1 s.2.2) FU s
theorem zzl_M_count_16 {l : Launch} {C : Ct} {mi : Nat} {y0 : Nat} {y1 : Int32} {y3 : Int32} {y4 : Int32} {y5 : Int32} {y6 : Int32} {h' : Hp} {v : Int32} : ∀ (n : Nat) (s : Int32 × Int32 × Hp) (x : (Int32 × Hp)), lp (fun s : Int32 × Int32 × Hp => b_M_count_16 y0 y1 s.1 y3 y4 y5 y6 s.2.1 s.2.2) n s = some x → Z l C mi m_M_count 3 42 [(0, vr (some y0)), (1, vi y1), (2, vi x.1), (3, vi y3), (4, vi y4), (5, vi y5), (6, vi y6)] [] x.2 (some (vi v)) h' → Z l C mi m_M_count 3 16 [(0, vr (some y0)), (1, vi y1), (2, vi s.1), (3, vi y3), (4, vi y4), (5, vi y5), (6, vi y6), (7, vi s.2.1)] [] s.2.2 (some (vi v)) h' := by
  intro n
  induction n with
  | zero => intro s x hl; cases hl
  | succ n ih =>
    intro s x hl ke
    rcases lp_some hl with ⟨s2, hb, hl2⟩ | hb
    · exact zb_M_count_16 hb (fun s3 e3 => by cases e3; refine z_ls [0, 1, 2, 3, 4, 5, 6, 7] rfl ?_; exact ih s2 x hl2 ke) (fun x e3 => by cases e3)
    · exact zb_M_count_16 hb (fun s3 e3 => by cases e3) (fun x e3 => by cases e3; exact ke)
theorem zl_M_count_16 {l : Launch} {C : Ct} {mi : Nat} {y0 : Nat} {y1 : Int32} {y3 : Int32} {y4 : Int32} {y5 : Int32} {y6 : Int32} {h' : Hp} {v : Int32} {s : Int32 × Int32 × Hp} {x : (Int32 × Hp)} (hl : l_M_count_16 y0 y1 y3 y4 y5 y6 s = some x) (ke : Z l C mi m_M_count 3 42 [(0, vr (some y0)), (1, vi y1), (2, vi x.1), (3, vi y3), (4, vi y4), (5, vi y5), (6, vi y6)] [] x.2 (some (vi v)) h') : Z l C mi m_M_count 3 16 [(0, vr (some y0)), (1, vi y1), (2, vi s.1), (3, vi y3), (4, vi y4), (5, vi y5), (6, vi y6), (7, vi s.2.1)] [] s.2.2 (some (vi v)) h' := zzl_M_count_16 FU s x hl ke
theorem kl_M_count_16 {C : Ct} {mi : Nat} {y0 : Nat} {y1 : Int32} {y3 : Int32} {y4 : Int32} {y5 : Int32} {y6 : Int32} {s : Int32 × Int32 × Hp} {q : (Int32 × Hp)} (hl : l_M_count_16 y0 y1 y3 y4 y5 y6 s = some q) : Keep W_M_count s.2.2 ((fun x : Int32 × Hp => x.2) q) := lpk (sh := (fun s : Int32 × Int32 × Hp => s.2.2)) (rh := (fun x : Int32 × Hp => x.2)) (fun s q hb => kb_M_count_16 (C := C) (mi := mi) hb) FU s q hl
def b_M_count_45 (y0 : Nat) (y1 : Int32) (y2 : Int32) (y3 : Int32) (y4 : Int32) (y5 : Int32) (y6 : Int32) (y7 : Int32) (h : Hp) : Option ((Int32 × Int32 × Hp) ⊕ (Int32 × Hp)) :=
  if (nI 16) ≤ y7 then (some (.inr (y3, h))) else (gd (isK h y0 8) (dr (hpR h y0 1) fun a13 => gd (isK h a13 76) (gd (inb y7 (hpL h a13)) (if (hpI h a13 y7.toNatClampNeg) = 0 then (some (.inl (y3, (y7 + (1 : Int32)), h))) else (some (.inl ((y3 + (1 : Int32)), (y7 + (1 : Int32)), h)))))))
set_option maxRecDepth 100000 in
set_option maxHeartbeats 4000000 in
theorem zb_M_count_45 {l : Launch} {C : Ct} {mi : Nat} {y0 : Nat} {y1 : Int32} {y2 : Int32} {y3 : Int32} {y4 : Int32} {y5 : Int32} {y6 : Int32} {y7 : Int32} {h h' : Hp} {v : Int32} {q : ((Int32 × Int32 × Hp) ⊕ (Int32 × Hp))} (hf : b_M_count_45 y0 y1 y2 y3 y4 y5 y6 y7 h = some q) (kc : ∀ s, q = .inl s → Z l C mi m_M_count 3 45 [(0, vr (some y0)), (1, vi y1), (2, vi y2), (3, vi s.1), (4, vi y4), (5, vi y5), (6, vi y6), (7, vi s.2.1)] [] s.2.2 (some (vi v)) h') (ke : ∀ x, q = .inr x → Z l C mi m_M_count 3 71 [(0, vr (some y0)), (1, vi y1), (2, vi y2), (3, vi x.1), (4, vi y4), (5, vi y5), (6, vi y6)] [] x.2 (some (vi v)) h') : Z l C mi m_M_count 3 45 [(0, vr (some y0)), (1, vi y1), (2, vi y2), (3, vi y3), (4, vi y4), (5, vi y5), (6, vi y6), (7, vi y7)] [] h (some (vi v)) h' := by
  unfold b_M_count_45 at hf
  refine z_iload 7 d_M_count_45 rfl ?_
  refine z_bipush (v := (nI 16)) d_M_count_47 (by decide) ?_
  refine z_icmp_ge (tgt := 71) d_M_count_49 (by decide) (fun c11 => ?_) (fun c11 => ?_)
  · rw [if_pos c11] at hf
    refine z_ls [0, 1, 2, 3, 4, 5, 6] rfl ?_
    exact ke (y3, h) (Option.some.inj hf).symm
  · rw [if_neg c11] at hf
    refine z_aload_n 0 d_M_count_52 rfl rfl ?_
    obtain ⟨g12, hf⟩ := gd_some hf
    refine z_getR d_M_count_53 (fl_K (isK_eq g12) fl_M_13_8) (fi_K (isK_eq g12) rfl) rfl ?_
    refine z_iload 7 d_M_count_56 rfl ?_
    obtain ⟨a13, e14, hf⟩ := dr_some hf
    obtain ⟨g15, hf⟩ := gd_some hf
    obtain ⟨g16, hf⟩ := gd_some hf
    refine z_zald d_M_count_58 e14 (by rw [isK_eq g15]; decide) (by rw [isK_eq g15]; rfl) (inb_vp g16) ?_
    refine z_if_eq (tgt := 65) d_M_count_59 (by decide) (fun c17 => ?_) (fun c17 => ?_)
    · rw [if_pos c17] at hf
      refine z_iinc (ls2 := [(7, vi (y7 + (1 : Int32))), (0, vr (some y0)), (1, vi y1), (2, vi y2), (3, vi y3), (4, vi y4), (5, vi y5), (6, vi y6)]) 7 d_M_count_65 rfl rfl (by decide) rfl ?_
      refine z_goto (tgt := 45) d_M_count_68 (by decide) ?_
      refine z_ls [1, 2, 3, 4, 5, 6, 7, 0] rfl ?_
      exact kc (y3, (y7 + (1 : Int32)), h) (Option.some.inj hf).symm
    · rw [if_neg c17] at hf
      refine z_iinc (ls2 := [(3, vi (y3 + (1 : Int32))), (0, vr (some y0)), (1, vi y1), (2, vi y2), (4, vi y4), (5, vi y5), (6, vi y6), (7, vi y7)]) 3 d_M_count_62 rfl rfl (by decide) rfl ?_
      refine z_iinc (ls2 := [(7, vi (y7 + (1 : Int32))), (3, vi (y3 + (1 : Int32))), (0, vr (some y0)), (1, vi y1), (2, vi y2), (4, vi y4), (5, vi y5), (6, vi y6)]) 7 d_M_count_65 rfl rfl (by decide) rfl ?_
      refine z_goto (tgt := 45) d_M_count_68 (by decide) ?_
      refine z_ls [2, 3, 4, 1, 5, 6, 7, 0] rfl ?_
      exact kc ((y3 + (1 : Int32)), (y7 + (1 : Int32)), h) (Option.some.inj hf).symm
set_option maxRecDepth 100000 in
set_option maxHeartbeats 4000000 in
theorem kb_M_count_45 {C : Ct} {mi : Nat} {y0 : Nat} {y1 : Int32} {y2 : Int32} {y3 : Int32} {y4 : Int32} {y5 : Int32} {y6 : Int32} {y7 : Int32} {h : Hp} {q : ((Int32 × Int32 × Hp) ⊕ (Int32 × Hp))} (hf : b_M_count_45 y0 y1 y2 y3 y4 y5 y6 y7 h = some q) : Keep W_M_count h (Sum.elim (fun s : Int32 × Int32 × Hp => s.2.2) (fun x : Int32 × Hp => x.2) q) := by
  unfold b_M_count_45 at hf
  rcases Classical.em ((nI 16) ≤ y7) with c11 | c11
  · rw [if_pos c11] at hf
    cases (Option.some.inj hf)
    exact (Keep.refl W_M_count _)
  · rw [if_neg c11] at hf
    obtain ⟨g12, hf⟩ := gd_some hf
    obtain ⟨a13, e14, hf⟩ := dr_some hf
    obtain ⟨g15, hf⟩ := gd_some hf
    obtain ⟨g16, hf⟩ := gd_some hf
    rcases Classical.em ((hpI h a13 y7.toNatClampNeg) = 0) with c17 | c17
    · rw [if_pos c17] at hf
      cases (Option.some.inj hf)
      exact (Keep.refl W_M_count _)
    · rw [if_neg c17] at hf
      cases (Option.some.inj hf)
      exact (Keep.refl W_M_count _)
def l_M_count_45 (y0 : Nat) (y1 : Int32) (y2 : Int32) (y4 : Int32) (y5 : Int32) (y6 : Int32) (s : Int32 × Int32 × Hp) : Option (Int32 × Hp) := lp (fun s => b_M_count_45 y0 y1 y2 s.1 y4 y5 y6 s.2.1 s.2.2) FU s
theorem zzl_M_count_45 {l : Launch} {C : Ct} {mi : Nat} {y0 : Nat} {y1 : Int32} {y2 : Int32} {y4 : Int32} {y5 : Int32} {y6 : Int32} {h' : Hp} {v : Int32} : ∀ (n : Nat) (s : Int32 × Int32 × Hp) (x : (Int32 × Hp)), lp (fun s : Int32 × Int32 × Hp => b_M_count_45 y0 y1 y2 s.1 y4 y5 y6 s.2.1 s.2.2) n s = some x → Z l C mi m_M_count 3 71 [(0, vr (some y0)), (1, vi y1), (2, vi y2), (3, vi x.1), (4, vi y4), (5, vi y5), (6, vi y6)] [] x.2 (some (vi v)) h' → Z l C mi m_M_count 3 45 [(0, vr (some y0)), (1, vi y1), (2, vi y2), (3, vi s.1), (4, vi y4), (5, vi y5), (6, vi y6), (7, vi s.2.1)] [] s.2.2 (some (vi v)) h' := by
  intro n
  induction n with
  | zero => intro s x hl; cases hl
  | succ n ih =>
    intro s x hl ke
    rcases lp_some hl with ⟨s2, hb, hl2⟩ | hb
    · exact zb_M_count_45 hb (fun s3 e3 => by cases e3; refine z_ls [0, 1, 2, 3, 4, 5, 6, 7] rfl ?_; exact ih s2 x hl2 ke) (fun x e3 => by cases e3)
    · exact zb_M_count_45 hb (fun s3 e3 => by cases e3) (fun x e3 => by cases e3; exact ke)
theorem zl_M_count_45 {l : Launch} {C : Ct} {mi : Nat} {y0 : Nat} {y1 : Int32} {y2 : Int32} {y4 : Int32} {y5 : Int32} {y6 : Int32} {h' : Hp} {v : Int32} {s : Int32 × Int32 × Hp} {x : (Int32 × Hp)} (hl : l_M_count_45 y0 y1 y2 y4 y5 y6 s = some x) (ke : Z l C mi m_M_count 3 71 [(0, vr (some y0)), (1, vi y1), (2, vi y2), (3, vi x.1), (4, vi y4), (5, vi y5), (6, vi y6)] [] x.2 (some (vi v)) h') : Z l C mi m_M_count 3 45 [(0, vr (some y0)), (1, vi y1), (2, vi y2), (3, vi s.1), (4, vi y4), (5, vi y5), (6, vi y6), (7, vi s.2.1)] [] s.2.2 (some (vi v)) h' := zzl_M_count_45 FU s x hl ke
theorem kl_M_count_45 {C : Ct} {mi : Nat} {y0 : Nat} {y1 : Int32} {y2 : Int32} {y4 : Int32} {y5 : Int32} {y6 : Int32} {s : Int32 × Int32 × Hp} {q : (Int32 × Hp)} (hl : l_M_count_45 y0 y1 y2 y4 y5 y6 s = some q) : Keep W_M_count s.2.2 ((fun x : Int32 × Hp => x.2) q) := lpk (sh := (fun s : Int32 × Int32 × Hp => s.2.2)) (rh := (fun x : Int32 × Hp => x.2)) (fun s q hb => kb_M_count_45 (C := C) (mi := mi) hb) FU s q hl
def b_M_count_74 (y0 : Nat) (y1 : Int32) (y2 : Int32) (y3 : Int32) (y4 : Int32) (y5 : Int32) (y6 : Int32) (y7 : Int32) (h : Hp) : Option ((Int32 × Int32 × Hp) ⊕ (Int32 × Hp)) :=
  if (nI 4) ≤ y7 then (some (.inr (y4, h))) else (gd (isK h y0 8) (dr (hpR h y0 2) fun a23 => gd (isK h a23 77) (gd (inb y7 (hpL h a23)) (if (hpI h a23 y7.toNatClampNeg) = 0 then (some (.inl (y4, (y7 + (1 : Int32)), h))) else (some (.inl ((y4 + (1 : Int32)), (y7 + (1 : Int32)), h)))))))
set_option maxRecDepth 100000 in
set_option maxHeartbeats 4000000 in
theorem zb_M_count_74 {l : Launch} {C : Ct} {mi : Nat} {y0 : Nat} {y1 : Int32} {y2 : Int32} {y3 : Int32} {y4 : Int32} {y5 : Int32} {y6 : Int32} {y7 : Int32} {h h' : Hp} {v : Int32} {q : ((Int32 × Int32 × Hp) ⊕ (Int32 × Hp))} (hf : b_M_count_74 y0 y1 y2 y3 y4 y5 y6 y7 h = some q) (kc : ∀ s, q = .inl s → Z l C mi m_M_count 3 74 [(0, vr (some y0)), (1, vi y1), (2, vi y2), (3, vi y3), (4, vi s.1), (5, vi y5), (6, vi y6), (7, vi s.2.1)] [] s.2.2 (some (vi v)) h') (ke : ∀ x, q = .inr x → Z l C mi m_M_count 3 99 [(0, vr (some y0)), (1, vi y1), (2, vi y2), (3, vi y3), (4, vi x.1), (5, vi y5), (6, vi y6)] [] x.2 (some (vi v)) h') : Z l C mi m_M_count 3 74 [(0, vr (some y0)), (1, vi y1), (2, vi y2), (3, vi y3), (4, vi y4), (5, vi y5), (6, vi y6), (7, vi y7)] [] h (some (vi v)) h' := by
  unfold b_M_count_74 at hf
  refine z_iload 7 d_M_count_74 rfl ?_
  refine z_iconst (v := (nI 4)) d_M_count_76 (by decide) ?_
  refine z_icmp_ge (tgt := 99) d_M_count_77 (by decide) (fun c21 => ?_) (fun c21 => ?_)
  · rw [if_pos c21] at hf
    refine z_ls [0, 1, 2, 3, 4, 5, 6] rfl ?_
    exact ke (y4, h) (Option.some.inj hf).symm
  · rw [if_neg c21] at hf
    refine z_aload_n 0 d_M_count_80 rfl rfl ?_
    obtain ⟨g22, hf⟩ := gd_some hf
    refine z_getR d_M_count_81 (fl_K (isK_eq g22) fl_M_16_8) (fi_K (isK_eq g22) rfl) rfl ?_
    refine z_iload 7 d_M_count_84 rfl ?_
    obtain ⟨a23, e24, hf⟩ := dr_some hf
    obtain ⟨g25, hf⟩ := gd_some hf
    obtain ⟨g26, hf⟩ := gd_some hf
    refine z_zald d_M_count_86 e24 (by rw [isK_eq g25]; decide) (by rw [isK_eq g25]; rfl) (inb_vp g26) ?_
    refine z_if_eq (tgt := 93) d_M_count_87 (by decide) (fun c27 => ?_) (fun c27 => ?_)
    · rw [if_pos c27] at hf
      refine z_iinc (ls2 := [(7, vi (y7 + (1 : Int32))), (0, vr (some y0)), (1, vi y1), (2, vi y2), (3, vi y3), (4, vi y4), (5, vi y5), (6, vi y6)]) 7 d_M_count_93 rfl rfl (by decide) rfl ?_
      refine z_goto (tgt := 74) d_M_count_96 (by decide) ?_
      refine z_ls [1, 2, 3, 4, 5, 6, 7, 0] rfl ?_
      exact kc (y4, (y7 + (1 : Int32)), h) (Option.some.inj hf).symm
    · rw [if_neg c27] at hf
      refine z_iinc (ls2 := [(4, vi (y4 + (1 : Int32))), (0, vr (some y0)), (1, vi y1), (2, vi y2), (3, vi y3), (5, vi y5), (6, vi y6), (7, vi y7)]) 4 d_M_count_90 rfl rfl (by decide) rfl ?_
      refine z_iinc (ls2 := [(7, vi (y7 + (1 : Int32))), (4, vi (y4 + (1 : Int32))), (0, vr (some y0)), (1, vi y1), (2, vi y2), (3, vi y3), (5, vi y5), (6, vi y6)]) 7 d_M_count_93 rfl rfl (by decide) rfl ?_
      refine z_goto (tgt := 74) d_M_count_96 (by decide) ?_
      refine z_ls [2, 3, 4, 5, 1, 6, 7, 0] rfl ?_
      exact kc ((y4 + (1 : Int32)), (y7 + (1 : Int32)), h) (Option.some.inj hf).symm
set_option maxRecDepth 100000 in
set_option maxHeartbeats 4000000 in
theorem kb_M_count_74 {C : Ct} {mi : Nat} {y0 : Nat} {y1 : Int32} {y2 : Int32} {y3 : Int32} {y4 : Int32} {y5 : Int32} {y6 : Int32} {y7 : Int32} {h : Hp} {q : ((Int32 × Int32 × Hp) ⊕ (Int32 × Hp))} (hf : b_M_count_74 y0 y1 y2 y3 y4 y5 y6 y7 h = some q) : Keep W_M_count h (Sum.elim (fun s : Int32 × Int32 × Hp => s.2.2) (fun x : Int32 × Hp => x.2) q) := by
  unfold b_M_count_74 at hf
  rcases Classical.em ((nI 4) ≤ y7) with c21 | c21
  · rw [if_pos c21] at hf
    cases (Option.some.inj hf)
    exact (Keep.refl W_M_count _)
  · rw [if_neg c21] at hf
    obtain ⟨g22, hf⟩ := gd_some hf
    obtain ⟨a23, e24, hf⟩ := dr_some hf
    obtain ⟨g25, hf⟩ := gd_some hf
    obtain ⟨g26, hf⟩ := gd_some hf
    rcases Classical.em ((hpI h a23 y7.toNatClampNeg) = 0) with c27 | c27
    · rw [if_pos c27] at hf
      cases (Option.some.inj hf)
      exact (Keep.refl W_M_count _)
    · rw [if_neg c27] at hf
      cases (Option.some.inj hf)
      exact (Keep.refl W_M_count _)
def l_M_count_74 (y0 : Nat) (y1 : Int32) (y2 : Int32) (y3 : Int32) (y5 : Int32) (y6 : Int32) (s : Int32 × Int32 × Hp) : Option (Int32 × Hp) := lp (fun s => b_M_count_74 y0 y1 y2 y3 s.1 y5 y6 s.2.1 s.2.2) FU s
theorem zzl_M_count_74 {l : Launch} {C : Ct} {mi : Nat} {y0 : Nat} {y1 : Int32} {y2 : Int32} {y3 : Int32} {y5 : Int32} {y6 : Int32} {h' : Hp} {v : Int32} : ∀ (n : Nat) (s : Int32 × Int32 × Hp) (x : (Int32 × Hp)), lp (fun s : Int32 × Int32 × Hp => b_M_count_74 y0 y1 y2 y3 s.1 y5 y6 s.2.1 s.2.2) n s = some x → Z l C mi m_M_count 3 99 [(0, vr (some y0)), (1, vi y1), (2, vi y2), (3, vi y3), (4, vi x.1), (5, vi y5), (6, vi y6)] [] x.2 (some (vi v)) h' → Z l C mi m_M_count 3 74 [(0, vr (some y0)), (1, vi y1), (2, vi y2), (3, vi y3), (4, vi s.1), (5, vi y5), (6, vi y6), (7, vi s.2.1)] [] s.2.2 (some (vi v)) h' := by
  intro n
  induction n with
  | zero => intro s x hl; cases hl
  | succ n ih =>
    intro s x hl ke
    rcases lp_some hl with ⟨s2, hb, hl2⟩ | hb
    · exact zb_M_count_74 hb (fun s3 e3 => by cases e3; refine z_ls [0, 1, 2, 3, 4, 5, 6, 7] rfl ?_; exact ih s2 x hl2 ke) (fun x e3 => by cases e3)
    · exact zb_M_count_74 hb (fun s3 e3 => by cases e3) (fun x e3 => by cases e3; exact ke)
theorem zl_M_count_74 {l : Launch} {C : Ct} {mi : Nat} {y0 : Nat} {y1 : Int32} {y2 : Int32} {y3 : Int32} {y5 : Int32} {y6 : Int32} {h' : Hp} {v : Int32} {s : Int32 × Int32 × Hp} {x : (Int32 × Hp)} (hl : l_M_count_74 y0 y1 y2 y3 y5 y6 s = some x) (ke : Z l C mi m_M_count 3 99 [(0, vr (some y0)), (1, vi y1), (2, vi y2), (3, vi y3), (4, vi x.1), (5, vi y5), (6, vi y6)] [] x.2 (some (vi v)) h') : Z l C mi m_M_count 3 74 [(0, vr (some y0)), (1, vi y1), (2, vi y2), (3, vi y3), (4, vi s.1), (5, vi y5), (6, vi y6), (7, vi s.2.1)] [] s.2.2 (some (vi v)) h' := zzl_M_count_74 FU s x hl ke
theorem kl_M_count_74 {C : Ct} {mi : Nat} {y0 : Nat} {y1 : Int32} {y2 : Int32} {y3 : Int32} {y5 : Int32} {y6 : Int32} {s : Int32 × Int32 × Hp} {q : (Int32 × Hp)} (hl : l_M_count_74 y0 y1 y2 y3 y5 y6 s = some q) : Keep W_M_count s.2.2 ((fun x : Int32 × Hp => x.2) q) := lpk (sh := (fun s : Int32 × Int32 × Hp => s.2.2)) (rh := (fun x : Int32 × Hp => x.2)) (fun s q hb => kb_M_count_74 (C := C) (mi := mi) hb) FU s q hl
def b_M_count_102 (y0 : Nat) (y1 : Int32) (y2 : Int32) (y3 : Int32) (y4 : Int32) (y5 : Int32) (y6 : Int32) (y7 : Int32) (h : Hp) : Option ((Int32 × Int32 × Hp) ⊕ (Int32 × Hp)) :=
  if (nI 128) ≤ y7 then (some (.inr (y6, h))) else (gd (isK h y0 8) (dr (hpR h y0 0) fun a33 => gd (isK h a33 75) (gd (inb y7 (hpL h a33)) (if (hpI h a33 y7.toNatClampNeg) = 0 then (some (.inl (y6, (y7 + (1 : Int32)), h))) else (some (.inl ((y6 + (1 : Int32)), (y7 + (1 : Int32)), h)))))))
set_option maxRecDepth 100000 in
set_option maxHeartbeats 4000000 in
theorem zb_M_count_102 {l : Launch} {C : Ct} {mi : Nat} {y0 : Nat} {y1 : Int32} {y2 : Int32} {y3 : Int32} {y4 : Int32} {y5 : Int32} {y6 : Int32} {y7 : Int32} {h h' : Hp} {v : Int32} {q : ((Int32 × Int32 × Hp) ⊕ (Int32 × Hp))} (hf : b_M_count_102 y0 y1 y2 y3 y4 y5 y6 y7 h = some q) (kc : ∀ s, q = .inl s → Z l C mi m_M_count 3 102 [(0, vr (some y0)), (1, vi y1), (2, vi y2), (3, vi y3), (4, vi y4), (5, vi y5), (6, vi s.1), (7, vi s.2.1)] [] s.2.2 (some (vi v)) h') (ke : ∀ x, q = .inr x → Z l C mi m_M_count 3 129 [(0, vr (some y0)), (1, vi y1), (2, vi y2), (3, vi y3), (4, vi y4), (5, vi y5), (6, vi x.1)] [] x.2 (some (vi v)) h') : Z l C mi m_M_count 3 102 [(0, vr (some y0)), (1, vi y1), (2, vi y2), (3, vi y3), (4, vi y4), (5, vi y5), (6, vi y6), (7, vi y7)] [] h (some (vi v)) h' := by
  unfold b_M_count_102 at hf
  refine z_iload 7 d_M_count_102 rfl ?_
  refine z_sipush (v := (nI 128)) d_M_count_104 (by decide) ?_
  refine z_icmp_ge (tgt := 129) d_M_count_107 (by decide) (fun c31 => ?_) (fun c31 => ?_)
  · rw [if_pos c31] at hf
    refine z_ls [0, 1, 2, 3, 4, 5, 6] rfl ?_
    exact ke (y6, h) (Option.some.inj hf).symm
  · rw [if_neg c31] at hf
    refine z_aload_n 0 d_M_count_110 rfl rfl ?_
    obtain ⟨g32, hf⟩ := gd_some hf
    refine z_getR d_M_count_111 (fl_K (isK_eq g32) fl_M_7_8) (fi_K (isK_eq g32) rfl) rfl ?_
    refine z_iload 7 d_M_count_114 rfl ?_
    obtain ⟨a33, e34, hf⟩ := dr_some hf
    obtain ⟨g35, hf⟩ := gd_some hf
    obtain ⟨g36, hf⟩ := gd_some hf
    refine z_zald d_M_count_116 e34 (by rw [isK_eq g35]; decide) (by rw [isK_eq g35]; rfl) (inb_vp g36) ?_
    refine z_if_eq (tgt := 123) d_M_count_117 (by decide) (fun c37 => ?_) (fun c37 => ?_)
    · rw [if_pos c37] at hf
      refine z_iinc (ls2 := [(7, vi (y7 + (1 : Int32))), (0, vr (some y0)), (1, vi y1), (2, vi y2), (3, vi y3), (4, vi y4), (5, vi y5), (6, vi y6)]) 7 d_M_count_123 rfl rfl (by decide) rfl ?_
      refine z_goto (tgt := 102) d_M_count_126 (by decide) ?_
      refine z_ls [1, 2, 3, 4, 5, 6, 7, 0] rfl ?_
      exact kc (y6, (y7 + (1 : Int32)), h) (Option.some.inj hf).symm
    · rw [if_neg c37] at hf
      refine z_iinc (ls2 := [(6, vi (y6 + (1 : Int32))), (0, vr (some y0)), (1, vi y1), (2, vi y2), (3, vi y3), (4, vi y4), (5, vi y5), (7, vi y7)]) 6 d_M_count_120 rfl rfl (by decide) rfl ?_
      refine z_iinc (ls2 := [(7, vi (y7 + (1 : Int32))), (6, vi (y6 + (1 : Int32))), (0, vr (some y0)), (1, vi y1), (2, vi y2), (3, vi y3), (4, vi y4), (5, vi y5)]) 7 d_M_count_123 rfl rfl (by decide) rfl ?_
      refine z_goto (tgt := 102) d_M_count_126 (by decide) ?_
      refine z_ls [2, 3, 4, 5, 6, 7, 1, 0] rfl ?_
      exact kc ((y6 + (1 : Int32)), (y7 + (1 : Int32)), h) (Option.some.inj hf).symm
set_option maxRecDepth 100000 in
set_option maxHeartbeats 4000000 in
theorem kb_M_count_102 {C : Ct} {mi : Nat} {y0 : Nat} {y1 : Int32} {y2 : Int32} {y3 : Int32} {y4 : Int32} {y5 : Int32} {y6 : Int32} {y7 : Int32} {h : Hp} {q : ((Int32 × Int32 × Hp) ⊕ (Int32 × Hp))} (hf : b_M_count_102 y0 y1 y2 y3 y4 y5 y6 y7 h = some q) : Keep W_M_count h (Sum.elim (fun s : Int32 × Int32 × Hp => s.2.2) (fun x : Int32 × Hp => x.2) q) := by
  unfold b_M_count_102 at hf
  rcases Classical.em ((nI 128) ≤ y7) with c31 | c31
  · rw [if_pos c31] at hf
    cases (Option.some.inj hf)
    exact (Keep.refl W_M_count _)
  · rw [if_neg c31] at hf
    obtain ⟨g32, hf⟩ := gd_some hf
    obtain ⟨a33, e34, hf⟩ := dr_some hf
    obtain ⟨g35, hf⟩ := gd_some hf
    obtain ⟨g36, hf⟩ := gd_some hf
    rcases Classical.em ((hpI h a33 y7.toNatClampNeg) = 0) with c37 | c37
    · rw [if_pos c37] at hf
      cases (Option.some.inj hf)
      exact (Keep.refl W_M_count _)
    · rw [if_neg c37] at hf
      cases (Option.some.inj hf)
      exact (Keep.refl W_M_count _)
def l_M_count_102 (y0 : Nat) (y1 : Int32) (y2 : Int32) (y3 : Int32) (y4 : Int32) (y5 : Int32) (s : Int32 × Int32 × Hp) : Option (Int32 × Hp) := lp (fun s => b_M_count_102 y0 y1 y2 y3 y4 y5 s.1 s.2.1 s.2.2) FU s
theorem zzl_M_count_102 {l : Launch} {C : Ct} {mi : Nat} {y0 : Nat} {y1 : Int32} {y2 : Int32} {y3 : Int32} {y4 : Int32} {y5 : Int32} {h' : Hp} {v : Int32} : ∀ (n : Nat) (s : Int32 × Int32 × Hp) (x : (Int32 × Hp)), lp (fun s : Int32 × Int32 × Hp => b_M_count_102 y0 y1 y2 y3 y4 y5 s.1 s.2.1 s.2.2) n s = some x → Z l C mi m_M_count 3 129 [(0, vr (some y0)), (1, vi y1), (2, vi y2), (3, vi y3), (4, vi y4), (5, vi y5), (6, vi x.1)] [] x.2 (some (vi v)) h' → Z l C mi m_M_count 3 102 [(0, vr (some y0)), (1, vi y1), (2, vi y2), (3, vi y3), (4, vi y4), (5, vi y5), (6, vi s.1), (7, vi s.2.1)] [] s.2.2 (some (vi v)) h' := by
  intro n
  induction n with
  | zero => intro s x hl; cases hl
  | succ n ih =>
    intro s x hl ke
    rcases lp_some hl with ⟨s2, hb, hl2⟩ | hb
    · exact zb_M_count_102 hb (fun s3 e3 => by cases e3; refine z_ls [0, 1, 2, 3, 4, 5, 6, 7] rfl ?_; exact ih s2 x hl2 ke) (fun x e3 => by cases e3)
    · exact zb_M_count_102 hb (fun s3 e3 => by cases e3) (fun x e3 => by cases e3; exact ke)
theorem zl_M_count_102 {l : Launch} {C : Ct} {mi : Nat} {y0 : Nat} {y1 : Int32} {y2 : Int32} {y3 : Int32} {y4 : Int32} {y5 : Int32} {h' : Hp} {v : Int32} {s : Int32 × Int32 × Hp} {x : (Int32 × Hp)} (hl : l_M_count_102 y0 y1 y2 y3 y4 y5 s = some x) (ke : Z l C mi m_M_count 3 129 [(0, vr (some y0)), (1, vi y1), (2, vi y2), (3, vi y3), (4, vi y4), (5, vi y5), (6, vi x.1)] [] x.2 (some (vi v)) h') : Z l C mi m_M_count 3 102 [(0, vr (some y0)), (1, vi y1), (2, vi y2), (3, vi y3), (4, vi y4), (5, vi y5), (6, vi s.1), (7, vi s.2.1)] [] s.2.2 (some (vi v)) h' := zzl_M_count_102 FU s x hl ke
theorem kl_M_count_102 {C : Ct} {mi : Nat} {y0 : Nat} {y1 : Int32} {y2 : Int32} {y3 : Int32} {y4 : Int32} {y5 : Int32} {s : Int32 × Int32 × Hp} {q : (Int32 × Hp)} (hl : l_M_count_102 y0 y1 y2 y3 y4 y5 s = some q) : Keep W_M_count s.2.2 ((fun x : Int32 × Hp => x.2) q) := lpk (sh := (fun s : Int32 × Int32 × Hp => s.2.2)) (rh := (fun x : Int32 × Hp => x.2)) (fun s q hb => kb_M_count_102 (C := C) (mi := mi) hb) FU s q hl
def b_M_count_136 (y0 : Nat) (y1 : Int32) (y2 : Int32) (y3 : Int32) (y4 : Int32) (y5 : Int32) (y6 : Int32) (y7 : Int32) (h : Hp) : Option ((Int32 × Int32 × Hp) ⊕ (Int32 × Hp)) :=
  if (nI 160) ≤ y7 then (some (.inr (y5, h))) else (gd (isK h y0 8) (dr (hpR h y0 12) fun a47 => gd (isK h a47 87) (gd (inb y7 (hpL h a47)) (if (hpI h a47 y7.toNatClampNeg) = 0 then (some (.inl (y5, (y7 + (1 : Int32)), h))) else (some (.inl ((y5 + (1 : Int32)), (y7 + (1 : Int32)), h)))))))
set_option maxRecDepth 100000 in
set_option maxHeartbeats 4000000 in
theorem zb_M_count_136 {l : Launch} {C : Ct} {mi : Nat} {y0 : Nat} {y1 : Int32} {y2 : Int32} {y3 : Int32} {y4 : Int32} {y5 : Int32} {y6 : Int32} {y7 : Int32} {h h' : Hp} {v : Int32} {q : ((Int32 × Int32 × Hp) ⊕ (Int32 × Hp))} (hf : b_M_count_136 y0 y1 y2 y3 y4 y5 y6 y7 h = some q) (kc : ∀ s, q = .inl s → Z l C mi m_M_count 3 136 [(0, vr (some y0)), (1, vi y1), (2, vi y2), (3, vi y3), (4, vi y4), (5, vi s.1), (6, vi y6), (7, vi s.2.1)] [] s.2.2 (some (vi v)) h') (ke : ∀ x, q = .inr x → Z l C mi m_M_count 3 163 [(0, vr (some y0)), (1, vi y1), (2, vi y2), (3, vi y3), (4, vi y4), (5, vi x.1), (6, vi y6)] [] x.2 (some (vi v)) h') : Z l C mi m_M_count 3 136 [(0, vr (some y0)), (1, vi y1), (2, vi y2), (3, vi y3), (4, vi y4), (5, vi y5), (6, vi y6), (7, vi y7)] [] h (some (vi v)) h' := by
  unfold b_M_count_136 at hf
  refine z_iload 7 d_M_count_136 rfl ?_
  refine z_sipush (v := (nI 160)) d_M_count_138 (by decide) ?_
  refine z_icmp_ge (tgt := 163) d_M_count_141 (by decide) (fun c45 => ?_) (fun c45 => ?_)
  · rw [if_pos c45] at hf
    refine z_ls [0, 1, 2, 3, 4, 5, 6] rfl ?_
    exact ke (y5, h) (Option.some.inj hf).symm
  · rw [if_neg c45] at hf
    refine z_aload_n 0 d_M_count_144 rfl rfl ?_
    obtain ⟨g46, hf⟩ := gd_some hf
    refine z_getR d_M_count_145 (fl_K (isK_eq g46) fl_M_47_8) (fi_K (isK_eq g46) rfl) rfl ?_
    refine z_iload 7 d_M_count_148 rfl ?_
    obtain ⟨a47, e48, hf⟩ := dr_some hf
    obtain ⟨g49, hf⟩ := gd_some hf
    obtain ⟨g50, hf⟩ := gd_some hf
    refine z_zald d_M_count_150 e48 (by rw [isK_eq g49]; decide) (by rw [isK_eq g49]; rfl) (inb_vp g50) ?_
    refine z_if_eq (tgt := 157) d_M_count_151 (by decide) (fun c51 => ?_) (fun c51 => ?_)
    · rw [if_pos c51] at hf
      refine z_iinc (ls2 := [(7, vi (y7 + (1 : Int32))), (0, vr (some y0)), (1, vi y1), (2, vi y2), (3, vi y3), (4, vi y4), (5, vi y5), (6, vi y6)]) 7 d_M_count_157 rfl rfl (by decide) rfl ?_
      refine z_goto (tgt := 136) d_M_count_160 (by decide) ?_
      refine z_ls [1, 2, 3, 4, 5, 6, 7, 0] rfl ?_
      exact kc (y5, (y7 + (1 : Int32)), h) (Option.some.inj hf).symm
    · rw [if_neg c51] at hf
      refine z_iinc (ls2 := [(5, vi (y5 + (1 : Int32))), (0, vr (some y0)), (1, vi y1), (2, vi y2), (3, vi y3), (4, vi y4), (6, vi y6), (7, vi y7)]) 5 d_M_count_154 rfl rfl (by decide) rfl ?_
      refine z_iinc (ls2 := [(7, vi (y7 + (1 : Int32))), (5, vi (y5 + (1 : Int32))), (0, vr (some y0)), (1, vi y1), (2, vi y2), (3, vi y3), (4, vi y4), (6, vi y6)]) 7 d_M_count_157 rfl rfl (by decide) rfl ?_
      refine z_goto (tgt := 136) d_M_count_160 (by decide) ?_
      refine z_ls [2, 3, 4, 5, 6, 1, 7, 0] rfl ?_
      exact kc ((y5 + (1 : Int32)), (y7 + (1 : Int32)), h) (Option.some.inj hf).symm
set_option maxRecDepth 100000 in
set_option maxHeartbeats 4000000 in
theorem kb_M_count_136 {C : Ct} {mi : Nat} {y0 : Nat} {y1 : Int32} {y2 : Int32} {y3 : Int32} {y4 : Int32} {y5 : Int32} {y6 : Int32} {y7 : Int32} {h : Hp} {q : ((Int32 × Int32 × Hp) ⊕ (Int32 × Hp))} (hf : b_M_count_136 y0 y1 y2 y3 y4 y5 y6 y7 h = some q) : Keep W_M_count h (Sum.elim (fun s : Int32 × Int32 × Hp => s.2.2) (fun x : Int32 × Hp => x.2) q) := by
  unfold b_M_count_136 at hf
  rcases Classical.em ((nI 160) ≤ y7) with c45 | c45
  · rw [if_pos c45] at hf
    cases (Option.some.inj hf)
    exact (Keep.refl W_M_count _)
  · rw [if_neg c45] at hf
    obtain ⟨g46, hf⟩ := gd_some hf
    obtain ⟨a47, e48, hf⟩ := dr_some hf
    obtain ⟨g49, hf⟩ := gd_some hf
    obtain ⟨g50, hf⟩ := gd_some hf
    rcases Classical.em ((hpI h a47 y7.toNatClampNeg) = 0) with c51 | c51
    · rw [if_pos c51] at hf
      cases (Option.some.inj hf)
      exact (Keep.refl W_M_count _)
    · rw [if_neg c51] at hf
      cases (Option.some.inj hf)
      exact (Keep.refl W_M_count _)
def l_M_count_136 (y0 : Nat) (y1 : Int32) (y2 : Int32) (y3 : Int32) (y4 : Int32) (y6 : Int32) (s : Int32 × Int32 × Hp) : Option (Int32 × Hp) := lp (fun s => b_M_count_136 y0 y1 y2 y3 y4 s.1 y6 s.2.1 s.2.2) FU s
theorem zzl_M_count_136 {l : Launch} {C : Ct} {mi : Nat} {y0 : Nat} {y1 : Int32} {y2 : Int32} {y3 : Int32} {y4 : Int32} {y6 : Int32} {h' : Hp} {v : Int32} : ∀ (n : Nat) (s : Int32 × Int32 × Hp) (x : (Int32 × Hp)), lp (fun s : Int32 × Int32 × Hp => b_M_count_136 y0 y1 y2 y3 y4 s.1 y6 s.2.1 s.2.2) n s = some x → Z l C mi m_M_count 3 163 [(0, vr (some y0)), (1, vi y1), (2, vi y2), (3, vi y3), (4, vi y4), (5, vi x.1), (6, vi y6)] [] x.2 (some (vi v)) h' → Z l C mi m_M_count 3 136 [(0, vr (some y0)), (1, vi y1), (2, vi y2), (3, vi y3), (4, vi y4), (5, vi s.1), (6, vi y6), (7, vi s.2.1)] [] s.2.2 (some (vi v)) h' := by
  intro n
  induction n with
  | zero => intro s x hl; cases hl
  | succ n ih =>
    intro s x hl ke
    rcases lp_some hl with ⟨s2, hb, hl2⟩ | hb
    · exact zb_M_count_136 hb (fun s3 e3 => by cases e3; refine z_ls [0, 1, 2, 3, 4, 5, 6, 7] rfl ?_; exact ih s2 x hl2 ke) (fun x e3 => by cases e3)
    · exact zb_M_count_136 hb (fun s3 e3 => by cases e3) (fun x e3 => by cases e3; exact ke)
theorem zl_M_count_136 {l : Launch} {C : Ct} {mi : Nat} {y0 : Nat} {y1 : Int32} {y2 : Int32} {y3 : Int32} {y4 : Int32} {y6 : Int32} {h' : Hp} {v : Int32} {s : Int32 × Int32 × Hp} {x : (Int32 × Hp)} (hl : l_M_count_136 y0 y1 y2 y3 y4 y6 s = some x) (ke : Z l C mi m_M_count 3 163 [(0, vr (some y0)), (1, vi y1), (2, vi y2), (3, vi y3), (4, vi y4), (5, vi x.1), (6, vi y6)] [] x.2 (some (vi v)) h') : Z l C mi m_M_count 3 136 [(0, vr (some y0)), (1, vi y1), (2, vi y2), (3, vi y3), (4, vi y4), (5, vi s.1), (6, vi y6), (7, vi s.2.1)] [] s.2.2 (some (vi v)) h' := zzl_M_count_136 FU s x hl ke
theorem kl_M_count_136 {C : Ct} {mi : Nat} {y0 : Nat} {y1 : Int32} {y2 : Int32} {y3 : Int32} {y4 : Int32} {y6 : Int32} {s : Int32 × Int32 × Hp} {q : (Int32 × Hp)} (hl : l_M_count_136 y0 y1 y2 y3 y4 y6 s = some q) : Keep W_M_count s.2.2 ((fun x : Int32 × Hp => x.2) q) := lpk (sh := (fun s : Int32 × Int32 × Hp => s.2.2)) (rh := (fun x : Int32 × Hp => x.2)) (fun s q hb => kb_M_count_136 (C := C) (mi := mi) hb) FU s q hl
def f_M_count (a0 : Nat) (p1 : Int32) (h : Hp) : Option (Int32 × Hp) :=
  bd (l_M_count_16 a0 p1 (0 : Int32) (0 : Int32) (0 : Int32) (0 : Int32) ((0 : Int32), (0 : Int32), h)) fun x8 => bd (l_M_count_45 a0 p1 x8.1 (0 : Int32) (0 : Int32) (0 : Int32) ((0 : Int32), (0 : Int32), x8.2)) fun x18 => bd (l_M_count_74 a0 p1 x8.1 x18.1 (0 : Int32) (0 : Int32) ((0 : Int32), (0 : Int32), x18.2)) fun x28 => bd (l_M_count_102 a0 p1 x8.1 x18.1 x28.1 (0 : Int32) ((0 : Int32), (0 : Int32), x28.2)) fun x38 => gd (isK x38.2 a0 8) (cv (f_M_markKept a0 x38.2) fun h42 => bd (l_M_count_136 a0 p1 x8.1 x18.1 x28.1 x38.1 ((0 : Int32), (0 : Int32), h42)) fun x52 => if p1 = (0 : Int32) then (gd (isK x52.2 a0 8) (some ((hpI x52.2 a0 31), x52.2))) else if p1 = (1 : Int32) then (gd (isK x52.2 a0 8) (some ((hpI x52.2 a0 30), x52.2))) else if p1 = (nI 2) then (gd (isK x52.2 a0 8) (some ((hpI x52.2 a0 26), x52.2))) else if p1 = (nI 3) then (gd (isK x52.2 a0 8) (some ((hpI x52.2 a0 25), x52.2))) else if p1 = (nI 4) then (some (x8.1, x52.2)) else if p1 = (nI 5) then (gd (isK x52.2 a0 8) (some ((hpI x52.2 a0 19), x52.2))) else if p1 = (nI 6) then (some (x18.1, x52.2)) else if p1 = (nI 7) then (some (x28.1, x52.2)) else if p1 = (nI 8) then (some (x52.1, x52.2)) else if p1 = (nI 9) then (some (x38.1, x52.2)) else (some ((-1 : Int32), x52.2)))
set_option maxRecDepth 100000 in
set_option maxHeartbeats 4000000 in
theorem zf_M_count {l : Launch} {C : Ct} {mi : Nat} {a0 : Nat} {p1 : Int32} {h h' : Hp} {v : Int32} (hf : f_M_count a0 p1 h = some (v, h')) : Z l C mi m_M_count 3 0 [(0, vr (some a0)), (1, vi p1)] [] h (some (vi v)) h' := by
  unfold f_M_count at hf
  refine z_iconst (v := (0 : Int32)) d_M_count_0 (by decide) ?_
  refine z_istore_n (ls2 := [(2, vi (0 : Int32)), (0, vr (some a0)), (1, vi p1)]) d_M_count_1 rfl (by decide) rfl ?_
  refine z_iconst (v := (0 : Int32)) d_M_count_2 (by decide) ?_
  refine z_istore_n (ls2 := [(3, vi (0 : Int32)), (2, vi (0 : Int32)), (0, vr (some a0)), (1, vi p1)]) d_M_count_3 rfl (by decide) rfl ?_
  refine z_iconst (v := (0 : Int32)) d_M_count_4 (by decide) ?_
  refine z_istore (ls2 := [(4, vi (0 : Int32)), (3, vi (0 : Int32)), (2, vi (0 : Int32)), (0, vr (some a0)), (1, vi p1)]) d_M_count_5 (by decide) rfl ?_
  refine z_iconst (v := (0 : Int32)) d_M_count_7 (by decide) ?_
  refine z_istore (ls2 := [(5, vi (0 : Int32)), (4, vi (0 : Int32)), (3, vi (0 : Int32)), (2, vi (0 : Int32)), (0, vr (some a0)), (1, vi p1)]) d_M_count_8 (by decide) rfl ?_
  refine z_iconst (v := (0 : Int32)) d_M_count_10 (by decide) ?_
  refine z_istore (ls2 := [(6, vi (0 : Int32)), (5, vi (0 : Int32)), (4, vi (0 : Int32)), (3, vi (0 : Int32)), (2, vi (0 : Int32)), (0, vr (some a0)), (1, vi p1)]) d_M_count_11 (by decide) rfl ?_
  refine z_iconst (v := (0 : Int32)) d_M_count_13 (by decide) ?_
  refine z_istore (ls2 := [(7, vi (0 : Int32)), (6, vi (0 : Int32)), (5, vi (0 : Int32)), (4, vi (0 : Int32)), (3, vi (0 : Int32)), (2, vi (0 : Int32)), (0, vr (some a0)), (1, vi p1)]) d_M_count_14 (by decide) rfl ?_
  obtain ⟨x8, el9, hf⟩ := bd_some hf
  refine z_ls [6, 7, 5, 4, 3, 2, 1, 0] rfl ?_
  refine zl_M_count_16 el9 ?_
  refine z_iconst (v := (0 : Int32)) d_M_count_42 (by decide) ?_
  refine z_istore (ls2 := [(7, vi (0 : Int32)), (0, vr (some a0)), (1, vi p1), (2, vi x8.1), (3, vi (0 : Int32)), (4, vi (0 : Int32)), (5, vi (0 : Int32)), (6, vi (0 : Int32))]) d_M_count_43 (by decide) rfl ?_
  obtain ⟨x18, el19, hf⟩ := bd_some hf
  refine z_ls [1, 2, 3, 4, 5, 6, 7, 0] rfl ?_
  refine zl_M_count_45 el19 ?_
  refine z_iconst (v := (0 : Int32)) d_M_count_71 (by decide) ?_
  refine z_istore (ls2 := [(7, vi (0 : Int32)), (0, vr (some a0)), (1, vi p1), (2, vi x8.1), (3, vi x18.1), (4, vi (0 : Int32)), (5, vi (0 : Int32)), (6, vi (0 : Int32))]) d_M_count_72 (by decide) rfl ?_
  obtain ⟨x28, el29, hf⟩ := bd_some hf
  refine z_ls [1, 2, 3, 4, 5, 6, 7, 0] rfl ?_
  refine zl_M_count_74 el29 ?_
  refine z_iconst (v := (0 : Int32)) d_M_count_99 (by decide) ?_
  refine z_istore (ls2 := [(7, vi (0 : Int32)), (0, vr (some a0)), (1, vi p1), (2, vi x8.1), (3, vi x18.1), (4, vi x28.1), (5, vi (0 : Int32)), (6, vi (0 : Int32))]) d_M_count_100 (by decide) rfl ?_
  obtain ⟨x38, el39, hf⟩ := bd_some hf
  refine z_ls [1, 2, 3, 4, 5, 6, 7, 0] rfl ?_
  refine zl_M_count_102 el39 ?_
  refine z_aload_n 0 d_M_count_129 rfl rfl ?_
  obtain ⟨g41, hf⟩ := gd_some hf
  obtain ⟨h42, ec43, hf⟩ := cv_some hf
  refine z_callVx rfl (c_M_markKept ec43) d_M_count_130 cw_M_markKept lk_M_187 im_M_markKept se_M_markKept (kc_K (isK_eq g41) kc_8) ⟨by decide, by decide⟩ (Nat.le_of_ble_eq_true rfl) rfl ?_
  refine z_iconst (v := (0 : Int32)) d_M_count_133 (by decide) ?_
  refine z_istore (ls2 := [(7, vi (0 : Int32)), (0, vr (some a0)), (1, vi p1), (2, vi x8.1), (3, vi x18.1), (4, vi x28.1), (5, vi (0 : Int32)), (6, vi x38.1)]) d_M_count_134 (by decide) rfl ?_
  obtain ⟨x52, el53, hf⟩ := bd_some hf
  refine z_ls [1, 2, 3, 4, 5, 6, 7, 0] rfl ?_
  refine zl_M_count_136 el53 ?_
  refine z_iload_n 1 d_M_count_163 rfl rfl ?_
  by_cases c55 : p1 = (0 : Int32)
  · rw [if_pos c55] at hf
    refine z_tabIn (off := 56) (tgt := 220) d_M_count_164 (by rw [c55]; decide) (by rw [c55]; decide) (by rw [c55]; rfl) (by decide) ?_
    refine z_aload_n 0 d_M_count_220 rfl rfl ?_
    obtain ⟨g56, hf⟩ := gd_some hf
    refine z_getI d_M_count_221 (fl_K (isK_eq g56) fl_M_119_8) (fi_K (isK_eq g56) rfl) rfl ?_
    obtain ⟨rfl, rfl⟩ := Prod.mk.inj (Option.some.inj hf)
    exact z_ret d_M_count_224 rfl
  rw [if_neg c55] at hf
  by_cases c57 : p1 = (1 : Int32)
  · rw [if_pos c57] at hf
    refine z_tabIn (off := 61) (tgt := 225) d_M_count_164 (by rw [c57]; decide) (by rw [c57]; decide) (by rw [c57]; rfl) (by decide) ?_
    refine z_aload_n 0 d_M_count_225 rfl rfl ?_
    obtain ⟨g58, hf⟩ := gd_some hf
    refine z_getI d_M_count_226 (fl_K (isK_eq g58) fl_M_96_8) (fi_K (isK_eq g58) rfl) rfl ?_
    obtain ⟨rfl, rfl⟩ := Prod.mk.inj (Option.some.inj hf)
    exact z_ret d_M_count_229 rfl
  rw [if_neg c57] at hf
  by_cases c59 : p1 = (nI 2)
  · rw [if_pos c59] at hf
    refine z_tabIn (off := 66) (tgt := 230) d_M_count_164 (by rw [c59]; decide) (by rw [c59]; decide) (by rw [c59]; rfl) (by decide) ?_
    refine z_aload_n 0 d_M_count_230 rfl rfl ?_
    obtain ⟨g60, hf⟩ := gd_some hf
    refine z_getI d_M_count_231 (fl_K (isK_eq g60) fl_M_83_8) (fi_K (isK_eq g60) rfl) rfl ?_
    obtain ⟨rfl, rfl⟩ := Prod.mk.inj (Option.some.inj hf)
    exact z_ret d_M_count_234 rfl
  rw [if_neg c59] at hf
  by_cases c61 : p1 = (nI 3)
  · rw [if_pos c61] at hf
    refine z_tabIn (off := 71) (tgt := 235) d_M_count_164 (by rw [c61]; decide) (by rw [c61]; decide) (by rw [c61]; rfl) (by decide) ?_
    refine z_aload_n 0 d_M_count_235 rfl rfl ?_
    obtain ⟨g62, hf⟩ := gd_some hf
    refine z_getI d_M_count_236 (fl_K (isK_eq g62) fl_M_153_8) (fi_K (isK_eq g62) rfl) rfl ?_
    obtain ⟨rfl, rfl⟩ := Prod.mk.inj (Option.some.inj hf)
    exact z_ret d_M_count_239 rfl
  rw [if_neg c61] at hf
  by_cases c63 : p1 = (nI 4)
  · rw [if_pos c63] at hf
    refine z_tabIn (off := 76) (tgt := 240) d_M_count_164 (by rw [c63]; decide) (by rw [c63]; decide) (by rw [c63]; rfl) (by decide) ?_
    refine z_iload_n 2 d_M_count_240 rfl rfl ?_
    obtain ⟨rfl, rfl⟩ := Prod.mk.inj (Option.some.inj hf)
    exact z_ret d_M_count_241 rfl
  rw [if_neg c63] at hf
  by_cases c64 : p1 = (nI 5)
  · rw [if_pos c64] at hf
    refine z_tabIn (off := 78) (tgt := 242) d_M_count_164 (by rw [c64]; decide) (by rw [c64]; decide) (by rw [c64]; rfl) (by decide) ?_
    refine z_aload_n 0 d_M_count_242 rfl rfl ?_
    obtain ⟨g65, hf⟩ := gd_some hf
    refine z_getI d_M_count_243 (fl_K (isK_eq g65) fl_M_156_8) (fi_K (isK_eq g65) rfl) rfl ?_
    obtain ⟨rfl, rfl⟩ := Prod.mk.inj (Option.some.inj hf)
    exact z_ret d_M_count_246 rfl
  rw [if_neg c64] at hf
  by_cases c66 : p1 = (nI 6)
  · rw [if_pos c66] at hf
    refine z_tabIn (off := 83) (tgt := 247) d_M_count_164 (by rw [c66]; decide) (by rw [c66]; decide) (by rw [c66]; rfl) (by decide) ?_
    refine z_iload_n 3 d_M_count_247 rfl rfl ?_
    obtain ⟨rfl, rfl⟩ := Prod.mk.inj (Option.some.inj hf)
    exact z_ret d_M_count_248 rfl
  rw [if_neg c66] at hf
  by_cases c67 : p1 = (nI 7)
  · rw [if_pos c67] at hf
    refine z_tabIn (off := 85) (tgt := 249) d_M_count_164 (by rw [c67]; decide) (by rw [c67]; decide) (by rw [c67]; rfl) (by decide) ?_
    refine z_iload 4 d_M_count_249 rfl ?_
    obtain ⟨rfl, rfl⟩ := Prod.mk.inj (Option.some.inj hf)
    exact z_ret d_M_count_251 rfl
  rw [if_neg c67] at hf
  by_cases c68 : p1 = (nI 8)
  · rw [if_pos c68] at hf
    refine z_tabIn (off := 88) (tgt := 252) d_M_count_164 (by rw [c68]; decide) (by rw [c68]; decide) (by rw [c68]; rfl) (by decide) ?_
    refine z_iload 5 d_M_count_252 rfl ?_
    obtain ⟨rfl, rfl⟩ := Prod.mk.inj (Option.some.inj hf)
    exact z_ret d_M_count_254 rfl
  rw [if_neg c68] at hf
  by_cases c69 : p1 = (nI 9)
  · rw [if_pos c69] at hf
    refine z_tabIn (off := 91) (tgt := 255) d_M_count_164 (by rw [c69]; decide) (by rw [c69]; decide) (by rw [c69]; rfl) (by decide) ?_
    refine z_iload 6 d_M_count_255 rfl ?_
    obtain ⟨rfl, rfl⟩ := Prod.mk.inj (Option.some.inj hf)
    exact z_ret d_M_count_257 rfl
  rw [if_neg c69] at hf
  refine z_tabOut (tgt := 258) d_M_count_164 (ts_out 10 (by decide) (fun j hj => ?_)) (by decide) ?_
  · have hj2 : j = 0 ∨ j = 1 ∨ j = 2 ∨ j = 3 ∨ j = 4 ∨ j = 5 ∨ j = 6 ∨ j = 7 ∨ j = 8 ∨ j = 9 := by omega
    rcases hj2 with e | e | e | e | e | e | e | e | e | e
    · subst e; exact c55
    · subst e; exact c57
    · subst e; exact c59
    · subst e; exact c61
    · subst e; exact c63
    · subst e; exact c64
    · subst e; exact c66
    · subst e; exact c67
    · subst e; exact c68
    · subst e; exact c69
  refine z_iconst (v := (-1 : Int32)) d_M_count_258 (by decide) ?_
  obtain ⟨rfl, rfl⟩ := Prod.mk.inj (Option.some.inj hf)
  exact z_ret d_M_count_259 rfl
set_option maxRecDepth 100000 in
set_option maxHeartbeats 4000000 in
theorem fr_M_count {C : Ct} {mi : Nat} {a0 : Nat} {p1 : Int32} {h h' : Hp} {v : Int32} (hf : f_M_count a0 p1 h = some (v, h')) : Keep W_M_count h h' := by
  unfold f_M_count at hf
  obtain ⟨x8, el9, hf⟩ := bd_some hf
  have K10 := (Keep.refl W_M_count _).trans (kl_M_count_16 (C := C) (mi := mi) el9)
  obtain ⟨x18, el19, hf⟩ := bd_some hf
  have K20 := K10.trans (kl_M_count_45 (C := C) (mi := mi) el19)
  obtain ⟨x28, el29, hf⟩ := bd_some hf
  have K30 := K20.trans (kl_M_count_74 (C := C) (mi := mi) el29)
  obtain ⟨x38, el39, hf⟩ := bd_some hf
  have K40 := K30.trans (kl_M_count_102 (C := C) (mi := mi) el39)
  obtain ⟨g41, hf⟩ := gd_some hf
  obtain ⟨h42, ec43, hf⟩ := cv_some hf
  have K44 := K40.trans ((fr_M_markKept (C := C) (mi := mi) ec43).mono (by decide) (by decide))
  obtain ⟨x52, el53, hf⟩ := bd_some hf
  have K54 := K44.trans (kl_M_count_136 (C := C) (mi := mi) el53)
  by_cases c55 : p1 = (0 : Int32)
  · rw [if_pos c55] at hf
    obtain ⟨g56, hf⟩ := gd_some hf
    obtain ⟨rfl, rfl⟩ := Prod.mk.inj (Option.some.inj hf)
    exact K54
  rw [if_neg c55] at hf
  by_cases c57 : p1 = (1 : Int32)
  · rw [if_pos c57] at hf
    obtain ⟨g58, hf⟩ := gd_some hf
    obtain ⟨rfl, rfl⟩ := Prod.mk.inj (Option.some.inj hf)
    exact K54
  rw [if_neg c57] at hf
  by_cases c59 : p1 = (nI 2)
  · rw [if_pos c59] at hf
    obtain ⟨g60, hf⟩ := gd_some hf
    obtain ⟨rfl, rfl⟩ := Prod.mk.inj (Option.some.inj hf)
    exact K54
  rw [if_neg c59] at hf
  by_cases c61 : p1 = (nI 3)
  · rw [if_pos c61] at hf
    obtain ⟨g62, hf⟩ := gd_some hf
    obtain ⟨rfl, rfl⟩ := Prod.mk.inj (Option.some.inj hf)
    exact K54
  rw [if_neg c61] at hf
  by_cases c63 : p1 = (nI 4)
  · rw [if_pos c63] at hf
    obtain ⟨rfl, rfl⟩ := Prod.mk.inj (Option.some.inj hf)
    exact K54
  rw [if_neg c63] at hf
  by_cases c64 : p1 = (nI 5)
  · rw [if_pos c64] at hf
    obtain ⟨g65, hf⟩ := gd_some hf
    obtain ⟨rfl, rfl⟩ := Prod.mk.inj (Option.some.inj hf)
    exact K54
  rw [if_neg c64] at hf
  by_cases c66 : p1 = (nI 6)
  · rw [if_pos c66] at hf
    obtain ⟨rfl, rfl⟩ := Prod.mk.inj (Option.some.inj hf)
    exact K54
  rw [if_neg c66] at hf
  by_cases c67 : p1 = (nI 7)
  · rw [if_pos c67] at hf
    obtain ⟨rfl, rfl⟩ := Prod.mk.inj (Option.some.inj hf)
    exact K54
  rw [if_neg c67] at hf
  by_cases c68 : p1 = (nI 8)
  · rw [if_pos c68] at hf
    obtain ⟨rfl, rfl⟩ := Prod.mk.inj (Option.some.inj hf)
    exact K54
  rw [if_neg c68] at hf
  by_cases c69 : p1 = (nI 9)
  · rw [if_pos c69] at hf
    obtain ⟨rfl, rfl⟩ := Prod.mk.inj (Option.some.inj hf)
    exact K54
  rw [if_neg c69] at hf
  obtain ⟨rfl, rfl⟩ := Prod.mk.inj (Option.some.inj hf)
  exact K54
theorem c_M_count {l : Launch} {C : Ct} {mi : Nat} {a0 : Nat} {p1 : Int32} {h h' : Hp} {v : Int32} (hf : f_M_count a0 p1 h = some (v, h')) : Mt l C mi m_M_count 3 [vr (some a0), vi p1] h (some (vi v)) h' := mt_I (ty := .int) rfl rfl rfl (by decide) (Nat.le_of_ble_eq_true rfl) (zf_M_count hf)

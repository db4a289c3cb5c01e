/-! CONSTRUCTORS: the reference, the pairing, the history -/
theorem k_sr_eq {S : z_Shp} {a i : Nat} {b : Option Nat} : z_r (z_sr S a i b) a i = b := by
  show (if a = a ∧ i = i then b else z_r S a i) = b
  rw [if_pos ⟨rfl, rfl⟩]
theorem k_sr_ne {S : z_Shp} {a i a' i' : Nat} {b : Option Nat} (h : ¬ (a' = a ∧ i' = i)) : z_r (z_sr S a i b) a' i' = z_r S a' i' := by
  show (if a' = a ∧ i' = i then b else z_r S a' i') = _
  rw [if_neg h]
theorem k_T.cast {n0 n cc ss cc1 ss1 : Nat} {S0 S : z_Shp} {v0 v : z_Dat} (h : k_T n0 S0 v0 n S v cc ss) (h1 : cc = cc1) (h2 : ss = ss1) : k_T n0 S0 v0 n S v cc1 ss1 := by
  subst h1
  subst h2
  exact h
section KM
variable {G : z_G} {d : Nat} {M : z_M} {pc : Nat} {ls st : List Value} {S S0 : z_Shp} {v v0 : z_Dat} {Q : Option Value → z_Shp → z_Dat → Prop} {n0 n cc ss : Nat}
theorem k_X11_0 (h0 : k_T 223 S0 v0 224 S v cc ss) (h : ∀ S1 v1, k_T 223 S0 v0 234 S1 v1 (cc + 10) (ss + 1216) → z_J G (d + 1) mX11_init (86, [.ref 223], [], S1, v1) Q) : z_J G (d + 1) mX11_init (0, [.ref 223], [], S, v) Q := by
  refine zj_aload_n dX11_init_0 rfl rfl ?_
  refine zj_objI dX11_init_1 wl_X11_7 (Nat.le_of_ble_eq_true rfl) ?_
  refine zj_aload_n dX11_init_4 rfl rfl ?_
  refine zj_bipush (x := 71) dX11_init_5 rfl ?_
  refine k_fldI (ci := 11) (j := 1) (a := 223) (len := 71) h0 dX11_init_7 dX11_init_9 wf_X11_13 (by decide) (by decide) rfl rfl rfl rfl (fun _ => rfl) (fun _ => rfl) rfl (by decide) (by decide) rfl rfl (by decide) (by decide) rfl rfl ⟨h0.1.ok (by decide) rfl, trivial⟩ ⟨h0.1.ok (by decide) rfl, trivial⟩ (fun S1 v1 h1 => ?_)
  refine zj_aload_n dX11_init_12 rfl rfl ?_
  refine zj_sipush (x := 142) dX11_init_13 rfl ?_
  refine k_fldI (ci := 11) (j := 2) (a := 223) (len := 142) h1 dX11_init_16 dX11_init_18 wf_X11_17 (by decide) (by decide) rfl rfl rfl rfl (fun _ => rfl) (fun _ => rfl) rfl (by decide) (by decide) rfl rfl (by decide) (by decide) rfl rfl ⟨h1.1.ok (by decide) rfl, trivial⟩ ⟨h1.1.ok (by decide) rfl, trivial⟩ (fun S2 v2 h2 => ?_)
  refine zj_aload_n dX11_init_21 rfl rfl ?_
  refine zj_sipush (x := 568) dX11_init_22 rfl ?_
  refine k_fldI (ci := 11) (j := 3) (a := 223) (len := 568) h2 dX11_init_25 dX11_init_27 wf_X11_20 (by decide) (by decide) rfl rfl rfl rfl (fun _ => rfl) (fun _ => rfl) rfl (by decide) (by decide) rfl rfl (by decide) (by decide) rfl rfl ⟨h2.1.ok (by decide) rfl, trivial⟩ ⟨h2.1.ok (by decide) rfl, trivial⟩ (fun S3 v3 h3 => ?_)
  refine zj_aload_n dX11_init_30 rfl rfl ?_
  refine zj_bipush (x := 71) dX11_init_31 rfl ?_
  refine k_fldI (ci := 11) (j := 4) (a := 223) (len := 71) h3 dX11_init_33 dX11_init_35 wf_X11_23 (by decide) (by decide) rfl rfl rfl rfl (fun _ => rfl) (fun _ => rfl) rfl (by decide) (by decide) rfl rfl (by decide) (by decide) rfl rfl ⟨h3.1.ok (by decide) rfl, trivial⟩ ⟨h3.1.ok (by decide) rfl, trivial⟩ (fun S4 v4 h4 => ?_)
  refine zj_aload_n dX11_init_38 rfl rfl ?_
  refine zj_iconst (x := 2) dX11_init_39 rfl ?_
  refine k_fldZ (ci := 11) (j := 5) (a := 223) (len := 2) h4 dX11_init_40 dX11_init_42 wf_X11_26 (by decide) (by decide) rfl rfl rfl rfl (fun _ => rfl) (fun _ => rfl) rfl (by decide) (by decide) rfl rfl (by decide) (by decide) rfl rfl ⟨h4.1.ok (by decide) rfl, trivial⟩ ⟨h4.1.ok (by decide) rfl, trivial⟩ (fun S5 v5 h5 => ?_)
  refine zj_aload_n dX11_init_45 rfl rfl ?_
  refine zj_sipush (x := 240) dX11_init_46 rfl ?_
  refine k_fldB (ci := 11) (j := 7) (a := 223) (len := 240) h5 dX11_init_49 dX11_init_51 wf_X11_30 (by decide) (by decide) rfl rfl rfl rfl (fun _ => rfl) (fun _ => rfl) rfl (by decide) (by decide) rfl rfl (by decide) (by decide) rfl rfl ⟨h5.1.ok (by decide) rfl, trivial⟩ ⟨h5.1.ok (by decide) rfl, trivial⟩ (fun S6 v6 h6 => ?_)
  refine zj_aload_n dX11_init_54 rfl rfl ?_
  refine zj_bipush (x := 24) dX11_init_55 rfl ?_
  refine k_fldI (ci := 11) (j := 10) (a := 223) (len := 24) h6 dX11_init_57 dX11_init_59 wf_X11_34 (by decide) (by decide) rfl rfl rfl rfl (fun _ => rfl) (fun _ => rfl) rfl (by decide) (by decide) rfl rfl (by decide) (by decide) rfl rfl ⟨h6.1.ok (by decide) rfl, trivial⟩ ⟨h6.1.ok (by decide) rfl, trivial⟩ (fun S7 v7 h7 => ?_)
  refine zj_aload_n dX11_init_62 rfl rfl ?_
  refine zj_bipush (x := 24) dX11_init_63 rfl ?_
  refine k_fldI (ci := 11) (j := 11) (a := 223) (len := 24) h7 dX11_init_65 dX11_init_67 wf_X11_37 (by decide) (by decide) rfl rfl rfl rfl (fun _ => rfl) (fun _ => rfl) rfl (by decide) (by decide) rfl rfl (by decide) (by decide) rfl rfl ⟨h7.1.ok (by decide) rfl, trivial⟩ ⟨h7.1.ok (by decide) rfl, trivial⟩ (fun S8 v8 h8 => ?_)
  refine zj_aload_n dX11_init_70 rfl rfl ?_
  refine zj_bipush (x := 24) dX11_init_71 rfl ?_
  refine k_fldI (ci := 11) (j := 12) (a := 223) (len := 24) h8 dX11_init_73 dX11_init_75 wf_X11_40 (by decide) (by decide) rfl rfl rfl rfl (fun _ => rfl) (fun _ => rfl) rfl (by decide) (by decide) rfl rfl (by decide) (by decide) rfl rfl ⟨h8.1.ok (by decide) rfl, trivial⟩ ⟨h8.1.ok (by decide) rfl, trivial⟩ (fun S9 v9 h9 => ?_)
  refine zj_aload_n dX11_init_78 rfl rfl ?_
  refine zj_bipush (x := 50) dX11_init_79 rfl ?_
  refine k_fldI (ci := 11) (j := 13) (a := 223) (len := 50) h9 dX11_init_81 dX11_init_83 wf_X11_43 (by decide) (by decide) rfl rfl rfl rfl (fun _ => rfl) (fun _ => rfl) rfl (by decide) (by decide) rfl rfl (by decide) (by decide) rfl rfl ⟨h9.1.ok (by decide) rfl, trivial⟩ ⟨h9.1.ok (by decide) rfl, trivial⟩ (fun S10 v10 h10 => ?_)
  exact h _ _ (h10.cast (by omega) (by omega))
theorem k_X11_1 (h0 : k_T 223 S0 v0 234 S v cc ss) (h : ∀ S1 v1, k_T 223 S0 v0 244 S1 v1 (cc + 10) (ss + 1635) → z_J G (d + 1) mX11_init (168, [.ref 223], [], S1, v1) Q) : z_J G (d + 1) mX11_init (86, [.ref 223], [], S, v) Q := by
  refine zj_aload_n dX11_init_86 rfl rfl ?_
  refine zj_sipush (x := 128) dX11_init_87 rfl ?_
  refine k_fldI (ci := 11) (j := 15) (a := 223) (len := 128) h0 dX11_init_90 dX11_init_92 wf_X11_46 (by decide) (by decide) rfl rfl rfl rfl (fun _ => rfl) (fun _ => rfl) rfl (by decide) (by decide) rfl rfl (by decide) (by decide) rfl rfl ⟨h0.1.ok (by decide) rfl, trivial⟩ ⟨h0.1.ok (by decide) rfl, trivial⟩ (fun S1 v1 h1 => ?_)
  refine zj_aload_n dX11_init_95 rfl rfl ?_
  refine zj_iconst (x := 2) dX11_init_96 rfl ?_
  refine k_fldI (ci := 11) (j := 16) (a := 223) (len := 2) h1 dX11_init_97 dX11_init_99 wf_X11_49 (by decide) (by decide) rfl rfl rfl rfl (fun _ => rfl) (fun _ => rfl) rfl (by decide) (by decide) rfl rfl (by decide) (by decide) rfl rfl ⟨h1.1.ok (by decide) rfl, trivial⟩ ⟨h1.1.ok (by decide) rfl, trivial⟩ (fun S2 v2 h2 => ?_)
  refine zj_aload_n dX11_init_102 rfl rfl ?_
  refine zj_iconst (x := 2) dX11_init_103 rfl ?_
  refine k_fldI (ci := 11) (j := 24) (a := 223) (len := 2) h2 dX11_init_104 dX11_init_106 wf_X11_52 (by decide) (by decide) rfl rfl rfl rfl (fun _ => rfl) (fun _ => rfl) rfl (by decide) (by decide) rfl rfl (by decide) (by decide) rfl rfl ⟨h2.1.ok (by decide) rfl, trivial⟩ ⟨h2.1.ok (by decide) rfl, trivial⟩ (fun S3 v3 h3 => ?_)
  refine zj_aload_n dX11_init_109 rfl rfl ?_
  refine zj_iconst (x := 2) dX11_init_110 rfl ?_
  refine k_fldI (ci := 11) (j := 25) (a := 223) (len := 2) h3 dX11_init_111 dX11_init_113 wf_X11_55 (by decide) (by decide) rfl rfl rfl rfl (fun _ => rfl) (fun _ => rfl) rfl (by decide) (by decide) rfl rfl (by decide) (by decide) rfl rfl ⟨h3.1.ok (by decide) rfl, trivial⟩ ⟨h3.1.ok (by decide) rfl, trivial⟩ (fun S4 v4 h4 => ?_)
  refine zj_aload_n dX11_init_116 rfl rfl ?_
  refine zj_sipush (x := 321) dX11_init_117 rfl ?_
  refine k_fldI (ci := 11) (j := 26) (a := 223) (len := 321) h4 dX11_init_120 dX11_init_122 wf_X11_58 (by decide) (by decide) rfl rfl rfl rfl (fun _ => rfl) (fun _ => rfl) rfl (by decide) (by decide) rfl rfl (by decide) (by decide) rfl rfl ⟨h4.1.ok (by decide) rfl, trivial⟩ ⟨h4.1.ok (by decide) rfl, trivial⟩ (fun S5 v5 h5 => ?_)
  refine zj_aload_n dX11_init_125 rfl rfl ?_
  refine zj_sipush (x := 321) dX11_init_126 rfl ?_
  refine k_fldI (ci := 11) (j := 27) (a := 223) (len := 321) h5 dX11_init_129 dX11_init_131 wf_X11_61 (by decide) (by decide) rfl rfl rfl rfl (fun _ => rfl) (fun _ => rfl) rfl (by decide) (by decide) rfl rfl (by decide) (by decide) rfl rfl ⟨h5.1.ok (by decide) rfl, trivial⟩ ⟨h5.1.ok (by decide) rfl, trivial⟩ (fun S6 v6 h6 => ?_)
  refine zj_aload_n dX11_init_134 rfl rfl ?_
  refine zj_sipush (x := 321) dX11_init_135 rfl ?_
  refine k_fldI (ci := 11) (j := 28) (a := 223) (len := 321) h6 dX11_init_138 dX11_init_140 wf_X11_64 (by decide) (by decide) rfl rfl rfl rfl (fun _ => rfl) (fun _ => rfl) rfl (by decide) (by decide) rfl rfl (by decide) (by decide) rfl rfl ⟨h6.1.ok (by decide) rfl, trivial⟩ ⟨h6.1.ok (by decide) rfl, trivial⟩ (fun S7 v7 h7 => ?_)
  refine zj_aload_n dX11_init_143 rfl rfl ?_
  refine zj_bipush (x := 109) dX11_init_144 rfl ?_
  refine k_fldI (ci := 11) (j := 29) (a := 223) (len := 109) h7 dX11_init_146 dX11_init_148 wf_X11_67 (by decide) (by decide) rfl rfl rfl rfl (fun _ => rfl) (fun _ => rfl) rfl (by decide) (by decide) rfl rfl (by decide) (by decide) rfl rfl ⟨h7.1.ok (by decide) rfl, trivial⟩ ⟨h7.1.ok (by decide) rfl, trivial⟩ (fun S8 v8 h8 => ?_)
  refine zj_aload_n dX11_init_151 rfl rfl ?_
  refine zj_bipush (x := 108) dX11_init_152 rfl ?_
  refine k_fldI (ci := 11) (j := 30) (a := 223) (len := 108) h8 dX11_init_154 dX11_init_156 wf_X11_70 (by decide) (by decide) rfl rfl rfl rfl (fun _ => rfl) (fun _ => rfl) rfl (by decide) (by decide) rfl rfl (by decide) (by decide) rfl rfl ⟨h8.1.ok (by decide) rfl, trivial⟩ ⟨h8.1.ok (by decide) rfl, trivial⟩ (fun S9 v9 h9 => ?_)
  refine zj_aload_n dX11_init_159 rfl rfl ?_
  refine zj_sipush (x := 321) dX11_init_160 rfl ?_
  refine k_fldI (ci := 11) (j := 35) (a := 223) (len := 321) h9 dX11_init_163 dX11_init_165 wf_X11_73 (by decide) (by decide) rfl rfl rfl rfl (fun _ => rfl) (fun _ => rfl) rfl (by decide) (by decide) rfl rfl (by decide) (by decide) rfl rfl ⟨h9.1.ok (by decide) rfl, trivial⟩ ⟨h9.1.ok (by decide) rfl, trivial⟩ (fun S10 v10 h10 => ?_)
  exact h _ _ (h10.cast (by omega) (by omega))
theorem k_X11_2 (h0 : k_T 223 S0 v0 244 S v cc ss) (h : ∀ S1 v1, k_T 223 S0 v0 254 S1 v1 (cc + 10) (ss + 33778) → z_J G (d + 1) mX11_init (252, [.ref 223], [], S1, v1) Q) : z_J G (d + 1) mX11_init (168, [.ref 223], [], S, v) Q := by
  refine zj_aload_n dX11_init_168 rfl rfl ?_
  refine zj_sipush (x := 16384) dX11_init_169 rfl ?_
  refine k_fldI (ci := 11) (j := 37) (a := 223) (len := 16384) h0 dX11_init_172 dX11_init_174 wf_X11_76 (by decide) (by decide) rfl rfl rfl rfl (fun _ => rfl) (fun _ => rfl) rfl (by decide) (by decide) rfl rfl (by decide) (by decide) rfl rfl ⟨h0.1.ok (by decide) rfl, trivial⟩ ⟨h0.1.ok (by decide) rfl, trivial⟩ (fun S1 v1 h1 => ?_)
  refine zj_aload_n dX11_init_177 rfl rfl ?_
  refine zj_sipush (x := 16384) dX11_init_178 rfl ?_
  refine k_fldI (ci := 11) (j := 38) (a := 223) (len := 16384) h1 dX11_init_181 dX11_init_183 wf_X11_79 (by decide) (by decide) rfl rfl rfl rfl (fun _ => rfl) (fun _ => rfl) rfl (by decide) (by decide) rfl rfl (by decide) (by decide) rfl rfl ⟨h1.1.ok (by decide) rfl, trivial⟩ ⟨h1.1.ok (by decide) rfl, trivial⟩ (fun S2 v2 h2 => ?_)
  refine zj_aload_n dX11_init_186 rfl rfl ?_
  refine zj_sipush (x := 225) dX11_init_187 rfl ?_
  refine k_fldI (ci := 11) (j := 39) (a := 223) (len := 225) h2 dX11_init_190 dX11_init_192 wf_X11_82 (by decide) (by decide) rfl rfl rfl rfl (fun _ => rfl) (fun _ => rfl) rfl (by decide) (by decide) rfl rfl (by decide) (by decide) rfl rfl ⟨h2.1.ok (by decide) rfl, trivial⟩ ⟨h2.1.ok (by decide) rfl, trivial⟩ (fun S3 v3 h3 => ?_)
  refine zj_aload_n dX11_init_195 rfl rfl ?_
  refine zj_bipush (x := 14) dX11_init_196 rfl ?_
  refine k_fldI (ci := 11) (j := 40) (a := 223) (len := 14) h3 dX11_init_198 dX11_init_200 wf_X11_85 (by decide) (by decide) rfl rfl rfl rfl (fun _ => rfl) (fun _ => rfl) rfl (by decide) (by decide) rfl rfl (by decide) (by decide) rfl rfl ⟨h3.1.ok (by decide) rfl, trivial⟩ ⟨h3.1.ok (by decide) rfl, trivial⟩ (fun S4 v4 h4 => ?_)
  refine zj_aload_n dX11_init_203 rfl rfl ?_
  refine zj_bipush (x := 14) dX11_init_204 rfl ?_
  refine k_fldI (ci := 11) (j := 41) (a := 223) (len := 14) h4 dX11_init_206 dX11_init_208 wf_X11_88 (by decide) (by decide) rfl rfl rfl rfl (fun _ => rfl) (fun _ => rfl) rfl (by decide) (by decide) rfl rfl (by decide) (by decide) rfl rfl ⟨h4.1.ok (by decide) rfl, trivial⟩ ⟨h4.1.ok (by decide) rfl, trivial⟩ (fun S5 v5 h5 => ?_)
  refine zj_aload_n dX11_init_211 rfl rfl ?_
  refine zj_sipush (x := 321) dX11_init_212 rfl ?_
  refine k_fldI (ci := 11) (j := 43) (a := 223) (len := 321) h5 dX11_init_215 dX11_init_217 wf_X11_91 (by decide) (by decide) rfl rfl rfl rfl (fun _ => rfl) (fun _ => rfl) rfl (by decide) (by decide) rfl rfl (by decide) (by decide) rfl rfl ⟨h5.1.ok (by decide) rfl, trivial⟩ ⟨h5.1.ok (by decide) rfl, trivial⟩ (fun S6 v6 h6 => ?_)
  refine zj_aload_n dX11_init_220 rfl rfl ?_
  refine zj_bipush (x := 109) dX11_init_221 rfl ?_
  refine k_fldI (ci := 11) (j := 44) (a := 223) (len := 109) h6 dX11_init_223 dX11_init_225 wf_X11_94 (by decide) (by decide) rfl rfl rfl rfl (fun _ => rfl) (fun _ => rfl) rfl (by decide) (by decide) rfl rfl (by decide) (by decide) rfl rfl ⟨h6.1.ok (by decide) rfl, trivial⟩ ⟨h6.1.ok (by decide) rfl, trivial⟩ (fun S7 v7 h7 => ?_)
  refine zj_aload_n dX11_init_228 rfl rfl ?_
  refine zj_bipush (x := 109) dX11_init_229 rfl ?_
  refine k_fldI (ci := 11) (j := 45) (a := 223) (len := 109) h7 dX11_init_231 dX11_init_233 wf_X11_97 (by decide) (by decide) rfl rfl rfl rfl (fun _ => rfl) (fun _ => rfl) rfl (by decide) (by decide) rfl rfl (by decide) (by decide) rfl rfl ⟨h7.1.ok (by decide) rfl, trivial⟩ ⟨h7.1.ok (by decide) rfl, trivial⟩ (fun S8 v8 h8 => ?_)
  refine zj_aload_n dX11_init_236 rfl rfl ?_
  refine zj_bipush (x := 109) dX11_init_237 rfl ?_
  refine k_fldI (ci := 11) (j := 46) (a := 223) (len := 109) h8 dX11_init_239 dX11_init_241 wf_X11_100 (by decide) (by decide) rfl rfl rfl rfl (fun _ => rfl) (fun _ => rfl) rfl (by decide) (by decide) rfl rfl (by decide) (by decide) rfl rfl ⟨h8.1.ok (by decide) rfl, trivial⟩ ⟨h8.1.ok (by decide) rfl, trivial⟩ (fun S9 v9 h9 => ?_)
  refine zj_aload_n dX11_init_244 rfl rfl ?_
  refine zj_bipush (x := 109) dX11_init_245 rfl ?_
  refine k_fldI (ci := 11) (j := 47) (a := 223) (len := 109) h9 dX11_init_247 dX11_init_249 wf_X11_103 (by decide) (by decide) rfl rfl rfl rfl (fun _ => rfl) (fun _ => rfl) rfl (by decide) (by decide) rfl rfl (by decide) (by decide) rfl rfl ⟨h9.1.ok (by decide) rfl, trivial⟩ ⟨h9.1.ok (by decide) rfl, trivial⟩ (fun S10 v10 h10 => ?_)
  exact h _ _ (h10.cast (by omega) (by omega))
theorem k_X11_3 (h0 : k_T 223 S0 v0 254 S v cc ss) (h : ∀ S1 v1, k_T 223 S0 v0 261 S1 v1 (cc + 7) (ss + 927) → z_J G (d + 1) mX11_init (309, [.ref 223], [], S1, v1) Q) : z_J G (d + 1) mX11_init (252, [.ref 223], [], S, v) Q := by
  refine zj_aload_n dX11_init_252 rfl rfl ?_
  refine zj_sipush (x := 321) dX11_init_253 rfl ?_
  refine k_fldZ (ci := 11) (j := 48) (a := 223) (len := 321) h0 dX11_init_256 dX11_init_258 wf_X11_106 (by decide) (by decide) rfl rfl rfl rfl (fun _ => rfl) (fun _ => rfl) rfl (by decide) (by decide) rfl rfl (by decide) (by decide) rfl rfl ⟨h0.1.ok (by decide) rfl, trivial⟩ ⟨h0.1.ok (by decide) rfl, trivial⟩ (fun S1 v1 h1 => ?_)
  refine zj_aload_n dX11_init_261 rfl rfl ?_
  refine zj_bipush (x := 109) dX11_init_262 rfl ?_
  refine k_fldZ (ci := 11) (j := 49) (a := 223) (len := 109) h1 dX11_init_264 dX11_init_266 wf_X11_109 (by decide) (by decide) rfl rfl rfl rfl (fun _ => rfl) (fun _ => rfl) rfl (by decide) (by decide) rfl rfl (by decide) (by decide) rfl rfl ⟨h1.1.ok (by decide) rfl, trivial⟩ ⟨h1.1.ok (by decide) rfl, trivial⟩ (fun S2 v2 h2 => ?_)
  refine zj_aload_n dX11_init_269 rfl rfl ?_
  refine zj_iconst (x := 4) dX11_init_270 rfl ?_
  refine k_fldI (ci := 11) (j := 54) (a := 223) (len := 4) h2 dX11_init_271 dX11_init_273 wf_X11_112 (by decide) (by decide) rfl rfl rfl rfl (fun _ => rfl) (fun _ => rfl) rfl (by decide) (by decide) rfl rfl (by decide) (by decide) rfl rfl ⟨h2.1.ok (by decide) rfl, trivial⟩ ⟨h2.1.ok (by decide) rfl, trivial⟩ (fun S3 v3 h3 => ?_)
  refine zj_aload_n dX11_init_276 rfl rfl ?_
  refine zj_bipush (x := 109) dX11_init_277 rfl ?_
  refine k_fldI (ci := 11) (j := 55) (a := 223) (len := 109) h3 dX11_init_279 dX11_init_281 wf_X11_115 (by decide) (by decide) rfl rfl rfl rfl (fun _ => rfl) (fun _ => rfl) rfl (by decide) (by decide) rfl rfl (by decide) (by decide) rfl rfl ⟨h3.1.ok (by decide) rfl, trivial⟩ ⟨h3.1.ok (by decide) rfl, trivial⟩ (fun S4 v4 h4 => ?_)
  refine zj_aload_n dX11_init_284 rfl rfl ?_
  refine zj_sipush (x := 321) dX11_init_285 rfl ?_
  refine k_fldZ (ci := 11) (j := 57) (a := 223) (len := 321) h4 dX11_init_288 dX11_init_290 wf_X11_118 (by decide) (by decide) rfl rfl rfl rfl (fun _ => rfl) (fun _ => rfl) rfl (by decide) (by decide) rfl rfl (by decide) (by decide) rfl rfl ⟨h4.1.ok (by decide) rfl, trivial⟩ ⟨h4.1.ok (by decide) rfl, trivial⟩ (fun S5 v5 h5 => ?_)
  refine zj_aload_n dX11_init_293 rfl rfl ?_
  refine zj_bipush (x := 52) dX11_init_294 rfl ?_
  refine k_fldI (ci := 11) (j := 58) (a := 223) (len := 52) h5 dX11_init_296 dX11_init_298 wf_X11_121 (by decide) (by decide) rfl rfl rfl rfl (fun _ => rfl) (fun _ => rfl) rfl (by decide) (by decide) rfl rfl (by decide) (by decide) rfl rfl ⟨h5.1.ok (by decide) rfl, trivial⟩ ⟨h5.1.ok (by decide) rfl, trivial⟩ (fun S6 v6 h6 => ?_)
  refine zj_aload_n dX11_init_301 rfl rfl ?_
  refine zj_bipush (x := 11) dX11_init_302 rfl ?_
  refine k_fldB (ci := 11) (j := 64) (a := 223) (len := 11) h6 dX11_init_304 dX11_init_306 wf_X11_124 (by decide) (by decide) rfl rfl rfl rfl (fun _ => rfl) (fun _ => rfl) rfl (by decide) (by decide) rfl rfl (by decide) (by decide) rfl rfl ⟨h6.1.ok (by decide) rfl, trivial⟩ ⟨h6.1.ok (by decide) rfl, trivial⟩ (fun S7 v7 h7 => ?_)
  exact h _ _ (h7.cast (by omega) (by omega))
theorem sp_X11_init (hd : 3 ≤ d) (h0 : k_T 223 S0 v0 224 S v cc ss) (h : ∀ S1 v1, z_Li 261 S1 → z_c S1 = z_c S0 + (cc + 37) → z_s S1 = z_s S0 + (ss + 37556) → (∀ a, a < 223 → z_r S1 a = z_r S0 a ∧ v1 a = v0 a) → p_M v1 (p_nw 3) → p_MT v1 3 → (∀ b, 224 < b → b < 261 → (b < 230 ∨ 233 < b) → v1 b = fun _ => 0) → (∀ j, j ≠ 14 → v1 223 j = 0) → Q none S1 v1) : z_J G (d + 1) mX11_init (0, [.ref 223], [], S, v) Q := by
  refine k_X11_0 h0 (fun S1 v1 h1 => k_X11_1 h1 (fun S2 v2 h2 => k_X11_2 h2 (fun S3 v3 h3 => k_X11_3 h3 (fun S4 v4 h4 => ?_))))
  replace h4 := h4.cast (cc1 := cc + 37) (ss1 := ss + 37556) (by omega) (by omega)
  obtain ⟨g1, g2, g3, g4, g5⟩ := h4
  have hL := g1.k (by decide +kernel)
  refine zj_aload_n dX11_init_309 rfl rfl ?_
  refine zj_iconst (x := nI 3) dX11_init_310 rfl ?_
  refine zj_callV (M' := mX11_begins) (avs := [.int (nI 3)]) (st := []) (ci := 11) dX11_init_311 wm_X11_begins wl_X11_127 wi_X11_begins ws_X11_begins (by decide) (yzk_223 hL (by omega)) rfl rfl (by decide) rfl (Nat.le_of_ble_eq_true rfl) (Nat.le_of_ble_eq_true rfl) ⟨Or.inl (z_k0 (yzk_223 hL (by omega))), trivial⟩ trivial ?_
  refine sp_X11_begins hd hL (by omega) (Or.inl rfl) (fun v9 q1 q2 q3 q4 => ?_)
  refine zj_vret dX11_init_314 rfl (h _ v9 g1 (by rw [g2]) (by rw [g3]) (fun a ha => ⟨(g4 a ha).1, ?_⟩) q1 q2 (fun b b1 b2 b3 => ?_) (fun j hj => ?_))
  · rw [q3 a (by omega) (by omega) (by omega)]; exact (g4 a ha).2
  · rw [q3 b (by omega) (by omega) b3]; exact g5 b (by omega) b2
  · rw [q4 j hj, g5 223 (by omega) (by omega)]
theorem k_T.a0 {k len a j : Nat} (h : k_T n0 S0 v0 n S v cc ss) (hn : n < 262) (hk : z_LK.getD n 0 = k) (hl : z_LL.getD n 0 = len) (hs0 : z_LSR.getD n none = none) (h0 : n0 ≤ a) (hnn : n0 ≤ n) (hs : z_lrk a j = none) : k_T n0 S0 v0 (n + 1) (z_sr (z_al S k len 1 len) a j (some n)) (z_ua v n (fun _ => 0)) (cc + 1) (ss + len) := by
  obtain ⟨h1, h2, h3, h4, h5⟩ := h
  refine ⟨(h1.al hn hk hl hs0).sr0 hs, by show z_c S + 1 = _; omega, by show z_s S + len = _; omega, fun b hb => ⟨?_, ?_⟩, fun b q1 q2 => ?_⟩
  · rw [← (h4 b hb).1]
    funext i
    show (if b = a ∧ i = j then some n else if b = z_n S then none else z_r S b i) = _
    rw [if_neg (fun z => by omega), if_neg (by rw [h1.2.1]; omega)]
  · rw [z_ua_ne (by omega)]; exact (h4 b hb).2
  · rcases Nat.lt_or_ge b n with w | w
    · rw [z_ua_ne (by omega)]; exact h5 b q1 w
    · rw [show b = n by omega]; exact z_ua_eq _ _ _
theorem sp_X5_init (h0 : k_T 164 S0 v0 165 S v cc ss) (h : ∀ S1 v1, k_T 164 S0 v0 186 S1 v1 (cc + 21) (ss + 2511) → z_r S1 164 7 = some 184 → z_r S1 164 8 = some 185 → Q none S1 v1) : z_J G (d + 1) mX5_init (0, [.ref 164], [], S, v) Q := by
  refine zj_aload_n dX5_init_0 rfl rfl ?_
  refine zj_objI dX5_init_1 wl_X5_3 (Nat.le_of_ble_eq_true rfl) ?_
  refine zj_aload_n dX5_init_4 rfl rfl ?_
  refine zj_bipush (x := 14) dX5_init_5 rfl ?_
  refine k_fldI (ci := 5) (j := 3) (a := 164) (len := 14) h0 dX5_init_7 dX5_init_9 wf_X5_9 (by decide) (by decide) rfl rfl rfl rfl (fun _ => rfl) (fun _ => rfl) rfl (by decide) (by decide) rfl rfl (by decide) (by decide) rfl rfl ⟨h0.1.ok (by decide) rfl, trivial⟩ ⟨h0.1.ok (by decide) rfl, trivial⟩ (fun S1 v1 h1 => ?_)
  refine zj_aload_n dX5_init_12 rfl rfl ?_
  refine zj_sipush (x := 321) dX5_init_13 rfl ?_
  refine k_fldI (ci := 5) (j := 4) (a := 164) (len := 321) h1 dX5_init_16 dX5_init_18 wf_X5_15 (by decide) (by decide) rfl rfl rfl rfl (fun _ => rfl) (fun _ => rfl) rfl (by decide) (by decide) rfl rfl (by decide) (by decide) rfl rfl ⟨h1.1.ok (by decide) rfl, trivial⟩ ⟨h1.1.ok (by decide) rfl, trivial⟩ (fun S2 v2 h2 => ?_)
  refine zj_aload_n dX5_init_21 rfl rfl ?_
  refine zj_bipush (x := 14) dX5_init_22 rfl ?_
  refine k_fldI (ci := 5) (j := 5) (a := 164) (len := 14) h2 dX5_init_24 dX5_init_26 wf_X5_18 (by decide) (by decide) rfl rfl rfl rfl (fun _ => rfl) (fun _ => rfl) rfl (by decide) (by decide) rfl rfl (by decide) (by decide) rfl rfl ⟨h2.1.ok (by decide) rfl, trivial⟩ ⟨h2.1.ok (by decide) rfl, trivial⟩ (fun S3 v3 h3 => ?_)
  refine zj_aload_n dX5_init_29 rfl rfl ?_
  refine zj_bipush (x := 15) dX5_init_30 rfl ?_
  refine zj_bipush (x := 109) dX5_init_32 rfl ?_
  refine k_fldG (ci := 5) (j := 6) (a := 164) (N := 15) (m := 109) h3 dX5_init_34 wk_X5_21 dX5_init_38 wf_X5_23 (by decide) (by decide) rfl rfl rfl rfl (fun _ => rfl) (fun _ => rfl) rfl rfl (by decide) (by decide) (by decide +kernel) (by decide) (by decide) rfl rfl ⟨h3.1.ok (by decide) rfl, trivial⟩ ⟨h3.1.ok (by decide) rfl, trivial⟩ (fun S4 v4 h4 => ?_)
  refine zj_aload_n dX5_init_41 rfl rfl ?_
  refine zj_sipush (x := 256) dX5_init_42 rfl ?_
  refine zj_newI (n := 256) dX5_init_45 rfl (by decide) (by rw [h4.1.2.1]; exact Nat.le_of_ble_eq_true rfl) ⟨h4.1.ok (by decide) rfl, trivial⟩ ⟨h4.1.ok (by decide) rfl, trivial⟩ ?_
  rw [h4.1.2.1]
  have h5 := h4.a0 (k := 21) (len := 256) (a := 164) (j := 7) (by decide) rfl rfl rfl (by decide) (by decide) rfl
  refine zj_putR (ci := 5) (j := 7) dX5_init_47 wf_X5_26 (by decide) (by decide) (h5.1.kk (by decide) rfl) rfl rfl (fun _ => rfl) (fun _ => rfl) (Or.inl (by show 184 < z_n S4 + 1; rw [h4.1.2.1]; decide)) ?_
  have r7 : z_r (z_sr (z_al S4 21 256 1 256) 164 7 (some 184)) 164 7 = some 184 := k_sr_eq
  generalize z_sr (z_al S4 21 256 1 256) 164 7 (some 184) = S5 at *
  refine zj_aload_n dX5_init_50 rfl rfl ?_
  refine zj_sipush (x := 256) dX5_init_51 rfl ?_
  refine zj_newI (n := 256) dX5_init_54 rfl (by decide) (by rw [h5.1.2.1]; exact Nat.le_of_ble_eq_true rfl) ⟨h5.1.ok (by decide) rfl, trivial⟩ ⟨h5.1.ok (by decide) rfl, trivial⟩ ?_
  rw [h5.1.2.1]
  have h6 := h5.a0 (k := 21) (len := 256) (a := 164) (j := 8) (by decide) rfl rfl rfl (by decide) (by decide) rfl
  refine zj_putR (ci := 5) (j := 8) dX5_init_56 wf_X5_29 (by decide) (by decide) (h6.1.kk (by decide) rfl) rfl rfl (fun _ => rfl) (fun _ => rfl) (Or.inl (by show 185 < z_n S5 + 1; rw [h5.1.2.1]; decide)) ?_
  refine zj_vret dX5_init_59 rfl (h _ _ (h6.cast (by omega) (by omega)) ?_ k_sr_eq)
  rw [k_sr_ne (by decide)]
  show (if 164 = z_n S5 then none else z_r S5 164 7) = _
  rw [if_neg (by rw [h5.1.2.1]; decide)]
  exact r7
theorem k_fldQ {x : Int32} {len a j ci idx idx0 : Nat} (h : k_T n0 S0 v0 n S v cc ss) (hd : decode M.2.1 pc = .ok (.anewarray idx0, 3)) (hw0 : Cond.classLink M.1.cls idx0 "WovenKeeper$Fabric" ∈ z_TB) (hd2 : decode M.2.1 (pc + 3) = .ok (.putfield idx, 3)) (hw : Cond.fieldLink M.1.cls idx (z_T ci j).1 (z_T ci j).2.1 (z_T ci j).2.2.1 ∈ z_TB) (hc : ci < 12) (hj2 : j < z_nf ci) (hr2 : z_isr ci j = true) (hfin : (z_T ci j).2.2.2 = true) (hini : M.1.name = "<init>") (hdc : (z_T ci j).1 = M.1.cls) (hn2 : ∀ q, narrow (z_tyf ci j) (.ref q) = .ref q) (hfit : ∀ q, fits (z_tyf ci j) (.ref q) = true) (hxn : x = nI len) (hlen : len ≤ 100000) (hn : n < 262) (hk : z_LK.getD n 0 = 26) (hl : z_LL.getD n 0 = len) (h0 : n0 ≤ a) (ha : a < n) (hka : z_LK.getD a 0 = ci + 1) (hs : z_lrk a j = some n) (ho1 : z_okr S ls) (ho2 : z_okr S (.ref a :: st))
    (hj : ∀ S1 v1, k_T n0 S0 v0 (n + 1) S1 v1 (cc + 1) (ss + len) → z_J G d M (pc + 6, ls, st, S1, v1) Q) : z_J G d M (pc, ls, .int x :: .ref a :: st, S, v) Q := by
  refine zj_newQ hd hw0 hxn hlen (by rw [h.1.2.1]; exact Nat.lt_trans hn (Nat.le_of_ble_eq_true rfl)) ho1 ho2 ?_
  rw [h.1.2.1]
  refine zj_putRF hd2 hw hc hj2 ?_ hr2 hfin hini hdc hn2 hfit (Or.inl ?_) ?_
  · show (if a = z_n S then 26 else z_k S a) = _
    rw [if_neg (by rw [h.1.2.1]; omega), h.1.kk ha hka]
  · show n < z_n S + 1
    rw [h.1.2.1]; omega
  · exact hj _ _ (h.as hn hk hl h0 ha hs)
theorem k_ring {i : Nat} (hi : i < 8) : z_isF (61 + 10 * i) := by
  simp only [z_isF, List.mem_cons, List.not_mem_nil, or_false]
  omega
/-- the ring's first i fabrics are made -/
def k_H (D i : Nat) (S0 : z_Shp) (v0 : z_Dat) (cc ss : Nat) (S : z_Shp) (v : z_Dat) : Prop := z_Li (61 + 10 * i) S ∧ z_c S = z_c S0 + (cc + 1 + 10 * i) ∧ z_s S = z_s S0 + (ss + 8 + 80 * i) ∧ (∀ a, a < 59 → z_r S a = z_r S0 a ∧ v a = v0 a) ∧ v 59 = (fun _ => 0) ∧ ∀ k, k < i → z_r S 60 k = some (61 + 10 * k) ∧ p_F S v (61 + 10 * k) (p_nw D)
theorem sp_X2_init {w D : Nat} (hd : 1 ≤ d) (hwd : p_wd w D) (h0 : k_T 59 S0 v0 60 S v cc ss) (h : ∀ S1 v1, k_H D 8 S0 v0 cc ss S1 v1 → Q none S1 v1) : z_J G (d + 2) mX2_init (0, [.ref 59, .ref w, .null], [], S, v) Q := by
  have hw37 : w + 18 ≤ 37 := by rcases hwd with ⟨rfl, -⟩ | ⟨rfl, -⟩ <;> omega
  refine zj_aload_n dX2_init_0 rfl rfl ?_
  refine zj_objI dX2_init_1 wl_X2_3 (Nat.le_of_ble_eq_true rfl) ?_
  refine zj_aload_n dX2_init_4 rfl rfl ?_
  refine zj_bipush (x := 8) dX2_init_5 rfl ?_
  refine k_fldQ (ci := 2) (j := 2) (a := 59) (len := 8) h0 dX2_init_7 wk_X2_9 dX2_init_10 wf_X2_11 (by decide) (by decide) rfl rfl rfl rfl (fun _ => rfl) (fun _ => rfl) rfl (by decide) (by decide) rfl rfl (by decide) (by decide) rfl rfl ⟨h0.1.ok (by decide) rfl, k_okw h0.1 hwd (by omega), trivial⟩ ⟨h0.1.ok (by decide) rfl, trivial⟩ (fun S1 v1 h1 => ?_)
  refine zj_iconst (x := nI 0) dX2_init_13 rfl ?_
  refine zj_istore_n (ls2 := [.ref 59, .ref w, .int (nI 0)]) dX2_init_14 rfl (by decide) rfl rfl ?_
  have key : ∀ m i S v, i + m = 8 → k_H D i S0 v0 cc ss S v → z_J G (d + 2) mX2_init (15, [.ref 59, .ref w, .int (nI i)], [], S, v) Q := by
    intro m
    induction m with
    | zero =>
      intro i S v hi hH
      obtain rfl : i = 8 := by omega
      refine zj_iload_n dX2_init_15 rfl rfl ?_
      refine zj_bipush (x := 8) dX2_init_16 rfl ?_
      refine zj_icmp_ge (tgt := 41) dX2_init_18 (by decide) (fun _ => ?_) (fun c => absurd (by decide) c)
      exact zj_vret dX2_init_41 rfl (h _ _ hH)
    | succ m ih =>
      intro i S v hi hH
      obtain ⟨g1, g2, g3, g4, g5, g6⟩ := hH
      have hi8 : i < 8 := by omega
      have hF := k_ring hi8
      obtain ⟨a1, a2, -, -, -, -, -, -, -, a18, a19⟩ := k_fab_of hF
      have hn60 : 60 < 61 + 10 * i := by omega
      have k59 : z_k S 59 = 3 := g1.kk (by omega) rfl
      have o59 : z_k S 59 ≠ 0 ∨ z_X ≤ 59 := g1.ok (by omega) rfl
      refine zj_iload_n dX2_init_15 rfl rfl ?_
      refine zj_bipush (x := 8) dX2_init_16 rfl ?_
      refine zj_icmp_ge (tgt := 41) dX2_init_18 (by decide) (fun c => absurd c ?_) (fun _ => ?_)
      · rw [show (8 : Int32) = nI 8 from rfl, nI_leI (by omega) (by omega)]; omega
      refine zj_aload_n dX2_init_21 rfl rfl ?_
      refine zj_getR (ci := 2) (j := 2) dX2_init_22 wf_X2_11 (by decide) (by decide) k59 rfl ((g1.2.2 59 (by omega)).2.2 2 60 rfl (by omega)) ?_
      refine zj_iload_n dX2_init_25 rfl rfl ?_
      refine k_new (ci := 0) dX2_init_26 (by decide) wk_X2_9 wb_X0 w0_X0 g1 (by omega) a2 a18 a19 ⟨o59, k_okw g1 hwd (by omega), trivial⟩ ⟨g1.ok (by omega) rfl, trivial⟩ (fun S2 v2 h2 => ?_)
      refine zj_dup dX2_init_29 rfl ?_
      refine zj_aload_n dX2_init_30 rfl rfl ?_
      refine zj_callI (M' := mX0_init) (avs := [.ref w]) (st := [.ref (61 + 10 * i), .int (nI i), .ref 60]) dX2_init_31 wm_X0_init wl_X2_17 wi_X0_init rfl rfl rfl (by decide) rfl (Nat.le_of_ble_eq_true rfl) (Nat.le_of_ble_eq_true rfl) ⟨h2.1.ok (by omega) rfl, k_okw h2.1 hwd (by omega), trivial⟩ ⟨h2.1.ok (by omega) a2, h2.1.ok (by omega) rfl, trivial⟩ ?_
      refine sp_X0_init hd hF hwd (by omega) h2 (fun S3 v3 q1 q2 q3 q4 q5 => ?_)
      refine zj_aastore dX2_init_34 (q1.kk (by omega) rfl) (q1.kk (by omega) a2) ?_ ?_
      · rw [(q1.2.2 60 (by omega)).2.1]
        exact vp_in_nI hi8 (by decide)
      rw [nI_clamp (by omega)]
      refine zj_iinc (y := nI (i + 1)) (ls2 := [.ref 59, .ref w, .int (nI (i + 1))]) dX2_init_35 rfl (nI_1 i) (by decide) rfl rfl ?_
      refine zj_goto (tgt := 15) dX2_init_38 (by decide) (ih (i + 1) _ _ (by omega) ⟨?_, ?_, ?_, ?_, ?_, fun k hk => ⟨?_, ?_⟩⟩)
      · exact q1.sr0 rfl
      · show z_c S3 = _
        rw [q2, g2]; omega
      · show z_s S3 = _
        rw [q3, g3]
        show _ + (7 + 73) = _
        omega
      · intro a ha
        refine ⟨?_, by rw [(q4 a (by omega)).2]; exact (g4 a ha).2⟩
        rw [← (g4 a ha).1, ← (q4 a (by omega)).1]
        funext j
        show (if a = 60 ∧ j = i then _ else z_r S3 a j) = _
        rw [if_neg (fun z => by omega)]
      · rw [(q4 59 (by omega)).2]; exact g5
      · show (if 60 = 60 ∧ k = i then some (61 + 10 * i) else z_r S3 60 k) = _
        by_cases e : k = i
        · subst e; rw [if_pos ⟨rfl, rfl⟩]
        · rw [if_neg (fun z => e z.2), (q4 60 (by omega)).1]
          exact (g6 k (by omega)).1
      · by_cases e : k = i
        · subst e
          refine k_pF q5 (fun a b1 b2 => ⟨?_, rfl⟩)
          funext j
          show (if a = 60 ∧ j = k then _ else z_r S3 a j) = _
          rw [if_neg (fun z => by omega)]
        · refine k_pF (g6 k (by omega)).2 (fun a b1 b2 => ⟨?_, (q4 a (by omega)).2⟩)
          rw [← (q4 a (by omega)).1]
          funext j
          show (if a = 60 ∧ j = i then _ else z_r S3 a j) = _
          rw [if_neg (fun z => by omega)]
  refine key 8 0 S1 v1 rfl ⟨h1.1, ?_, ?_, h1.2.2.2.1, h1.2.2.2.2 59 (by omega) (by omega), fun k hk => absurd hk (Nat.not_lt_zero k)⟩
  · rw [h1.2.1]
  · rw [h1.2.2.1]
end KM

theorem m_L_law_5 : Cond.initialized RX8 ∈ wsL_law := List.mem_of_getElem? (i := 5) rfl
theorem m_L_law_90 : Cond.methodLink RL 12 yX8_init ∈ wsL_law := List.mem_of_getElem? (i := 90) rfl
theorem m_L_law_91 : Cond.instanceMethod yX8_init ∈ wsL_law := List.mem_of_getElem? (i := 91) rfl
theorem u_L_law_X8 : ∀ w ∈ u_ws RX8 TX8 13, w ∈ wsL_law := mem_r [662, 663, 664, 665, 666, 667, 668, 669, 670, 671, 672, 673, 674] (by decide +kernel)
theorem m_L_law_3 : Cond.classLink RL 10 RX8 ∈ wsL_law := List.mem_of_getElem? (i := 3) rfl
theorem m_L_law_4 : Cond.instantiable RX8 13 ∈ wsL_law := List.mem_of_getElem? (i := 4) rfl
theorem m_L_law_2 : Cond.initialized RX7 ∈ wsL_law := List.mem_of_getElem? (i := 2) rfl
theorem m_L_law_6 : Cond.methodLink RL 9 yX7_init ∈ wsL_law := List.mem_of_getElem? (i := 6) rfl
theorem m_L_law_7 : Cond.instanceMethod yX7_init ∈ wsL_law := List.mem_of_getElem? (i := 7) rfl
theorem u_L_law_X7 : ∀ w ∈ u_ws RX7 TX7 6, w ∈ wsL_law := mem_r [656, 657, 658, 659, 660, 661] (by decide +kernel)
theorem m_L_law_0 : Cond.classLink RL 7 RX7 ∈ wsL_law := List.mem_of_getElem? (i := 0) rfl
theorem m_L_law_1 : Cond.instantiable RX7 6 ∈ wsL_law := List.mem_of_getElem? (i := 1) rfl
abbrev L_law_P18 (X : Cx) (a0 : Nat) (a1 : Nat) (a2 : Nat) : (Wo × Int32) → Prop := un2 (fun M x3 => Pt X 255 18303 18 M [(0, .ref a0), (1, .ref a1), (2, .ref a2), (3, .int x3)] [])
abbrev L_law_Z18 (X : Cx) (a0 : Nat) (a1 : Nat) (a2 : Nat) : Wo → Prop := (un1 (fun M => Pt X 255 18303 757 M [] []))
def L_law_b18 (L : Nat) (xs : Nat → Int32) (a0 : Nat) (a1 : Nat) (a2 : Nat) (M : Wo) (x3 : Int32) : Option ((Wo × Int32) ⊕ Wo) :=
  if ((Int32.ofNat L) - (5 : Int32)) < x3 then (some (.inr M)) else ((ldX L xs x3).bind fun v13 => if (v13 &&& (31 : Int32)) = (0 : Int32) then ((ldX L xs (x3 + (1 : Int32))).bind fun v16 => (ldX L xs (x3 + (2 : Int32))).bind fun v18 => (ldX L xs (x3 + (3 : Int32))).bind fun v20 => (X7_set M a1 v16 v18 v20).bind (un2 fun v23 M24 => (ldX L xs (x3 + (1 : Int32))).bind fun v25 => (ldX L xs (x3 + (2 : Int32))).bind fun v27 => (ldX L xs (x3 + (3 : Int32))).bind fun v29 => (X8_set M24 a2 v25 v27 v29).bind (un2 fun v32 M33 => if v23 = v32 then (some (.inl (M33, (x3 + 5)))) else none))) else if (v13 &&& (31 : Int32)) = (1 : Int32) then ((ldX L xs (x3 + (1 : Int32))).bind fun v36 => (ldX L xs (x3 + (2 : Int32))).bind fun v38 => (ldX L xs (x3 + (3 : Int32))).bind fun v40 => (X7_load M a1 v36 v38 v40).bind (un2 fun v43 M44 => (ldX L xs (x3 + (1 : Int32))).bind fun v45 => (ldX L xs (x3 + (2 : Int32))).bind fun v47 => (ldX L xs (x3 + (3 : Int32))).bind fun v49 => (X8_load M44 a2 v45 v47 v49).bind (un2 fun v52 M53 => if v43 = v52 then (some (.inl (M53, (x3 + 5)))) else none))) else if (v13 &&& (31 : Int32)) = (2 : Int32) then ((ldX L xs (x3 + (1 : Int32))).bind fun v56 => (ldX L xs (x3 + (2 : Int32))).bind fun v58 => (ldX L xs (x3 + (3 : Int32))).bind fun v60 => (X7_take M a1 v56 v58 v60).bind (un2 fun v63 M64 => (ldX L xs (x3 + (1 : Int32))).bind fun v65 => (ldX L xs (x3 + (2 : Int32))).bind fun v67 => (ldX L xs (x3 + (3 : Int32))).bind fun v69 => (X8_take M64 a2 v65 v67 v69).bind (un2 fun v72 M73 => if v63 = v72 then (some (.inl (M73, (x3 + 5)))) else none))) else if (v13 &&& (31 : Int32)) = (3 : Int32) then ((ldX L xs (x3 + (1 : Int32))).bind fun v76 => (ldX L xs (x3 + (2 : Int32))).bind fun v78 => (X7_bar M a1 v76 v78).bind fun v81 => (ldX L xs (x3 + (1 : Int32))).bind fun v82 => (ldX L xs (x3 + (2 : Int32))).bind fun v84 => (X8_bar M a2 v82 v84).bind fun v87 => if v81 = v87 then (some (.inl (M, (x3 + 5)))) else none) else if (v13 &&& (31 : Int32)) = (4 : Int32) then ((ldX L xs (x3 + (1 : Int32))).bind fun v90 => (ldX L xs (x3 + (2 : Int32))).bind fun v92 => (X7_loading M a1 v90 v92).bind (un2 fun v95 M96 => (ldX L xs (x3 + (1 : Int32))).bind fun v97 => (ldX L xs (x3 + (2 : Int32))).bind fun v99 => (X8_loading M96 a2 v97 v99).bind (un2 fun v102 M103 => if v95 = v102 then (some (.inl (M103, (x3 + 5)))) else none))) else if (v13 &&& (31 : Int32)) = (5 : Int32) then ((ldX L xs (x3 + (1 : Int32))).bind fun v106 => (X7_loadings M a1 v106).bind (un2 fun v109 M110 => (ldX L xs (x3 + (1 : Int32))).bind fun v111 => (X8_loadings M110 a2 v111).bind (un2 fun v114 M115 => if v109 = v114 then (some (.inl (M115, (x3 + 5)))) else none))) else if (v13 &&& (31 : Int32)) = (6 : Int32) then ((ldX L xs (x3 + (1 : Int32))).bind fun v118 => (ldX L xs (x3 + (2 : Int32))).bind fun v120 => (ldX L xs (x3 + (3 : Int32))).bind fun v122 => (ldX L xs (x3 + (4 : Int32))).bind fun v124 => (X7_move M a1 v118 v120 v122 v124).bind (un2 fun v127 M128 => (ldX L xs (x3 + (1 : Int32))).bind fun v129 => (ldX L xs (x3 + (2 : Int32))).bind fun v131 => (ldX L xs (x3 + (3 : Int32))).bind fun v133 => (ldX L xs (x3 + (4 : Int32))).bind fun v135 => (X8_move M128 a2 v129 v131 v133 v135).bind (un2 fun v138 M139 => if v127 = v138 then (some (.inl (M139, (x3 + 5)))) else none))) else if (v13 &&& (31 : Int32)) = (7 : Int32) then ((ldX L xs (x3 + (1 : Int32))).bind fun v142 => (X7_drop M a1 v142).bind (un2 fun v145 M146 => (ldX L xs (x3 + (1 : Int32))).bind fun v147 => (X8_drop M146 a2 v147).bind (un2 fun v150 M151 => if v145 = v150 then (some (.inl (M151, (x3 + 5)))) else none))) else if (v13 &&& (31 : Int32)) = (8 : Int32) then ((ldX L xs (x3 + (1 : Int32))).bind fun v154 => (ldX L xs (x3 + (2 : Int32))).bind fun v156 => (X7_shift M a1 v154 v156).bind (un2 fun v159 M160 => (ldX L xs (x3 + (1 : Int32))).bind fun v161 => (ldX L xs (x3 + (2 : Int32))).bind fun v163 => (X8_shift M160 a2 v161 v163).bind (un2 fun v166 M167 => if v159 = v166 then (some (.inl (M167, (x3 + 5)))) else none))) else if (v13 &&& (31 : Int32)) = (9 : Int32) then ((ldX L xs (x3 + (1 : Int32))).bind fun v170 => (ldX L xs (x3 + (2 : Int32))).bind fun v172 => (X7_told M a1 v170 v172).bind (un2 fun v175 M176 => (ldX L xs (x3 + (1 : Int32))).bind fun v177 => (ldX L xs (x3 + (2 : Int32))).bind fun v179 => (X8_told M176 a2 v177 v179).bind (un2 fun v182 M183 => if v175 = v182 then (some (.inl (M183, (x3 + 5)))) else none))) else if (v13 &&& (31 : Int32)) = (10 : Int32) then ((ldX L xs (x3 + (1 : Int32))).bind fun v186 => (ldX L xs (x3 + (2 : Int32))).bind fun v188 => (X7_height M a1 v186 v188).bind (un2 fun v191 M192 => (ldX L xs (x3 + (1 : Int32))).bind fun v193 => (ldX L xs (x3 + (2 : Int32))).bind fun v195 => (X8_height M192 a2 v193 v195).bind (un2 fun v198 M199 => if v191 = v198 then (some (.inl (M199, (x3 + 5)))) else none))) else if (v13 &&& (31 : Int32)) = (11 : Int32) then ((ldX L xs (x3 + (1 : Int32))).bind fun v202 => (ldX L xs (x3 + (2 : Int32))).bind fun v204 => (ldX L xs (x3 + (3 : Int32))).bind fun v206 => (X7_strike M a1 v202 v204 v206).bind (un2 fun v209 M210 => (ldX L xs (x3 + (1 : Int32))).bind fun v211 => (ldX L xs (x3 + (2 : Int32))).bind fun v213 => (ldX L xs (x3 + (3 : Int32))).bind fun v215 => (X8_strike M210 a2 v211 v213 v215).bind (un2 fun v218 M219 => if v209 = v218 then (some (.inl (M219, (x3 + 5)))) else none))) else if (v13 &&& (31 : Int32)) = (12 : Int32) then ((ldX L xs (x3 + (1 : Int32))).bind fun v222 => (ldX L xs (x3 + (2 : Int32))).bind fun v224 => (X7_clash M a1 v222 v224).bind (un2 fun v227 M228 => (ldX L xs (x3 + (1 : Int32))).bind fun v229 => (ldX L xs (x3 + (2 : Int32))).bind fun v231 => (X8_clash M228 a2 v229 v231).bind (un2 fun v234 M235 => if v227 = v234 then (some (.inl (M235, (x3 + 5)))) else none))) else if (v13 &&& (31 : Int32)) = (13 : Int32) then ((ldX L xs (x3 + (1 : Int32))).bind fun v238 => (ldX L xs (x3 + (2 : Int32))).bind fun v240 => (X7_often M a1 v238 v240).bind (un2 fun v243 M244 => (ldX L xs (x3 + (1 : Int32))).bind fun v245 => (ldX L xs (x3 + (2 : Int32))).bind fun v247 => (X8_often M244 a2 v245 v247).bind (un2 fun v250 M251 => if v243 = v250 then (some (.inl (M251, (x3 + 5)))) else none))) else if (v13 &&& (31 : Int32)) = (14 : Int32) then ((ldX L xs (x3 + (1 : Int32))).bind fun v254 => (X7_hands M a1 v254).bind (un2 fun v257 M258 => (ldX L xs (x3 + (1 : Int32))).bind fun v259 => (X8_hands M258 a2 v259).bind (un2 fun v262 M263 => if v257 = v262 then (some (.inl (M263, (x3 + 5)))) else none))) else if (v13 &&& (31 : Int32)) = (15 : Int32) then ((ldX L xs (x3 + (1 : Int32))).bind fun v266 => (ldX L xs (x3 + (2 : Int32))).bind fun v268 => (X7_crew M a1 v266 v268).bind (un2 fun v271 M272 => (ldX L xs (x3 + (1 : Int32))).bind fun v273 => (ldX L xs (x3 + (2 : Int32))).bind fun v275 => (X8_crew M272 a2 v273 v275).bind (un2 fun v278 M279 => if v271 = v278 then (some (.inl (M279, (x3 + 5)))) else none))) else if (v13 &&& (31 : Int32)) = (16 : Int32) then ((ldX L xs (x3 + (1 : Int32))).bind fun v282 => (X7_image M a1 v282).bind (un2 fun v285 M286 => (ldX L xs (x3 + (1 : Int32))).bind fun v287 => (X8_image M286 a2 v287).bind (un2 fun v290 M291 => if v285 = v290 then (some (.inl (M291, (x3 + 5)))) else none))) else if (v13 &&& (31 : Int32)) = (17 : Int32) then ((ldX L xs (x3 + (1 : Int32))).bind fun v294 => (X7_restore M a1 v294).bind (un2 fun v297 M298 => (ldX L xs (x3 + (1 : Int32))).bind fun v299 => (X8_restore M298 a2 v299).bind (un2 fun v302 M303 => if v297 = v302 then (some (.inl (M303, (x3 + 5)))) else none))) else if (v13 &&& (31 : Int32)) = (18 : Int32) then ((ldX L xs (x3 + (1 : Int32))).bind fun v306 => (X7_count M a1 v306).bind (un2 fun v309 M310 => (ldX L xs (x3 + (1 : Int32))).bind fun v311 => (X8_count M310 a2 v311).bind (un2 fun v314 M315 => if v309 = v314 then (some (.inl (M315, (x3 + 5)))) else none))) else (some (.inl (M, (x3 + 5)))))
theorem L_law_b18_w {X : Cx} {L : Nat} {xs : Nat → Int32} {a0 : Nat} (G : Gd X yL_law cL_law wsL_law 4 (some .boolean) room_1) (hX : lX X a0 L xs) {a1 : Nat} {a2 : Nat} {M : Wo} {x3 : Int32} {o : ((Wo × Int32) ⊕ Wo)} (hd : L_law_b18 L xs a0 a1 a2 M x3 = some o) (hc : ∀ s9, o = .inl s9 → L_law_P18 X a0 a1 a2 s9) (he : ∀ e9, o = .inr e9 → L_law_Z18 X a0 a1 a2 e9) : Pt X 255 18303 18 M [(0, .ref a0), (1, .ref a1), (2, .ref a2), (3, .int x3)] [] := by
  unfold L_law_b18 at hd
  refine pt_iload_n G 3 dL_law_18 rfl rfl ?_
  refine pt_aload_n G 0 dL_law_19 rfl rfl ?_
  refine pt_slen G hX dL_law_20 ?_
  refine pt_iconst G (5 : Int32) dL_law_21 ci_5 ?_
  refine pt_isub G dL_law_22 ?_
  refine pt_icmp_gt G 757 dL_law_23 (by decide) (fun c317 => ?_) (fun c317 => ?_)
  · replace hd := ifp c317 hd
    exact pt_sub [] rfl (he M (Option.some.inj hd).symm)
  · replace hd := ifn c317 hd
    refine pt_aload_n G 0 dL_law_26 rfl rfl ?_
    refine pt_iload_n G 3 dL_law_27 rfl rfl ?_
    obtain ⟨v13, h14, hd⟩ := bnd hd
    refine pt_sld G hX h14 dL_law_28 ?_
    refine pt_bipush G (31 : Int32) dL_law_29 bi_31 ?_
    refine pt_iand G dL_law_31 ?_
    by_cases c15 : (v13 &&& (31 : Int32)) = (0 : Int32)
    · replace hd := ifp c15 hd
      refine pt_tsIn G 124 dL_law_32 (by rw [c15]; decide) (by rw [c15]; decide) (by rw [c15]; rfl) (by decide) ?_
      refine pt_aload_n G 1 dL_law_124 rfl rfl ?_
      refine pt_aload_n G 0 dL_law_125 rfl rfl ?_
      refine pt_iload_n G 3 dL_law_126 rfl rfl ?_
      refine pt_iconst G (1 : Int32) dL_law_127 ci_1 ?_
      refine pt_iadd G dL_law_128 ?_
      obtain ⟨v16, h17, hd⟩ := bnd hd
      refine pt_sld G hX h17 dL_law_129 ?_
      refine pt_aload_n G 0 dL_law_130 rfl rfl ?_
      refine pt_iload_n G 3 dL_law_131 rfl rfl ?_
      refine pt_iconst G (2 : Int32) dL_law_132 ci_2 ?_
      refine pt_iadd G dL_law_133 ?_
      obtain ⟨v18, h19, hd⟩ := bnd hd
      refine pt_sld G hX h19 dL_law_134 ?_
      refine pt_aload_n G 0 dL_law_135 rfl rfl ?_
      refine pt_iload_n G 3 dL_law_136 rfl rfl ?_
      refine pt_iconst G (3 : Int32) dL_law_137 ci_3 ?_
      refine pt_iadd G dL_law_138 ?_
      obtain ⟨v20, h21, hd⟩ := bnd hd
      refine pt_sld G hX h21 dL_law_139 ?_
      obtain ⟨⟨v23, M24⟩, h22, hd⟩ := bnd hd
      replace hd := un2_e hd
      refine X7_set_v G gL_law_X7_set ⟨(Nat.le_of_ble_eq_true rfl), (Nat.le_of_ble_eq_true rfl)⟩ h22 dL_law_140 (Nat.le_of_ble_eq_true rfl) ⟨(Nat.le_of_ble_eq_true rfl), (Nat.le_of_ble_eq_true rfl)⟩ ?_
      refine pt_aload_n G 2 dL_law_143 rfl rfl ?_
      refine pt_aload_n G 0 dL_law_144 rfl rfl ?_
      refine pt_iload_n G 3 dL_law_145 rfl rfl ?_
      refine pt_iconst G (1 : Int32) dL_law_146 ci_1 ?_
      refine pt_iadd G dL_law_147 ?_
      obtain ⟨v25, h26, hd⟩ := bnd hd
      refine pt_sld G hX h26 dL_law_148 ?_
      refine pt_aload_n G 0 dL_law_149 rfl rfl ?_
      refine pt_iload_n G 3 dL_law_150 rfl rfl ?_
      refine pt_iconst G (2 : Int32) dL_law_151 ci_2 ?_
      refine pt_iadd G dL_law_152 ?_
      obtain ⟨v27, h28, hd⟩ := bnd hd
      refine pt_sld G hX h28 dL_law_153 ?_
      refine pt_aload_n G 0 dL_law_154 rfl rfl ?_
      refine pt_iload_n G 3 dL_law_155 rfl rfl ?_
      refine pt_iconst G (3 : Int32) dL_law_156 ci_3 ?_
      refine pt_iadd G dL_law_157 ?_
      obtain ⟨v29, h30, hd⟩ := bnd hd
      refine pt_sld G hX h30 dL_law_158 ?_
      obtain ⟨⟨v32, M33⟩, h31, hd⟩ := bnd hd
      replace hd := un2_e hd
      refine X8_set_v G gL_law_X8_set ⟨(Nat.le_of_ble_eq_true rfl), (Nat.le_of_ble_eq_true rfl)⟩ h31 dL_law_159 (Nat.le_of_ble_eq_true rfl) ⟨(Nat.le_of_ble_eq_true rfl), (Nat.le_of_ble_eq_true rfl)⟩ ?_
      refine pt_icmp_eq G 751 dL_law_162 (by decide) (fun c34 => ?_) (fun c34 => ?_)
      · replace hd := ifp c34 hd
        refine pt_iinc G 3 (x3 + 5) [(3, .int (x3 + 5)), (0, .ref a0), (1, .ref a1), (2, .ref a2)] dL_law_751 rfl (inc_5 _) (by decide) rfl ?_
        refine pt_goto G 18 dL_law_754 (by decide) ?_
        exact pt_sub [1, 2, 3, 0] rfl (hc (M33, (x3 + 5)) (Option.some.inj hd).symm)
      · replace hd := ifn c34 hd
        cases hd
    replace hd := ifn c15 hd
    by_cases c35 : (v13 &&& (31 : Int32)) = (1 : Int32)
    · replace hd := ifp c35 hd
      refine pt_tsIn G 167 dL_law_32 (by rw [c35]; decide) (by rw [c35]; decide) (by rw [c35]; rfl) (by decide) ?_
      refine pt_aload_n G 1 dL_law_167 rfl rfl ?_
      refine pt_aload_n G 0 dL_law_168 rfl rfl ?_
      refine pt_iload_n G 3 dL_law_169 rfl rfl ?_
      refine pt_iconst G (1 : Int32) dL_law_170 ci_1 ?_
      refine pt_iadd G dL_law_171 ?_
      obtain ⟨v36, h37, hd⟩ := bnd hd
      refine pt_sld G hX h37 dL_law_172 ?_
      refine pt_aload_n G 0 dL_law_173 rfl rfl ?_
      refine pt_iload_n G 3 dL_law_174 rfl rfl ?_
      refine pt_iconst G (2 : Int32) dL_law_175 ci_2 ?_
      refine pt_iadd G dL_law_176 ?_
      obtain ⟨v38, h39, hd⟩ := bnd hd
      refine pt_sld G hX h39 dL_law_177 ?_
      refine pt_aload_n G 0 dL_law_178 rfl rfl ?_
      refine pt_iload_n G 3 dL_law_179 rfl rfl ?_
      refine pt_iconst G (3 : Int32) dL_law_180 ci_3 ?_
      refine pt_iadd G dL_law_181 ?_
      obtain ⟨v40, h41, hd⟩ := bnd hd
      refine pt_sld G hX h41 dL_law_182 ?_
      obtain ⟨⟨v43, M44⟩, h42, hd⟩ := bnd hd
      replace hd := un2_e hd
      refine X7_load_v G gL_law_X7_load ⟨(Nat.le_of_ble_eq_true rfl), (Nat.le_of_ble_eq_true rfl)⟩ h42 dL_law_183 (Nat.le_of_ble_eq_true rfl) ⟨(Nat.le_of_ble_eq_true rfl), (Nat.le_of_ble_eq_true rfl)⟩ ?_
      refine pt_aload_n G 2 dL_law_186 rfl rfl ?_
      refine pt_aload_n G 0 dL_law_187 rfl rfl ?_
      refine pt_iload_n G 3 dL_law_188 rfl rfl ?_
      refine pt_iconst G (1 : Int32) dL_law_189 ci_1 ?_
      refine pt_iadd G dL_law_190 ?_
      obtain ⟨v45, h46, hd⟩ := bnd hd
      refine pt_sld G hX h46 dL_law_191 ?_
      refine pt_aload_n G 0 dL_law_192 rfl rfl ?_
      refine pt_iload_n G 3 dL_law_193 rfl rfl ?_
      refine pt_iconst G (2 : Int32) dL_law_194 ci_2 ?_
      refine pt_iadd G dL_law_195 ?_
      obtain ⟨v47, h48, hd⟩ := bnd hd
      refine pt_sld G hX h48 dL_law_196 ?_
      refine pt_aload_n G 0 dL_law_197 rfl rfl ?_
      refine pt_iload_n G 3 dL_law_198 rfl rfl ?_
      refine pt_iconst G (3 : Int32) dL_law_199 ci_3 ?_
      refine pt_iadd G dL_law_200 ?_
      obtain ⟨v49, h50, hd⟩ := bnd hd
      refine pt_sld G hX h50 dL_law_201 ?_
      obtain ⟨⟨v52, M53⟩, h51, hd⟩ := bnd hd
      replace hd := un2_e hd
      refine X8_load_v G gL_law_X8_load ⟨(Nat.le_of_ble_eq_true rfl), (Nat.le_of_ble_eq_true rfl)⟩ h51 dL_law_202 (Nat.le_of_ble_eq_true rfl) ⟨(Nat.le_of_ble_eq_true rfl), (Nat.le_of_ble_eq_true rfl)⟩ ?_
      refine pt_icmp_eq G 751 dL_law_205 (by decide) (fun c54 => ?_) (fun c54 => ?_)
      · replace hd := ifp c54 hd
        refine pt_iinc G 3 (x3 + 5) [(3, .int (x3 + 5)), (0, .ref a0), (1, .ref a1), (2, .ref a2)] dL_law_751 rfl (inc_5 _) (by decide) rfl ?_
        refine pt_goto G 18 dL_law_754 (by decide) ?_
        exact pt_sub [1, 2, 3, 0] rfl (hc (M53, (x3 + 5)) (Option.some.inj hd).symm)
      · replace hd := ifn c54 hd
        cases hd
    replace hd := ifn c35 hd
    by_cases c55 : (v13 &&& (31 : Int32)) = (2 : Int32)
    · replace hd := ifp c55 hd
      refine pt_tsIn G 210 dL_law_32 (by rw [c55]; decide) (by rw [c55]; decide) (by rw [c55]; rfl) (by decide) ?_
      refine pt_aload_n G 1 dL_law_210 rfl rfl ?_
      refine pt_aload_n G 0 dL_law_211 rfl rfl ?_
      refine pt_iload_n G 3 dL_law_212 rfl rfl ?_
      refine pt_iconst G (1 : Int32) dL_law_213 ci_1 ?_
      refine pt_iadd G dL_law_214 ?_
      obtain ⟨v56, h57, hd⟩ := bnd hd
      refine pt_sld G hX h57 dL_law_215 ?_
      refine pt_aload_n G 0 dL_law_216 rfl rfl ?_
      refine pt_iload_n G 3 dL_law_217 rfl rfl ?_
      refine pt_iconst G (2 : Int32) dL_law_218 ci_2 ?_
      refine pt_iadd G dL_law_219 ?_
      obtain ⟨v58, h59, hd⟩ := bnd hd
      refine pt_sld G hX h59 dL_law_220 ?_
      refine pt_aload_n G 0 dL_law_221 rfl rfl ?_
      refine pt_iload_n G 3 dL_law_222 rfl rfl ?_
      refine pt_iconst G (3 : Int32) dL_law_223 ci_3 ?_
      refine pt_iadd G dL_law_224 ?_
      obtain ⟨v60, h61, hd⟩ := bnd hd
      refine pt_sld G hX h61 dL_law_225 ?_
      obtain ⟨⟨v63, M64⟩, h62, hd⟩ := bnd hd
      replace hd := un2_e hd
      refine X7_take_v G gL_law_X7_take ⟨(Nat.le_of_ble_eq_true rfl), (Nat.le_of_ble_eq_true rfl)⟩ h62 dL_law_226 (Nat.le_of_ble_eq_true rfl) ⟨(Nat.le_of_ble_eq_true rfl), (Nat.le_of_ble_eq_true rfl)⟩ ?_
      refine pt_aload_n G 2 dL_law_229 rfl rfl ?_
      refine pt_aload_n G 0 dL_law_230 rfl rfl ?_
      refine pt_iload_n G 3 dL_law_231 rfl rfl ?_
      refine pt_iconst G (1 : Int32) dL_law_232 ci_1 ?_
      refine pt_iadd G dL_law_233 ?_
      obtain ⟨v65, h66, hd⟩ := bnd hd
      refine pt_sld G hX h66 dL_law_234 ?_
      refine pt_aload_n G 0 dL_law_235 rfl rfl ?_
      refine pt_iload_n G 3 dL_law_236 rfl rfl ?_
      refine pt_iconst G (2 : Int32) dL_law_237 ci_2 ?_
      refine pt_iadd G dL_law_238 ?_
      obtain ⟨v67, h68, hd⟩ := bnd hd
      refine pt_sld G hX h68 dL_law_239 ?_
      refine pt_aload_n G 0 dL_law_240 rfl rfl ?_
      refine pt_iload_n G 3 dL_law_241 rfl rfl ?_
      refine pt_iconst G (3 : Int32) dL_law_242 ci_3 ?_
      refine pt_iadd G dL_law_243 ?_
      obtain ⟨v69, h70, hd⟩ := bnd hd
      refine pt_sld G hX h70 dL_law_244 ?_
      obtain ⟨⟨v72, M73⟩, h71, hd⟩ := bnd hd
      replace hd := un2_e hd
      refine X8_take_v G gL_law_X8_take ⟨(Nat.le_of_ble_eq_true rfl), (Nat.le_of_ble_eq_true rfl)⟩ h71 dL_law_245 (Nat.le_of_ble_eq_true rfl) ⟨(Nat.le_of_ble_eq_true rfl), (Nat.le_of_ble_eq_true rfl)⟩ ?_
      refine pt_icmp_eq G 751 dL_law_248 (by decide) (fun c74 => ?_) (fun c74 => ?_)
      · replace hd := ifp c74 hd
        refine pt_iinc G 3 (x3 + 5) [(3, .int (x3 + 5)), (0, .ref a0), (1, .ref a1), (2, .ref a2)] dL_law_751 rfl (inc_5 _) (by decide) rfl ?_
        refine pt_goto G 18 dL_law_754 (by decide) ?_
        exact pt_sub [1, 2, 3, 0] rfl (hc (M73, (x3 + 5)) (Option.some.inj hd).symm)
      · replace hd := ifn c74 hd
        cases hd
    replace hd := ifn c55 hd
    by_cases c75 : (v13 &&& (31 : Int32)) = (3 : Int32)
    · replace hd := ifp c75 hd
      refine pt_tsIn G 253 dL_law_32 (by rw [c75]; decide) (by rw [c75]; decide) (by rw [c75]; rfl) (by decide) ?_
      refine pt_aload_n G 1 dL_law_253 rfl rfl ?_
      refine pt_aload_n G 0 dL_law_254 rfl rfl ?_
      refine pt_iload_n G 3 dL_law_255 rfl rfl ?_
      refine pt_iconst G (1 : Int32) dL_law_256 ci_1 ?_
      refine pt_iadd G dL_law_257 ?_
      obtain ⟨v76, h77, hd⟩ := bnd hd
      refine pt_sld G hX h77 dL_law_258 ?_
      refine pt_aload_n G 0 dL_law_259 rfl rfl ?_
      refine pt_iload_n G 3 dL_law_260 rfl rfl ?_
      refine pt_iconst G (2 : Int32) dL_law_261 ci_2 ?_
      refine pt_iadd G dL_law_262 ?_
      obtain ⟨v78, h79, hd⟩ := bnd hd
      refine pt_sld G hX h79 dL_law_263 ?_
      obtain ⟨v81, h80, hd⟩ := bnd hd
      refine X7_bar_v G gL_law_X7_bar ⟨(Nat.le_of_ble_eq_true rfl), (Nat.le_of_ble_eq_true rfl)⟩ h80 dL_law_264 (Nat.le_of_ble_eq_true rfl) ⟨(Nat.le_of_ble_eq_true rfl), (Nat.le_of_ble_eq_true rfl)⟩ ?_
      refine pt_aload_n G 2 dL_law_267 rfl rfl ?_
      refine pt_aload_n G 0 dL_law_268 rfl rfl ?_
      refine pt_iload_n G 3 dL_law_269 rfl rfl ?_
      refine pt_iconst G (1 : Int32) dL_law_270 ci_1 ?_
      refine pt_iadd G dL_law_271 ?_
      obtain ⟨v82, h83, hd⟩ := bnd hd
      refine pt_sld G hX h83 dL_law_272 ?_
      refine pt_aload_n G 0 dL_law_273 rfl rfl ?_
      refine pt_iload_n G 3 dL_law_274 rfl rfl ?_
      refine pt_iconst G (2 : Int32) dL_law_275 ci_2 ?_
      refine pt_iadd G dL_law_276 ?_
      obtain ⟨v84, h85, hd⟩ := bnd hd
      refine pt_sld G hX h85 dL_law_277 ?_
      obtain ⟨v87, h86, hd⟩ := bnd hd
      refine X8_bar_v G gL_law_X8_bar ⟨(Nat.le_of_ble_eq_true rfl), (Nat.le_of_ble_eq_true rfl)⟩ h86 dL_law_278 (Nat.le_of_ble_eq_true rfl) ⟨(Nat.le_of_ble_eq_true rfl), (Nat.le_of_ble_eq_true rfl)⟩ ?_
      refine pt_icmp_eq G 751 dL_law_281 (by decide) (fun c88 => ?_) (fun c88 => ?_)
      · replace hd := ifp c88 hd
        refine pt_iinc G 3 (x3 + 5) [(3, .int (x3 + 5)), (0, .ref a0), (1, .ref a1), (2, .ref a2)] dL_law_751 rfl (inc_5 _) (by decide) rfl ?_
        refine pt_goto G 18 dL_law_754 (by decide) ?_
        exact pt_sub [1, 2, 3, 0] rfl (hc (M, (x3 + 5)) (Option.some.inj hd).symm)
      · replace hd := ifn c88 hd
        cases hd
    replace hd := ifn c75 hd
    by_cases c89 : (v13 &&& (31 : Int32)) = (4 : Int32)
    · replace hd := ifp c89 hd
      refine pt_tsIn G 286 dL_law_32 (by rw [c89]; decide) (by rw [c89]; decide) (by rw [c89]; rfl) (by decide) ?_
      refine pt_aload_n G 1 dL_law_286 rfl rfl ?_
      refine pt_aload_n G 0 dL_law_287 rfl rfl ?_
      refine pt_iload_n G 3 dL_law_288 rfl rfl ?_
      refine pt_iconst G (1 : Int32) dL_law_289 ci_1 ?_
      refine pt_iadd G dL_law_290 ?_
      obtain ⟨v90, h91, hd⟩ := bnd hd
      refine pt_sld G hX h91 dL_law_291 ?_
      refine pt_aload_n G 0 dL_law_292 rfl rfl ?_
      refine pt_iload_n G 3 dL_law_293 rfl rfl ?_
      refine pt_iconst G (2 : Int32) dL_law_294 ci_2 ?_
      refine pt_iadd G dL_law_295 ?_
      obtain ⟨v92, h93, hd⟩ := bnd hd
      refine pt_sld G hX h93 dL_law_296 ?_
      obtain ⟨⟨v95, M96⟩, h94, hd⟩ := bnd hd
      replace hd := un2_e hd
      refine X7_loading_v G gL_law_X7_loading ⟨(Nat.le_of_ble_eq_true rfl), (Nat.le_of_ble_eq_true rfl)⟩ h94 dL_law_297 (Nat.le_of_ble_eq_true rfl) ⟨(Nat.le_of_ble_eq_true rfl), (Nat.le_of_ble_eq_true rfl)⟩ ?_
      refine pt_aload_n G 2 dL_law_300 rfl rfl ?_
      refine pt_aload_n G 0 dL_law_301 rfl rfl ?_
      refine pt_iload_n G 3 dL_law_302 rfl rfl ?_
      refine pt_iconst G (1 : Int32) dL_law_303 ci_1 ?_
      refine pt_iadd G dL_law_304 ?_
      obtain ⟨v97, h98, hd⟩ := bnd hd
      refine pt_sld G hX h98 dL_law_305 ?_
      refine pt_aload_n G 0 dL_law_306 rfl rfl ?_
      refine pt_iload_n G 3 dL_law_307 rfl rfl ?_
      refine pt_iconst G (2 : Int32) dL_law_308 ci_2 ?_
      refine pt_iadd G dL_law_309 ?_
      obtain ⟨v99, h100, hd⟩ := bnd hd
      refine pt_sld G hX h100 dL_law_310 ?_
      obtain ⟨⟨v102, M103⟩, h101, hd⟩ := bnd hd
      replace hd := un2_e hd
      refine X8_loading_v G gL_law_X8_loading ⟨(Nat.le_of_ble_eq_true rfl), (Nat.le_of_ble_eq_true rfl)⟩ h101 dL_law_311 (Nat.le_of_ble_eq_true rfl) ⟨(Nat.le_of_ble_eq_true rfl), (Nat.le_of_ble_eq_true rfl)⟩ ?_
      refine pt_icmp_eq G 751 dL_law_314 (by decide) (fun c104 => ?_) (fun c104 => ?_)
      · replace hd := ifp c104 hd
        refine pt_iinc G 3 (x3 + 5) [(3, .int (x3 + 5)), (0, .ref a0), (1, .ref a1), (2, .ref a2)] dL_law_751 rfl (inc_5 _) (by decide) rfl ?_
        refine pt_goto G 18 dL_law_754 (by decide) ?_
        exact pt_sub [1, 2, 3, 0] rfl (hc (M103, (x3 + 5)) (Option.some.inj hd).symm)
      · replace hd := ifn c104 hd
        cases hd
    replace hd := ifn c89 hd
    by_cases c105 : (v13 &&& (31 : Int32)) = (5 : Int32)
    · replace hd := ifp c105 hd
      refine pt_tsIn G 319 dL_law_32 (by rw [c105]; decide) (by rw [c105]; decide) (by rw [c105]; rfl) (by decide) ?_
      refine pt_aload_n G 1 dL_law_319 rfl rfl ?_
      refine pt_aload_n G 0 dL_law_320 rfl rfl ?_
      refine pt_iload_n G 3 dL_law_321 rfl rfl ?_
      refine pt_iconst G (1 : Int32) dL_law_322 ci_1 ?_
      refine pt_iadd G dL_law_323 ?_
      obtain ⟨v106, h107, hd⟩ := bnd hd
      refine pt_sld G hX h107 dL_law_324 ?_
      obtain ⟨⟨v109, M110⟩, h108, hd⟩ := bnd hd
      replace hd := un2_e hd
      refine X7_loadings_v G gL_law_X7_loadings ⟨(Nat.le_of_ble_eq_true rfl), (Nat.le_of_ble_eq_true rfl)⟩ h108 dL_law_325 (Nat.le_of_ble_eq_true rfl) ⟨(Nat.le_of_ble_eq_true rfl), (Nat.le_of_ble_eq_true rfl)⟩ ?_
      refine pt_aload_n G 2 dL_law_328 rfl rfl ?_
      refine pt_aload_n G 0 dL_law_329 rfl rfl ?_
      refine pt_iload_n G 3 dL_law_330 rfl rfl ?_
      refine pt_iconst G (1 : Int32) dL_law_331 ci_1 ?_
      refine pt_iadd G dL_law_332 ?_
      obtain ⟨v111, h112, hd⟩ := bnd hd
      refine pt_sld G hX h112 dL_law_333 ?_
      obtain ⟨⟨v114, M115⟩, h113, hd⟩ := bnd hd
      replace hd := un2_e hd
      refine X8_loadings_v G gL_law_X8_loadings ⟨(Nat.le_of_ble_eq_true rfl), (Nat.le_of_ble_eq_true rfl)⟩ h113 dL_law_334 (Nat.le_of_ble_eq_true rfl) ⟨(Nat.le_of_ble_eq_true rfl), (Nat.le_of_ble_eq_true rfl)⟩ ?_
      refine pt_icmp_eq G 751 dL_law_337 (by decide) (fun c116 => ?_) (fun c116 => ?_)
      · replace hd := ifp c116 hd
        refine pt_iinc G 3 (x3 + 5) [(3, .int (x3 + 5)), (0, .ref a0), (1, .ref a1), (2, .ref a2)] dL_law_751 rfl (inc_5 _) (by decide) rfl ?_
        refine pt_goto G 18 dL_law_754 (by decide) ?_
        exact pt_sub [1, 2, 3, 0] rfl (hc (M115, (x3 + 5)) (Option.some.inj hd).symm)
      · replace hd := ifn c116 hd
        cases hd
    replace hd := ifn c105 hd
    by_cases c117 : (v13 &&& (31 : Int32)) = (6 : Int32)
    · replace hd := ifp c117 hd
      refine pt_tsIn G 342 dL_law_32 (by rw [c117]; decide) (by rw [c117]; decide) (by rw [c117]; rfl) (by decide) ?_
      refine pt_aload_n G 1 dL_law_342 rfl rfl ?_
      refine pt_aload_n G 0 dL_law_343 rfl rfl ?_
      refine pt_iload_n G 3 dL_law_344 rfl rfl ?_
      refine pt_iconst G (1 : Int32) dL_law_345 ci_1 ?_
      refine pt_iadd G dL_law_346 ?_
      obtain ⟨v118, h119, hd⟩ := bnd hd
      refine pt_sld G hX h119 dL_law_347 ?_
      refine pt_aload_n G 0 dL_law_348 rfl rfl ?_
      refine pt_iload_n G 3 dL_law_349 rfl rfl ?_
      refine pt_iconst G (2 : Int32) dL_law_350 ci_2 ?_
      refine pt_iadd G dL_law_351 ?_
      obtain ⟨v120, h121, hd⟩ := bnd hd
      refine pt_sld G hX h121 dL_law_352 ?_
      refine pt_aload_n G 0 dL_law_353 rfl rfl ?_
      refine pt_iload_n G 3 dL_law_354 rfl rfl ?_
      refine pt_iconst G (3 : Int32) dL_law_355 ci_3 ?_
      refine pt_iadd G dL_law_356 ?_
      obtain ⟨v122, h123, hd⟩ := bnd hd
      refine pt_sld G hX h123 dL_law_357 ?_
      refine pt_aload_n G 0 dL_law_358 rfl rfl ?_
      refine pt_iload_n G 3 dL_law_359 rfl rfl ?_
      refine pt_iconst G (4 : Int32) dL_law_360 ci_4 ?_
      refine pt_iadd G dL_law_361 ?_
      obtain ⟨v124, h125, hd⟩ := bnd hd
      refine pt_sld G hX h125 dL_law_362 ?_
      obtain ⟨⟨v127, M128⟩, h126, hd⟩ := bnd hd
      replace hd := un2_e hd
      refine X7_move_v G gL_law_X7_move ⟨(Nat.le_of_ble_eq_true rfl), (Nat.le_of_ble_eq_true rfl)⟩ h126 dL_law_363 (Nat.le_of_ble_eq_true rfl) ⟨(Nat.le_of_ble_eq_true rfl), (Nat.le_of_ble_eq_true rfl)⟩ ?_
      refine pt_aload_n G 2 dL_law_366 rfl rfl ?_
      refine pt_aload_n G 0 dL_law_367 rfl rfl ?_
      refine pt_iload_n G 3 dL_law_368 rfl rfl ?_
      refine pt_iconst G (1 : Int32) dL_law_369 ci_1 ?_
      refine pt_iadd G dL_law_370 ?_
      obtain ⟨v129, h130, hd⟩ := bnd hd
      refine pt_sld G hX h130 dL_law_371 ?_
      refine pt_aload_n G 0 dL_law_372 rfl rfl ?_
      refine pt_iload_n G 3 dL_law_373 rfl rfl ?_
      refine pt_iconst G (2 : Int32) dL_law_374 ci_2 ?_
      refine pt_iadd G dL_law_375 ?_
      obtain ⟨v131, h132, hd⟩ := bnd hd
      refine pt_sld G hX h132 dL_law_376 ?_
      refine pt_aload_n G 0 dL_law_377 rfl rfl ?_
      refine pt_iload_n G 3 dL_law_378 rfl rfl ?_
      refine pt_iconst G (3 : Int32) dL_law_379 ci_3 ?_
      refine pt_iadd G dL_law_380 ?_
      obtain ⟨v133, h134, hd⟩ := bnd hd
      refine pt_sld G hX h134 dL_law_381 ?_
      refine pt_aload_n G 0 dL_law_382 rfl rfl ?_
      refine pt_iload_n G 3 dL_law_383 rfl rfl ?_
      refine pt_iconst G (4 : Int32) dL_law_384 ci_4 ?_
      refine pt_iadd G dL_law_385 ?_
      obtain ⟨v135, h136, hd⟩ := bnd hd
      refine pt_sld G hX h136 dL_law_386 ?_
      obtain ⟨⟨v138, M139⟩, h137, hd⟩ := bnd hd
      replace hd := un2_e hd
      refine X8_move_v G gL_law_X8_move ⟨(Nat.le_of_ble_eq_true rfl), (Nat.le_of_ble_eq_true rfl)⟩ h137 dL_law_387 (Nat.le_of_ble_eq_true rfl) ⟨(Nat.le_of_ble_eq_true rfl), (Nat.le_of_ble_eq_true rfl)⟩ ?_
      refine pt_icmp_eq G 751 dL_law_390 (by decide) (fun c140 => ?_) (fun c140 => ?_)
      · replace hd := ifp c140 hd
        refine pt_iinc G 3 (x3 + 5) [(3, .int (x3 + 5)), (0, .ref a0), (1, .ref a1), (2, .ref a2)] dL_law_751 rfl (inc_5 _) (by decide) rfl ?_
        refine pt_goto G 18 dL_law_754 (by decide) ?_
        exact pt_sub [1, 2, 3, 0] rfl (hc (M139, (x3 + 5)) (Option.some.inj hd).symm)
      · replace hd := ifn c140 hd
        cases hd
    replace hd := ifn c117 hd
    by_cases c141 : (v13 &&& (31 : Int32)) = (7 : Int32)
    · replace hd := ifp c141 hd
      refine pt_tsIn G 395 dL_law_32 (by rw [c141]; decide) (by rw [c141]; decide) (by rw [c141]; rfl) (by decide) ?_
      refine pt_aload_n G 1 dL_law_395 rfl rfl ?_
      refine pt_aload_n G 0 dL_law_396 rfl rfl ?_
      refine pt_iload_n G 3 dL_law_397 rfl rfl ?_
      refine pt_iconst G (1 : Int32) dL_law_398 ci_1 ?_
      refine pt_iadd G dL_law_399 ?_
      obtain ⟨v142, h143, hd⟩ := bnd hd
      refine pt_sld G hX h143 dL_law_400 ?_
      obtain ⟨⟨v145, M146⟩, h144, hd⟩ := bnd hd
      replace hd := un2_e hd
      refine X7_drop_v G gL_law_X7_drop ⟨(Nat.le_of_ble_eq_true rfl), (Nat.le_of_ble_eq_true rfl)⟩ h144 dL_law_401 (Nat.le_of_ble_eq_true rfl) ⟨(Nat.le_of_ble_eq_true rfl), (Nat.le_of_ble_eq_true rfl)⟩ ?_
      refine pt_aload_n G 2 dL_law_404 rfl rfl ?_
      refine pt_aload_n G 0 dL_law_405 rfl rfl ?_
      refine pt_iload_n G 3 dL_law_406 rfl rfl ?_
      refine pt_iconst G (1 : Int32) dL_law_407 ci_1 ?_
      refine pt_iadd G dL_law_408 ?_
      obtain ⟨v147, h148, hd⟩ := bnd hd
      refine pt_sld G hX h148 dL_law_409 ?_
      obtain ⟨⟨v150, M151⟩, h149, hd⟩ := bnd hd
      replace hd := un2_e hd
      refine X8_drop_v G gL_law_X8_drop ⟨(Nat.le_of_ble_eq_true rfl), (Nat.le_of_ble_eq_true rfl)⟩ h149 dL_law_410 (Nat.le_of_ble_eq_true rfl) ⟨(Nat.le_of_ble_eq_true rfl), (Nat.le_of_ble_eq_true rfl)⟩ ?_
      refine pt_icmp_eq G 751 dL_law_413 (by decide) (fun c152 => ?_) (fun c152 => ?_)
      · replace hd := ifp c152 hd
        refine pt_iinc G 3 (x3 + 5) [(3, .int (x3 + 5)), (0, .ref a0), (1, .ref a1), (2, .ref a2)] dL_law_751 rfl (inc_5 _) (by decide) rfl ?_
        refine pt_goto G 18 dL_law_754 (by decide) ?_
        exact pt_sub [1, 2, 3, 0] rfl (hc (M151, (x3 + 5)) (Option.some.inj hd).symm)
      · replace hd := ifn c152 hd
        cases hd
    replace hd := ifn c141 hd
    by_cases c153 : (v13 &&& (31 : Int32)) = (8 : Int32)
    · replace hd := ifp c153 hd
      refine pt_tsIn G 418 dL_law_32 (by rw [c153]; decide) (by rw [c153]; decide) (by rw [c153]; rfl) (by decide) ?_
      refine pt_aload_n G 1 dL_law_418 rfl rfl ?_
      refine pt_aload_n G 0 dL_law_419 rfl rfl ?_
      refine pt_iload_n G 3 dL_law_420 rfl rfl ?_
      refine pt_iconst G (1 : Int32) dL_law_421 ci_1 ?_
      refine pt_iadd G dL_law_422 ?_
      obtain ⟨v154, h155, hd⟩ := bnd hd
      refine pt_sld G hX h155 dL_law_423 ?_
      refine pt_aload_n G 0 dL_law_424 rfl rfl ?_
      refine pt_iload_n G 3 dL_law_425 rfl rfl ?_
      refine pt_iconst G (2 : Int32) dL_law_426 ci_2 ?_
      refine pt_iadd G dL_law_427 ?_
      obtain ⟨v156, h157, hd⟩ := bnd hd
      refine pt_sld G hX h157 dL_law_428 ?_
      obtain ⟨⟨v159, M160⟩, h158, hd⟩ := bnd hd
      replace hd := un2_e hd
      refine X7_shift_v G gL_law_X7_shift ⟨(Nat.le_of_ble_eq_true rfl), (Nat.le_of_ble_eq_true rfl)⟩ h158 dL_law_429 (Nat.le_of_ble_eq_true rfl) ⟨(Nat.le_of_ble_eq_true rfl), (Nat.le_of_ble_eq_true rfl)⟩ ?_
      refine pt_aload_n G 2 dL_law_432 rfl rfl ?_
      refine pt_aload_n G 0 dL_law_433 rfl rfl ?_
      refine pt_iload_n G 3 dL_law_434 rfl rfl ?_
      refine pt_iconst G (1 : Int32) dL_law_435 ci_1 ?_
      refine pt_iadd G dL_law_436 ?_
      obtain ⟨v161, h162, hd⟩ := bnd hd
      refine pt_sld G hX h162 dL_law_437 ?_
      refine pt_aload_n G 0 dL_law_438 rfl rfl ?_
      refine pt_iload_n G 3 dL_law_439 rfl rfl ?_
      refine pt_iconst G (2 : Int32) dL_law_440 ci_2 ?_
      refine pt_iadd G dL_law_441 ?_
      obtain ⟨v163, h164, hd⟩ := bnd hd
      refine pt_sld G hX h164 dL_law_442 ?_
      obtain ⟨⟨v166, M167⟩, h165, hd⟩ := bnd hd
      replace hd := un2_e hd
      refine X8_shift_v G gL_law_X8_shift ⟨(Nat.le_of_ble_eq_true rfl), (Nat.le_of_ble_eq_true rfl)⟩ h165 dL_law_443 (Nat.le_of_ble_eq_true rfl) ⟨(Nat.le_of_ble_eq_true rfl), (Nat.le_of_ble_eq_true rfl)⟩ ?_
      refine pt_icmp_eq G 751 dL_law_446 (by decide) (fun c168 => ?_) (fun c168 => ?_)
      · replace hd := ifp c168 hd
        refine pt_iinc G 3 (x3 + 5) [(3, .int (x3 + 5)), (0, .ref a0), (1, .ref a1), (2, .ref a2)] dL_law_751 rfl (inc_5 _) (by decide) rfl ?_
        refine pt_goto G 18 dL_law_754 (by decide) ?_
        exact pt_sub [1, 2, 3, 0] rfl (hc (M167, (x3 + 5)) (Option.some.inj hd).symm)
      · replace hd := ifn c168 hd
        cases hd
    replace hd := ifn c153 hd
    by_cases c169 : (v13 &&& (31 : Int32)) = (9 : Int32)
    · replace hd := ifp c169 hd
      refine pt_tsIn G 451 dL_law_32 (by rw [c169]; decide) (by rw [c169]; decide) (by rw [c169]; rfl) (by decide) ?_
      refine pt_aload_n G 1 dL_law_451 rfl rfl ?_
      refine pt_aload_n G 0 dL_law_452 rfl rfl ?_
      refine pt_iload_n G 3 dL_law_453 rfl rfl ?_
      refine pt_iconst G (1 : Int32) dL_law_454 ci_1 ?_
      refine pt_iadd G dL_law_455 ?_
      obtain ⟨v170, h171, hd⟩ := bnd hd
      refine pt_sld G hX h171 dL_law_456 ?_
      refine pt_aload_n G 0 dL_law_457 rfl rfl ?_
      refine pt_iload_n G 3 dL_law_458 rfl rfl ?_
      refine pt_iconst G (2 : Int32) dL_law_459 ci_2 ?_
      refine pt_iadd G dL_law_460 ?_
      obtain ⟨v172, h173, hd⟩ := bnd hd
      refine pt_sld G hX h173 dL_law_461 ?_
      obtain ⟨⟨v175, M176⟩, h174, hd⟩ := bnd hd
      replace hd := un2_e hd
      refine X7_told_v G gL_law_X7_told ⟨(Nat.le_of_ble_eq_true rfl), (Nat.le_of_ble_eq_true rfl)⟩ h174 dL_law_462 (Nat.le_of_ble_eq_true rfl) ⟨(Nat.le_of_ble_eq_true rfl), (Nat.le_of_ble_eq_true rfl)⟩ ?_
      refine pt_aload_n G 2 dL_law_465 rfl rfl ?_
      refine pt_aload_n G 0 dL_law_466 rfl rfl ?_
      refine pt_iload_n G 3 dL_law_467 rfl rfl ?_
      refine pt_iconst G (1 : Int32) dL_law_468 ci_1 ?_
      refine pt_iadd G dL_law_469 ?_
      obtain ⟨v177, h178, hd⟩ := bnd hd
      refine pt_sld G hX h178 dL_law_470 ?_
      refine pt_aload_n G 0 dL_law_471 rfl rfl ?_
      refine pt_iload_n G 3 dL_law_472 rfl rfl ?_
      refine pt_iconst G (2 : Int32) dL_law_473 ci_2 ?_
      refine pt_iadd G dL_law_474 ?_
      obtain ⟨v179, h180, hd⟩ := bnd hd
      refine pt_sld G hX h180 dL_law_475 ?_
      obtain ⟨⟨v182, M183⟩, h181, hd⟩ := bnd hd
      replace hd := un2_e hd
      refine X8_told_v G gL_law_X8_told ⟨(Nat.le_of_ble_eq_true rfl), (Nat.le_of_ble_eq_true rfl)⟩ h181 dL_law_476 (Nat.le_of_ble_eq_true rfl) ⟨(Nat.le_of_ble_eq_true rfl), (Nat.le_of_ble_eq_true rfl)⟩ ?_
      refine pt_icmp_eq G 751 dL_law_479 (by decide) (fun c184 => ?_) (fun c184 => ?_)
      · replace hd := ifp c184 hd
        refine pt_iinc G 3 (x3 + 5) [(3, .int (x3 + 5)), (0, .ref a0), (1, .ref a1), (2, .ref a2)] dL_law_751 rfl (inc_5 _) (by decide) rfl ?_
        refine pt_goto G 18 dL_law_754 (by decide) ?_
        exact pt_sub [1, 2, 3, 0] rfl (hc (M183, (x3 + 5)) (Option.some.inj hd).symm)
      · replace hd := ifn c184 hd
        cases hd
    replace hd := ifn c169 hd
    by_cases c185 : (v13 &&& (31 : Int32)) = (10 : Int32)
    · replace hd := ifp c185 hd
      refine pt_tsIn G 484 dL_law_32 (by rw [c185]; decide) (by rw [c185]; decide) (by rw [c185]; rfl) (by decide) ?_
      refine pt_aload_n G 1 dL_law_484 rfl rfl ?_
      refine pt_aload_n G 0 dL_law_485 rfl rfl ?_
      refine pt_iload_n G 3 dL_law_486 rfl rfl ?_
      refine pt_iconst G (1 : Int32) dL_law_487 ci_1 ?_
      refine pt_iadd G dL_law_488 ?_
      obtain ⟨v186, h187, hd⟩ := bnd hd
      refine pt_sld G hX h187 dL_law_489 ?_
      refine pt_aload_n G 0 dL_law_490 rfl rfl ?_
      refine pt_iload_n G 3 dL_law_491 rfl rfl ?_
      refine pt_iconst G (2 : Int32) dL_law_492 ci_2 ?_
      refine pt_iadd G dL_law_493 ?_
      obtain ⟨v188, h189, hd⟩ := bnd hd
      refine pt_sld G hX h189 dL_law_494 ?_
      obtain ⟨⟨v191, M192⟩, h190, hd⟩ := bnd hd
      replace hd := un2_e hd
      refine X7_height_v G gL_law_X7_height ⟨(Nat.le_of_ble_eq_true rfl), (Nat.le_of_ble_eq_true rfl)⟩ h190 dL_law_495 (Nat.le_of_ble_eq_true rfl) ⟨(Nat.le_of_ble_eq_true rfl), (Nat.le_of_ble_eq_true rfl)⟩ ?_
      refine pt_aload_n G 2 dL_law_498 rfl rfl ?_
      refine pt_aload_n G 0 dL_law_499 rfl rfl ?_
      refine pt_iload_n G 3 dL_law_500 rfl rfl ?_
      refine pt_iconst G (1 : Int32) dL_law_501 ci_1 ?_
      refine pt_iadd G dL_law_502 ?_
      obtain ⟨v193, h194, hd⟩ := bnd hd
      refine pt_sld G hX h194 dL_law_503 ?_
      refine pt_aload_n G 0 dL_law_504 rfl rfl ?_
      refine pt_iload_n G 3 dL_law_505 rfl rfl ?_
      refine pt_iconst G (2 : Int32) dL_law_506 ci_2 ?_
      refine pt_iadd G dL_law_507 ?_
      obtain ⟨v195, h196, hd⟩ := bnd hd
      refine pt_sld G hX h196 dL_law_508 ?_
      obtain ⟨⟨v198, M199⟩, h197, hd⟩ := bnd hd
      replace hd := un2_e hd
      refine X8_height_v G gL_law_X8_height ⟨(Nat.le_of_ble_eq_true rfl), (Nat.le_of_ble_eq_true rfl)⟩ h197 dL_law_509 (Nat.le_of_ble_eq_true rfl) ⟨(Nat.le_of_ble_eq_true rfl), (Nat.le_of_ble_eq_true rfl)⟩ ?_
      refine pt_icmp_eq G 751 dL_law_512 (by decide) (fun c200 => ?_) (fun c200 => ?_)
      · replace hd := ifp c200 hd
        refine pt_iinc G 3 (x3 + 5) [(3, .int (x3 + 5)), (0, .ref a0), (1, .ref a1), (2, .ref a2)] dL_law_751 rfl (inc_5 _) (by decide) rfl ?_
        refine pt_goto G 18 dL_law_754 (by decide) ?_
        exact pt_sub [1, 2, 3, 0] rfl (hc (M199, (x3 + 5)) (Option.some.inj hd).symm)
      · replace hd := ifn c200 hd
        cases hd
    replace hd := ifn c185 hd
    by_cases c201 : (v13 &&& (31 : Int32)) = (11 : Int32)
    · replace hd := ifp c201 hd
      refine pt_tsIn G 517 dL_law_32 (by rw [c201]; decide) (by rw [c201]; decide) (by rw [c201]; rfl) (by decide) ?_
      refine pt_aload_n G 1 dL_law_517 rfl rfl ?_
      refine pt_aload_n G 0 dL_law_518 rfl rfl ?_
      refine pt_iload_n G 3 dL_law_519 rfl rfl ?_
      refine pt_iconst G (1 : Int32) dL_law_520 ci_1 ?_
      refine pt_iadd G dL_law_521 ?_
      obtain ⟨v202, h203, hd⟩ := bnd hd
      refine pt_sld G hX h203 dL_law_522 ?_
      refine pt_aload_n G 0 dL_law_523 rfl rfl ?_
      refine pt_iload_n G 3 dL_law_524 rfl rfl ?_
      refine pt_iconst G (2 : Int32) dL_law_525 ci_2 ?_
      refine pt_iadd G dL_law_526 ?_
      obtain ⟨v204, h205, hd⟩ := bnd hd
      refine pt_sld G hX h205 dL_law_527 ?_
      refine pt_aload_n G 0 dL_law_528 rfl rfl ?_
      refine pt_iload_n G 3 dL_law_529 rfl rfl ?_
      refine pt_iconst G (3 : Int32) dL_law_530 ci_3 ?_
      refine pt_iadd G dL_law_531 ?_
      obtain ⟨v206, h207, hd⟩ := bnd hd
      refine pt_sld G hX h207 dL_law_532 ?_
      obtain ⟨⟨v209, M210⟩, h208, hd⟩ := bnd hd
      replace hd := un2_e hd
      refine X7_strike_v G gL_law_X7_strike ⟨(Nat.le_of_ble_eq_true rfl), (Nat.le_of_ble_eq_true rfl)⟩ h208 dL_law_533 (Nat.le_of_ble_eq_true rfl) ⟨(Nat.le_of_ble_eq_true rfl), (Nat.le_of_ble_eq_true rfl)⟩ ?_
      refine pt_aload_n G 2 dL_law_536 rfl rfl ?_
      refine pt_aload_n G 0 dL_law_537 rfl rfl ?_
      refine pt_iload_n G 3 dL_law_538 rfl rfl ?_
      refine pt_iconst G (1 : Int32) dL_law_539 ci_1 ?_
      refine pt_iadd G dL_law_540 ?_
      obtain ⟨v211, h212, hd⟩ := bnd hd
      refine pt_sld G hX h212 dL_law_541 ?_
      refine pt_aload_n G 0 dL_law_542 rfl rfl ?_
      refine pt_iload_n G 3 dL_law_543 rfl rfl ?_
      refine pt_iconst G (2 : Int32) dL_law_544 ci_2 ?_
      refine pt_iadd G dL_law_545 ?_
      obtain ⟨v213, h214, hd⟩ := bnd hd
      refine pt_sld G hX h214 dL_law_546 ?_
      refine pt_aload_n G 0 dL_law_547 rfl rfl ?_
      refine pt_iload_n G 3 dL_law_548 rfl rfl ?_
      refine pt_iconst G (3 : Int32) dL_law_549 ci_3 ?_
      refine pt_iadd G dL_law_550 ?_
      obtain ⟨v215, h216, hd⟩ := bnd hd
      refine pt_sld G hX h216 dL_law_551 ?_
      obtain ⟨⟨v218, M219⟩, h217, hd⟩ := bnd hd
      replace hd := un2_e hd
      refine X8_strike_v G gL_law_X8_strike ⟨(Nat.le_of_ble_eq_true rfl), (Nat.le_of_ble_eq_true rfl)⟩ h217 dL_law_552 (Nat.le_of_ble_eq_true rfl) ⟨(Nat.le_of_ble_eq_true rfl), (Nat.le_of_ble_eq_true rfl)⟩ ?_
      refine pt_icmp_eq G 751 dL_law_555 (by decide) (fun c220 => ?_) (fun c220 => ?_)
      · replace hd := ifp c220 hd
        refine pt_iinc G 3 (x3 + 5) [(3, .int (x3 + 5)), (0, .ref a0), (1, .ref a1), (2, .ref a2)] dL_law_751 rfl (inc_5 _) (by decide) rfl ?_
        refine pt_goto G 18 dL_law_754 (by decide) ?_
        exact pt_sub [1, 2, 3, 0] rfl (hc (M219, (x3 + 5)) (Option.some.inj hd).symm)
      · replace hd := ifn c220 hd
        cases hd
    replace hd := ifn c201 hd
    by_cases c221 : (v13 &&& (31 : Int32)) = (12 : Int32)
    · replace hd := ifp c221 hd
      refine pt_tsIn G 560 dL_law_32 (by rw [c221]; decide) (by rw [c221]; decide) (by rw [c221]; rfl) (by decide) ?_
      refine pt_aload_n G 1 dL_law_560 rfl rfl ?_
      refine pt_aload_n G 0 dL_law_561 rfl rfl ?_
      refine pt_iload_n G 3 dL_law_562 rfl rfl ?_
      refine pt_iconst G (1 : Int32) dL_law_563 ci_1 ?_
      refine pt_iadd G dL_law_564 ?_
      obtain ⟨v222, h223, hd⟩ := bnd hd
      refine pt_sld G hX h223 dL_law_565 ?_
      refine pt_aload_n G 0 dL_law_566 rfl rfl ?_
      refine pt_iload_n G 3 dL_law_567 rfl rfl ?_
      refine pt_iconst G (2 : Int32) dL_law_568 ci_2 ?_
      refine pt_iadd G dL_law_569 ?_
      obtain ⟨v224, h225, hd⟩ := bnd hd
      refine pt_sld G hX h225 dL_law_570 ?_
      obtain ⟨⟨v227, M228⟩, h226, hd⟩ := bnd hd
      replace hd := un2_e hd
      refine X7_clash_v G gL_law_X7_clash ⟨(Nat.le_of_ble_eq_true rfl), (Nat.le_of_ble_eq_true rfl)⟩ h226 dL_law_571 (Nat.le_of_ble_eq_true rfl) ⟨(Nat.le_of_ble_eq_true rfl), (Nat.le_of_ble_eq_true rfl)⟩ ?_
      refine pt_aload_n G 2 dL_law_574 rfl rfl ?_
      refine pt_aload_n G 0 dL_law_575 rfl rfl ?_
      refine pt_iload_n G 3 dL_law_576 rfl rfl ?_
      refine pt_iconst G (1 : Int32) dL_law_577 ci_1 ?_
      refine pt_iadd G dL_law_578 ?_
      obtain ⟨v229, h230, hd⟩ := bnd hd
      refine pt_sld G hX h230 dL_law_579 ?_
      refine pt_aload_n G 0 dL_law_580 rfl rfl ?_
      refine pt_iload_n G 3 dL_law_581 rfl rfl ?_
      refine pt_iconst G (2 : Int32) dL_law_582 ci_2 ?_
      refine pt_iadd G dL_law_583 ?_
      obtain ⟨v231, h232, hd⟩ := bnd hd
      refine pt_sld G hX h232 dL_law_584 ?_
      obtain ⟨⟨v234, M235⟩, h233, hd⟩ := bnd hd
      replace hd := un2_e hd
      refine X8_clash_v G gL_law_X8_clash ⟨(Nat.le_of_ble_eq_true rfl), (Nat.le_of_ble_eq_true rfl)⟩ h233 dL_law_585 (Nat.le_of_ble_eq_true rfl) ⟨(Nat.le_of_ble_eq_true rfl), (Nat.le_of_ble_eq_true rfl)⟩ ?_
      refine pt_icmp_eq G 751 dL_law_588 (by decide) (fun c236 => ?_) (fun c236 => ?_)
      · replace hd := ifp c236 hd
        refine pt_iinc G 3 (x3 + 5) [(3, .int (x3 + 5)), (0, .ref a0), (1, .ref a1), (2, .ref a2)] dL_law_751 rfl (inc_5 _) (by decide) rfl ?_
        refine pt_goto G 18 dL_law_754 (by decide) ?_
        exact pt_sub [1, 2, 3, 0] rfl (hc (M235, (x3 + 5)) (Option.some.inj hd).symm)
      · replace hd := ifn c236 hd
        cases hd
    replace hd := ifn c221 hd
    by_cases c237 : (v13 &&& (31 : Int32)) = (13 : Int32)
    · replace hd := ifp c237 hd
      refine pt_tsIn G 593 dL_law_32 (by rw [c237]; decide) (by rw [c237]; decide) (by rw [c237]; rfl) (by decide) ?_
      refine pt_aload_n G 1 dL_law_593 rfl rfl ?_
      refine pt_aload_n G 0 dL_law_594 rfl rfl ?_
      refine pt_iload_n G 3 dL_law_595 rfl rfl ?_
      refine pt_iconst G (1 : Int32) dL_law_596 ci_1 ?_
      refine pt_iadd G dL_law_597 ?_
      obtain ⟨v238, h239, hd⟩ := bnd hd
      refine pt_sld G hX h239 dL_law_598 ?_
      refine pt_aload_n G 0 dL_law_599 rfl rfl ?_
      refine pt_iload_n G 3 dL_law_600 rfl rfl ?_
      refine pt_iconst G (2 : Int32) dL_law_601 ci_2 ?_
      refine pt_iadd G dL_law_602 ?_
      obtain ⟨v240, h241, hd⟩ := bnd hd
      refine pt_sld G hX h241 dL_law_603 ?_
      obtain ⟨⟨v243, M244⟩, h242, hd⟩ := bnd hd
      replace hd := un2_e hd
      refine X7_often_v G gL_law_X7_often ⟨(Nat.le_of_ble_eq_true rfl), (Nat.le_of_ble_eq_true rfl)⟩ h242 dL_law_604 (Nat.le_of_ble_eq_true rfl) ⟨(Nat.le_of_ble_eq_true rfl), (Nat.le_of_ble_eq_true rfl)⟩ ?_
      refine pt_aload_n G 2 dL_law_607 rfl rfl ?_
      refine pt_aload_n G 0 dL_law_608 rfl rfl ?_
      refine pt_iload_n G 3 dL_law_609 rfl rfl ?_
      refine pt_iconst G (1 : Int32) dL_law_610 ci_1 ?_
      refine pt_iadd G dL_law_611 ?_
      obtain ⟨v245, h246, hd⟩ := bnd hd
      refine pt_sld G hX h246 dL_law_612 ?_
      refine pt_aload_n G 0 dL_law_613 rfl rfl ?_
      refine pt_iload_n G 3 dL_law_614 rfl rfl ?_
      refine pt_iconst G (2 : Int32) dL_law_615 ci_2 ?_
      refine pt_iadd G dL_law_616 ?_
      obtain ⟨v247, h248, hd⟩ := bnd hd
      refine pt_sld G hX h248 dL_law_617 ?_
      obtain ⟨⟨v250, M251⟩, h249, hd⟩ := bnd hd
      replace hd := un2_e hd
      refine X8_often_v G gL_law_X8_often ⟨(Nat.le_of_ble_eq_true rfl), (Nat.le_of_ble_eq_true rfl)⟩ h249 dL_law_618 (Nat.le_of_ble_eq_true rfl) ⟨(Nat.le_of_ble_eq_true rfl), (Nat.le_of_ble_eq_true rfl)⟩ ?_
      refine pt_icmp_eq G 751 dL_law_621 (by decide) (fun c252 => ?_) (fun c252 => ?_)
      · replace hd := ifp c252 hd
        refine pt_iinc G 3 (x3 + 5) [(3, .int (x3 + 5)), (0, .ref a0), (1, .ref a1), (2, .ref a2)] dL_law_751 rfl (inc_5 _) (by decide) rfl ?_
        refine pt_goto G 18 dL_law_754 (by decide) ?_
        exact pt_sub [1, 2, 3, 0] rfl (hc (M251, (x3 + 5)) (Option.some.inj hd).symm)
      · replace hd := ifn c252 hd
        cases hd
    replace hd := ifn c237 hd
    by_cases c253 : (v13 &&& (31 : Int32)) = (14 : Int32)
    · replace hd := ifp c253 hd
      refine pt_tsIn G 626 dL_law_32 (by rw [c253]; decide) (by rw [c253]; decide) (by rw [c253]; rfl) (by decide) ?_
      refine pt_aload_n G 1 dL_law_626 rfl rfl ?_
      refine pt_aload_n G 0 dL_law_627 rfl rfl ?_
      refine pt_iload_n G 3 dL_law_628 rfl rfl ?_
      refine pt_iconst G (1 : Int32) dL_law_629 ci_1 ?_
      refine pt_iadd G dL_law_630 ?_
      obtain ⟨v254, h255, hd⟩ := bnd hd
      refine pt_sld G hX h255 dL_law_631 ?_
      obtain ⟨⟨v257, M258⟩, h256, hd⟩ := bnd hd
      replace hd := un2_e hd
      refine X7_hands_v G gL_law_X7_hands ⟨(Nat.le_of_ble_eq_true rfl), (Nat.le_of_ble_eq_true rfl)⟩ h256 dL_law_632 (Nat.le_of_ble_eq_true rfl) ⟨(Nat.le_of_ble_eq_true rfl), (Nat.le_of_ble_eq_true rfl)⟩ ?_
      refine pt_aload_n G 2 dL_law_635 rfl rfl ?_
      refine pt_aload_n G 0 dL_law_636 rfl rfl ?_
      refine pt_iload_n G 3 dL_law_637 rfl rfl ?_
      refine pt_iconst G (1 : Int32) dL_law_638 ci_1 ?_
      refine pt_iadd G dL_law_639 ?_
      obtain ⟨v259, h260, hd⟩ := bnd hd
      refine pt_sld G hX h260 dL_law_640 ?_
      obtain ⟨⟨v262, M263⟩, h261, hd⟩ := bnd hd
      replace hd := un2_e hd
      refine X8_hands_v G gL_law_X8_hands ⟨(Nat.le_of_ble_eq_true rfl), (Nat.le_of_ble_eq_true rfl)⟩ h261 dL_law_641 (Nat.le_of_ble_eq_true rfl) ⟨(Nat.le_of_ble_eq_true rfl), (Nat.le_of_ble_eq_true rfl)⟩ ?_
      refine pt_icmp_eq G 751 dL_law_644 (by decide) (fun c264 => ?_) (fun c264 => ?_)
      · replace hd := ifp c264 hd
        refine pt_iinc G 3 (x3 + 5) [(3, .int (x3 + 5)), (0, .ref a0), (1, .ref a1), (2, .ref a2)] dL_law_751 rfl (inc_5 _) (by decide) rfl ?_
        refine pt_goto G 18 dL_law_754 (by decide) ?_
        exact pt_sub [1, 2, 3, 0] rfl (hc (M263, (x3 + 5)) (Option.some.inj hd).symm)
      · replace hd := ifn c264 hd
        cases hd
    replace hd := ifn c253 hd
    by_cases c265 : (v13 &&& (31 : Int32)) = (15 : Int32)
    · replace hd := ifp c265 hd
      refine pt_tsIn G 649 dL_law_32 (by rw [c265]; decide) (by rw [c265]; decide) (by rw [c265]; rfl) (by decide) ?_
      refine pt_aload_n G 1 dL_law_649 rfl rfl ?_
      refine pt_aload_n G 0 dL_law_650 rfl rfl ?_
      refine pt_iload_n G 3 dL_law_651 rfl rfl ?_
      refine pt_iconst G (1 : Int32) dL_law_652 ci_1 ?_
      refine pt_iadd G dL_law_653 ?_
      obtain ⟨v266, h267, hd⟩ := bnd hd
      refine pt_sld G hX h267 dL_law_654 ?_
      refine pt_aload_n G 0 dL_law_655 rfl rfl ?_
      refine pt_iload_n G 3 dL_law_656 rfl rfl ?_
      refine pt_iconst G (2 : Int32) dL_law_657 ci_2 ?_
      refine pt_iadd G dL_law_658 ?_
      obtain ⟨v268, h269, hd⟩ := bnd hd
      refine pt_sld G hX h269 dL_law_659 ?_
      obtain ⟨⟨v271, M272⟩, h270, hd⟩ := bnd hd
      replace hd := un2_e hd
      refine X7_crew_v G gL_law_X7_crew ⟨(Nat.le_of_ble_eq_true rfl), (Nat.le_of_ble_eq_true rfl)⟩ h270 dL_law_660 (Nat.le_of_ble_eq_true rfl) ⟨(Nat.le_of_ble_eq_true rfl), (Nat.le_of_ble_eq_true rfl)⟩ ?_
      refine pt_aload_n G 2 dL_law_663 rfl rfl ?_
      refine pt_aload_n G 0 dL_law_664 rfl rfl ?_
      refine pt_iload_n G 3 dL_law_665 rfl rfl ?_
      refine pt_iconst G (1 : Int32) dL_law_666 ci_1 ?_
      refine pt_iadd G dL_law_667 ?_
      obtain ⟨v273, h274, hd⟩ := bnd hd
      refine pt_sld G hX h274 dL_law_668 ?_
      refine pt_aload_n G 0 dL_law_669 rfl rfl ?_
      refine pt_iload_n G 3 dL_law_670 rfl rfl ?_
      refine pt_iconst G (2 : Int32) dL_law_671 ci_2 ?_
      refine pt_iadd G dL_law_672 ?_
      obtain ⟨v275, h276, hd⟩ := bnd hd
      refine pt_sld G hX h276 dL_law_673 ?_
      obtain ⟨⟨v278, M279⟩, h277, hd⟩ := bnd hd
      replace hd := un2_e hd
      refine X8_crew_v G gL_law_X8_crew ⟨(Nat.le_of_ble_eq_true rfl), (Nat.le_of_ble_eq_true rfl)⟩ h277 dL_law_674 (Nat.le_of_ble_eq_true rfl) ⟨(Nat.le_of_ble_eq_true rfl), (Nat.le_of_ble_eq_true rfl)⟩ ?_
      refine pt_icmp_eq G 751 dL_law_677 (by decide) (fun c280 => ?_) (fun c280 => ?_)
      · replace hd := ifp c280 hd
        refine pt_iinc G 3 (x3 + 5) [(3, .int (x3 + 5)), (0, .ref a0), (1, .ref a1), (2, .ref a2)] dL_law_751 rfl (inc_5 _) (by decide) rfl ?_
        refine pt_goto G 18 dL_law_754 (by decide) ?_
        exact pt_sub [1, 2, 3, 0] rfl (hc (M279, (x3 + 5)) (Option.some.inj hd).symm)
      · replace hd := ifn c280 hd
        cases hd
    replace hd := ifn c265 hd
    by_cases c281 : (v13 &&& (31 : Int32)) = (16 : Int32)
    · replace hd := ifp c281 hd
      refine pt_tsIn G 682 dL_law_32 (by rw [c281]; decide) (by rw [c281]; decide) (by rw [c281]; rfl) (by decide) ?_
      refine pt_aload_n G 1 dL_law_682 rfl rfl ?_
      refine pt_aload_n G 0 dL_law_683 rfl rfl ?_
      refine pt_iload_n G 3 dL_law_684 rfl rfl ?_
      refine pt_iconst G (1 : Int32) dL_law_685 ci_1 ?_
      refine pt_iadd G dL_law_686 ?_
      obtain ⟨v282, h283, hd⟩ := bnd hd
      refine pt_sld G hX h283 dL_law_687 ?_
      obtain ⟨⟨v285, M286⟩, h284, hd⟩ := bnd hd
      replace hd := un2_e hd
      refine X7_image_v G gL_law_X7_image ⟨(Nat.le_of_ble_eq_true rfl), (Nat.le_of_ble_eq_true rfl)⟩ h284 dL_law_688 (Nat.le_of_ble_eq_true rfl) ⟨(Nat.le_of_ble_eq_true rfl), (Nat.le_of_ble_eq_true rfl)⟩ ?_
      refine pt_aload_n G 2 dL_law_691 rfl rfl ?_
      refine pt_aload_n G 0 dL_law_692 rfl rfl ?_
      refine pt_iload_n G 3 dL_law_693 rfl rfl ?_
      refine pt_iconst G (1 : Int32) dL_law_694 ci_1 ?_
      refine pt_iadd G dL_law_695 ?_
      obtain ⟨v287, h288, hd⟩ := bnd hd
      refine pt_sld G hX h288 dL_law_696 ?_
      obtain ⟨⟨v290, M291⟩, h289, hd⟩ := bnd hd
      replace hd := un2_e hd
      refine X8_image_v G gL_law_X8_image ⟨(Nat.le_of_ble_eq_true rfl), (Nat.le_of_ble_eq_true rfl)⟩ h289 dL_law_697 (Nat.le_of_ble_eq_true rfl) ⟨(Nat.le_of_ble_eq_true rfl), (Nat.le_of_ble_eq_true rfl)⟩ ?_
      refine pt_icmp_eq G 751 dL_law_700 (by decide) (fun c292 => ?_) (fun c292 => ?_)
      · replace hd := ifp c292 hd
        refine pt_iinc G 3 (x3 + 5) [(3, .int (x3 + 5)), (0, .ref a0), (1, .ref a1), (2, .ref a2)] dL_law_751 rfl (inc_5 _) (by decide) rfl ?_
        refine pt_goto G 18 dL_law_754 (by decide) ?_
        exact pt_sub [1, 2, 3, 0] rfl (hc (M291, (x3 + 5)) (Option.some.inj hd).symm)
      · replace hd := ifn c292 hd
        cases hd
    replace hd := ifn c281 hd
    by_cases c293 : (v13 &&& (31 : Int32)) = (17 : Int32)
    · replace hd := ifp c293 hd
      refine pt_tsIn G 705 dL_law_32 (by rw [c293]; decide) (by rw [c293]; decide) (by rw [c293]; rfl) (by decide) ?_
      refine pt_aload_n G 1 dL_law_705 rfl rfl ?_
      refine pt_aload_n G 0 dL_law_706 rfl rfl ?_
      refine pt_iload_n G 3 dL_law_707 rfl rfl ?_
      refine pt_iconst G (1 : Int32) dL_law_708 ci_1 ?_
      refine pt_iadd G dL_law_709 ?_
      obtain ⟨v294, h295, hd⟩ := bnd hd
      refine pt_sld G hX h295 dL_law_710 ?_
      obtain ⟨⟨v297, M298⟩, h296, hd⟩ := bnd hd
      replace hd := un2_e hd
      refine X7_restore_v G gL_law_X7_restore ⟨(Nat.le_of_ble_eq_true rfl), (Nat.le_of_ble_eq_true rfl)⟩ h296 dL_law_711 (Nat.le_of_ble_eq_true rfl) ⟨(Nat.le_of_ble_eq_true rfl), (Nat.le_of_ble_eq_true rfl)⟩ ?_
      refine pt_aload_n G 2 dL_law_714 rfl rfl ?_
      refine pt_aload_n G 0 dL_law_715 rfl rfl ?_
      refine pt_iload_n G 3 dL_law_716 rfl rfl ?_
      refine pt_iconst G (1 : Int32) dL_law_717 ci_1 ?_
      refine pt_iadd G dL_law_718 ?_
      obtain ⟨v299, h300, hd⟩ := bnd hd
      refine pt_sld G hX h300 dL_law_719 ?_
      obtain ⟨⟨v302, M303⟩, h301, hd⟩ := bnd hd
      replace hd := un2_e hd
      refine X8_restore_v G gL_law_X8_restore ⟨(Nat.le_of_ble_eq_true rfl), (Nat.le_of_ble_eq_true rfl)⟩ h301 dL_law_720 (Nat.le_of_ble_eq_true rfl) ⟨(Nat.le_of_ble_eq_true rfl), (Nat.le_of_ble_eq_true rfl)⟩ ?_
      refine pt_icmp_eq G 751 dL_law_723 (by decide) (fun c304 => ?_) (fun c304 => ?_)
      · replace hd := ifp c304 hd
        refine pt_iinc G 3 (x3 + 5) [(3, .int (x3 + 5)), (0, .ref a0), (1, .ref a1), (2, .ref a2)] dL_law_751 rfl (inc_5 _) (by decide) rfl ?_
        refine pt_goto G 18 dL_law_754 (by decide) ?_
        exact pt_sub [1, 2, 3, 0] rfl (hc (M303, (x3 + 5)) (Option.some.inj hd).symm)
      · replace hd := ifn c304 hd
        cases hd
    replace hd := ifn c293 hd
    by_cases c305 : (v13 &&& (31 : Int32)) = (18 : Int32)
    · replace hd := ifp c305 hd
      refine pt_tsIn G 728 dL_law_32 (by rw [c305]; decide) (by rw [c305]; decide) (by rw [c305]; rfl) (by decide) ?_
      refine pt_aload_n G 1 dL_law_728 rfl rfl ?_
      refine pt_aload_n G 0 dL_law_729 rfl rfl ?_
      refine pt_iload_n G 3 dL_law_730 rfl rfl ?_
      refine pt_iconst G (1 : Int32) dL_law_731 ci_1 ?_
      refine pt_iadd G dL_law_732 ?_
      obtain ⟨v306, h307, hd⟩ := bnd hd
      refine pt_sld G hX h307 dL_law_733 ?_
      obtain ⟨⟨v309, M310⟩, h308, hd⟩ := bnd hd
      replace hd := un2_e hd
      refine X7_count_v G gL_law_X7_count ⟨(Nat.le_of_ble_eq_true rfl), (Nat.le_of_ble_eq_true rfl)⟩ h308 dL_law_734 (Nat.le_of_ble_eq_true rfl) ⟨(Nat.le_of_ble_eq_true rfl), (Nat.le_of_ble_eq_true rfl)⟩ ?_
      refine pt_aload_n G 2 dL_law_737 rfl rfl ?_
      refine pt_aload_n G 0 dL_law_738 rfl rfl ?_
      refine pt_iload_n G 3 dL_law_739 rfl rfl ?_
      refine pt_iconst G (1 : Int32) dL_law_740 ci_1 ?_
      refine pt_iadd G dL_law_741 ?_
      obtain ⟨v311, h312, hd⟩ := bnd hd
      refine pt_sld G hX h312 dL_law_742 ?_
      obtain ⟨⟨v314, M315⟩, h313, hd⟩ := bnd hd
      replace hd := un2_e hd
      refine X8_count_v G gL_law_X8_count ⟨(Nat.le_of_ble_eq_true rfl), (Nat.le_of_ble_eq_true rfl)⟩ h313 dL_law_743 (Nat.le_of_ble_eq_true rfl) ⟨(Nat.le_of_ble_eq_true rfl), (Nat.le_of_ble_eq_true rfl)⟩ ?_
      refine pt_icmp_eq G 751 dL_law_746 (by decide) (fun c316 => ?_) (fun c316 => ?_)
      · replace hd := ifp c316 hd
        refine pt_iinc G 3 (x3 + 5) [(3, .int (x3 + 5)), (0, .ref a0), (1, .ref a1), (2, .ref a2)] dL_law_751 rfl (inc_5 _) (by decide) rfl ?_
        refine pt_goto G 18 dL_law_754 (by decide) ?_
        exact pt_sub [1, 2, 3, 0] rfl (hc (M315, (x3 + 5)) (Option.some.inj hd).symm)
      · replace hd := ifn c316 hd
        cases hd
    replace hd := ifn c305 hd
    have nc15 : (v13 &&& (31 : Int32)).toInt ≠ 0 := fun h => c15 (Int32.toInt_inj.mp (h.trans (by decide)))
    have nc35 : (v13 &&& (31 : Int32)).toInt ≠ 1 := fun h => c35 (Int32.toInt_inj.mp (h.trans (by decide)))
    have nc55 : (v13 &&& (31 : Int32)).toInt ≠ 2 := fun h => c55 (Int32.toInt_inj.mp (h.trans (by decide)))
    have nc75 : (v13 &&& (31 : Int32)).toInt ≠ 3 := fun h => c75 (Int32.toInt_inj.mp (h.trans (by decide)))
    have nc89 : (v13 &&& (31 : Int32)).toInt ≠ 4 := fun h => c89 (Int32.toInt_inj.mp (h.trans (by decide)))
    have nc105 : (v13 &&& (31 : Int32)).toInt ≠ 5 := fun h => c105 (Int32.toInt_inj.mp (h.trans (by decide)))
    have nc117 : (v13 &&& (31 : Int32)).toInt ≠ 6 := fun h => c117 (Int32.toInt_inj.mp (h.trans (by decide)))
    have nc141 : (v13 &&& (31 : Int32)).toInt ≠ 7 := fun h => c141 (Int32.toInt_inj.mp (h.trans (by decide)))
    have nc153 : (v13 &&& (31 : Int32)).toInt ≠ 8 := fun h => c153 (Int32.toInt_inj.mp (h.trans (by decide)))
    have nc169 : (v13 &&& (31 : Int32)).toInt ≠ 9 := fun h => c169 (Int32.toInt_inj.mp (h.trans (by decide)))
    have nc185 : (v13 &&& (31 : Int32)).toInt ≠ 10 := fun h => c185 (Int32.toInt_inj.mp (h.trans (by decide)))
    have nc201 : (v13 &&& (31 : Int32)).toInt ≠ 11 := fun h => c201 (Int32.toInt_inj.mp (h.trans (by decide)))
    have nc221 : (v13 &&& (31 : Int32)).toInt ≠ 12 := fun h => c221 (Int32.toInt_inj.mp (h.trans (by decide)))
    have nc237 : (v13 &&& (31 : Int32)).toInt ≠ 13 := fun h => c237 (Int32.toInt_inj.mp (h.trans (by decide)))
    have nc253 : (v13 &&& (31 : Int32)).toInt ≠ 14 := fun h => c253 (Int32.toInt_inj.mp (h.trans (by decide)))
    have nc265 : (v13 &&& (31 : Int32)).toInt ≠ 15 := fun h => c265 (Int32.toInt_inj.mp (h.trans (by decide)))
    have nc281 : (v13 &&& (31 : Int32)).toInt ≠ 16 := fun h => c281 (Int32.toInt_inj.mp (h.trans (by decide)))
    have nc293 : (v13 &&& (31 : Int32)).toInt ≠ 17 := fun h => c293 (Int32.toInt_inj.mp (h.trans (by decide)))
    have nc305 : (v13 &&& (31 : Int32)).toInt ≠ 18 := fun h => c305 (Int32.toInt_inj.mp (h.trans (by decide)))
    refine pt_tsOut G 751 dL_law_32 (by omega) (by decide) ?_
    refine pt_iinc G 3 (x3 + 5) [(3, .int (x3 + 5)), (0, .ref a0), (1, .ref a1), (2, .ref a2)] dL_law_751 rfl (inc_5 _) (by decide) rfl ?_
    refine pt_goto G 18 dL_law_754 (by decide) ?_
    exact pt_sub [1, 2, 3, 0] rfl (hc (M, (x3 + 5)) (Option.some.inj hd).symm)
theorem L_law_w18_w {X : Cx} {L : Nat} {xs : Nat → Int32} {a0 : Nat} (G : Gd X yL_law cL_law wsL_law 4 (some .boolean) room_1) (hX : lX X a0 L xs) {a1 : Nat} {a2 : Nat} (n9 : Nat) (s9 : (Wo × Int32)) (e9 : Wo) (hw : wloop (un2 (L_law_b18 L xs a0 a1 a2)) n9 s9 = some e9) (hz : L_law_Z18 X a0 a1 a2 e9) : L_law_P18 X a0 a1 a2 s9 := by
  refine wl_ind (P := L_law_P18 X a0 a1 a2) (Z := L_law_Z18 X a0 a1 a2) ?_ n9 s9 e9 hw hz
  intro s9 o9 hd hc he
  obtain ⟨M, x3⟩ := s9
  exact L_law_b18_w G hX hd hc he
def L_law (L : Nat) (xs : Nat → Int32) (M : Wo) (a0 : Nat) : Option Wo :=
  (nwO M 7 [.null, .null, .int 0, .null, .null, .null]).bind (un2 fun w1 M2 => (X7_init M2 w1).bind fun M5 => (nwO M5 8 [.null, .null, .null, .null, .int 0, .null, .null, .null, .null, .int 0, .null, .null, .null]).bind (un2 fun w6 M7 => (X8_init M7 w6).bind fun M10 => (wloop (un2 (L_law_b18 L xs a0 w1 w6)) FU (M10, (0 : Int32))).bind fun M318 => some M318))
theorem L_law_w {X : Cx} {L : Nat} {xs : Nat → Int32} {a0 : Nat} (G : Gd X yL_law cL_law wsL_law 4 (some .boolean) room_1) (hX : lX X a0 L xs) {M o : Wo} (hd : L_law L xs M a0 = some o) (hQ : Ql X) : Pt X 0 0 0 M [(0, .ref a0)] [] := by
  unfold L_law at hd
  obtain ⟨⟨w1, M2⟩, h3, hd⟩ := bnd hd
  replace hd := un2_e hd
  refine pt_newE G (ci := 7) [.null, .null, .int 0, .null, .null, .null] rfl u_L_law_X7 tyX7 tyX7_ok m_L_law_0 m_L_law_1 m_L_law_2 (by decide) (by decide) (by decide) h3 dL_law_0 ?_
  refine pt_dup G dL_law_3 rfl ?_
  obtain ⟨M5, h4, hd⟩ := bnd hd
  refine X7_init_vi G gL_law_X7_init m_L_law_2 m_L_law_6 m_L_law_7 ⟨(Nat.le_of_ble_eq_true rfl), (Nat.le_of_ble_eq_true rfl)⟩ h4 dL_law_4 (Nat.le_of_ble_eq_true rfl) ⟨(Nat.le_of_ble_eq_true rfl), (Nat.le_of_ble_eq_true rfl)⟩ ?_
  refine pt_astore_n G [(1, .ref w1), (0, .ref a0)] dL_law_7 rfl (by decide) rfl ?_
  obtain ⟨⟨w6, M7⟩, h8, hd⟩ := bnd hd
  replace hd := un2_e hd
  refine pt_newE G (ci := 8) [.null, .null, .null, .null, .int 0, .null, .null, .null, .null, .int 0, .null, .null, .null] rfl u_L_law_X8 tyX8 tyX8_ok m_L_law_3 m_L_law_4 m_L_law_5 (by decide) (by decide) (by decide) h8 dL_law_8 ?_
  refine pt_dup G dL_law_11 rfl ?_
  obtain ⟨M10, h9, hd⟩ := bnd hd
  refine X8_init_vi G gL_law_X8_init m_L_law_5 m_L_law_90 m_L_law_91 ⟨(Nat.le_of_ble_eq_true rfl), (Nat.le_of_ble_eq_true rfl)⟩ h9 dL_law_12 (Nat.le_of_ble_eq_true rfl) ⟨(Nat.le_of_ble_eq_true rfl), (Nat.le_of_ble_eq_true rfl)⟩ ?_
  refine pt_astore_n G [(2, .ref w6), (1, .ref w1), (0, .ref a0)] dL_law_15 rfl (by decide) rfl ?_
  refine pt_iconst G (0 : Int32) dL_law_16 ci_0 ?_
  refine pt_istore_n G [(3, .int (0 : Int32)), (2, .ref w6), (1, .ref w1), (0, .ref a0)] dL_law_17 rfl (by decide) rfl ?_
  obtain ⟨M318, hw319, hd⟩ := bnd hd
  refine pt_sub [3, 2, 1, 0] rfl (L_law_w18_w G hX _ _ _ hw319 ?_)
  show Pt X 255 18303 _ _ _ []
  refine pt_iconst G (1 : Int32) dL_law_757 ci_1 ?_
  cases hd
  exact pt_lret G hQ (by decide) (by decide) dL_law_758

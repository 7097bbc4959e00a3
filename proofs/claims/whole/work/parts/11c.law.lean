/-! ===== the law's walk, over a relation of the two memories ===== -/
def St0 {α : Type} (Rel : Mm → Mm → Prop) (f g : Mm → Option (α × Mm)) : Prop := ∀ M1 M2, Rel M1 M2 → ∃ r N1 N2, f M1 = some (r, N1) ∧ g M2 = some (r, N2) ∧ Rel N1 N2
def St1 {α : Type} (Rel : Mm → Mm → Prop) (f g : Int32 → Mm → Option (α × Mm)) : Prop := ∀ a, St0 Rel (f a) (g a)
def St2 {α : Type} (Rel : Mm → Mm → Prop) (f g : Int32 → Int32 → Mm → Option (α × Mm)) : Prop := ∀ a, St1 Rel (f a) (g a)
def St3 {α : Type} (Rel : Mm → Mm → Prop) (f g : Int32 → Int32 → Int32 → Mm → Option (α × Mm)) : Prop := ∀ a, St2 Rel (f a) (g a)
def St4 {α : Type} (Rel : Mm → Mm → Prop) (f g : Int32 → Int32 → Int32 → Int32 → Mm → Option (α × Mm)) : Prop := ∀ a, St3 Rel (f a) (g a)
def St5 {α : Type} (Rel : Mm → Mm → Prop) (f g : Int32 → Int32 → Int32 → Int32 → Int32 → Mm → Option (α × Mm)) : Prop := ∀ a, St4 Rel (f a) (g a)
abbrev Lw (b : Nat) (ad1 ad2 : Nat → Nat) (x : Int32) : List (Nat × Value) := [(0, .ref b), (1, .ref (ad1 0)), (2, .ref (ad2 0)), (3, .int x)]
section LAW
variable {G : wn_G} {X : wn_X} {ad1 ad2 : Nat → Nat} {b n : Nat} {xs : Nat → Int32}
theorem c_call1 {own : String} {cc : ByteArray} {nL d mc ms pc cells slots : Nat} {L : List (Nat × Value)} {st rest : List Value} {S : wn_S} {ad : Nat → Nat} {M M0 : Mm} {mt : wn_M} {dc n index ci nn : Nat} {fk : List Nat} {As : List Value} {ro : Option Value} {wr : va_W} (O : Oc G own cc nL d mc ms X) (hs : Sp G S ad mt dc (.ref (ad 0) :: As) M M0 ro) (hd : decode cc pc = .ok (.invokevirtual index, 3)) (hm : MV mt ci n) (hl : LM own index mt.1) (ho : S[0]? = some (ci + 2, nn, fk)) (hn : As.length = n) (hst : st = As.reverse ++ .ref (ad 0) :: rest) (hcat : (rest.map fun v => v.category).sum ≤ 8) (hdc : dc + 1 ≤ d) (hcc : cells ≤ mc) (hss : slots ≤ ms)
    (kk : CW G X (pc + 3) L (ro.toList ++ rest) (wo G S ad M0 ++ wr) cells slots) : CW G X pc L st (wo G S ad M ++ wr) cells slots := by
  have h := c_callV (wl := []) (wr := wr) O hs hd hm hl ho hn hst hcat hdc hcc hss (by rw [List.nil_append]; exact kk)
  rw [List.nil_append] at h
  exact h
theorem c_call2 {own : String} {cc : ByteArray} {nL d mc ms pc cells slots : Nat} {L : List (Nat × Value)} {st rest : List Value} {S : wn_S} {ad : Nat → Nat} {M M0 : Mm} {mt : wn_M} {dc n index ci nn : Nat} {fk : List Nat} {As : List Value} {ro : Option Value} {wl : va_W} (O : Oc G own cc nL d mc ms X) (hs : Sp G S ad mt dc (.ref (ad 0) :: As) M M0 ro) (hd : decode cc pc = .ok (.invokevirtual index, 3)) (hm : MV mt ci n) (hl : LM own index mt.1) (ho : S[0]? = some (ci + 2, nn, fk)) (hn : As.length = n) (hst : st = As.reverse ++ .ref (ad 0) :: rest) (hcat : (rest.map fun v => v.category).sum ≤ 8) (hdc : dc + 1 ≤ d) (hcc : cells ≤ mc) (hss : slots ≤ ms)
    (kk : CW G X (pc + 3) L (ro.toList ++ rest) (wl ++ wo G S ad M0) cells slots) : CW G X pc L st (wl ++ wo G S ad M) cells slots := by
  have h := c_callV (wl := wl) (wr := []) O hs hd hm hl ho hn hst hcat hdc hcc hss (by rw [List.append_nil]; exact kk)
  rw [List.append_nil] at h
  exact h
set_option maxRecDepth 100000 in
theorem law_c0 (O : Oc G RL cL_law 4 1000 600000 7302250 X) (hX : Ox X b n xs) (hn : n ≤ 3072) {i : Nat} {x : Int32} (hx : x = nI i) (hi : i + 6 ≤ n) {Rel : Mm → Mm → Prop} (hst : St3 Rel f_X5_set f_X6_set) {M1 M2 : Mm} (hR : Rel M1 M2) (kk : ∀ N1 N2, Rel N1 N2 → CW G X 963 (Lw b ad1 ad2 x) [] (wo G S1 ad1 N1 ++ wo G S2 ad2 N2) 53 7137) : CW G X 152 (Lw b ad1 ad2 x) [] (wo G S1 ad1 M1 ++ wo G S2 ad2 M2) 53 7137 := by
  have q1 : vp_in (x + 1) n := (ix_in hx (show i + 1 < n by omega) (by omega)).1
  have q2 : vp_in (x + 2) n := (ix_in hx (show i + 2 < n by omega) (by omega)).1
  have q3 : vp_in (x + 3) n := (ix_in hx (show i + 3 < n by omega) (by omega)).1
  obtain ⟨r, N1, N2, h1, h2, hN⟩ := hst (xs (x + 1).toNatClampNeg) (xs (x + 2).toNatClampNeg) (xs (x + 3).toNatClampNeg) M1 M2 hR
  refine c_aload_n (pc := 152) O 1 dL_law_152 rfl ?_
  refine c_aload_n (pc := 153) O 0 dL_law_153 rfl ?_
  refine c_iload_n (pc := 154) O 3 dL_law_154 rfl ?_
  refine c_iconst (pc := 155) (v := 1) O dL_law_155 (by decide) ?_
  refine c_iadd (pc := 156) O dL_law_156 ?_
  refine c_sld (pc := 157) O hX q1 dL_law_157 ?_
  refine c_aload_n (pc := 158) O 0 dL_law_158 rfl ?_
  refine c_iload_n (pc := 159) O 3 dL_law_159 rfl ?_
  refine c_iconst (pc := 160) (v := 2) O dL_law_160 (by decide) ?_
  refine c_iadd (pc := 161) O dL_law_161 ?_
  refine c_sld (pc := 162) O hX q2 dL_law_162 ?_
  refine c_aload_n (pc := 163) O 0 dL_law_163 rfl ?_
  refine c_iload_n (pc := 164) O 3 dL_law_164 rfl ?_
  refine c_iconst (pc := 165) (v := 3) O dL_law_165 (by decide) ?_
  refine c_iadd (pc := 166) O dL_law_166 ?_
  refine c_sld (pc := 167) O hX q3 dL_law_167 ?_
  refine c_call1 (pc := 168) (dc := 3) (As := [.int (xs (x + 1).toNatClampNeg), .int (xs (x + 2).toNatClampNeg), .int (xs (x + 3).toNatClampNeg)]) (rest := []) O (sp_X5_set h1) dL_law_168 mv_X5_set lm_L_13 so_S1_0 rfl rfl (Nat.le_of_ble_eq_true rfl) (by decide) (by decide) (by decide) ?_
  show CW G X 171 (Lw b ad1 ad2 x) [.int r] (wo G S1 ad1 N1 ++ wo G S2 ad2 M2) 53 7137
  refine c_aload_n (pc := 171) O 2 dL_law_171 rfl ?_
  refine c_aload_n (pc := 172) O 0 dL_law_172 rfl ?_
  refine c_iload_n (pc := 173) O 3 dL_law_173 rfl ?_
  refine c_iconst (pc := 174) (v := 1) O dL_law_174 (by decide) ?_
  refine c_iadd (pc := 175) O dL_law_175 ?_
  refine c_sld (pc := 176) O hX q1 dL_law_176 ?_
  refine c_aload_n (pc := 177) O 0 dL_law_177 rfl ?_
  refine c_iload_n (pc := 178) O 3 dL_law_178 rfl ?_
  refine c_iconst (pc := 179) (v := 2) O dL_law_179 (by decide) ?_
  refine c_iadd (pc := 180) O dL_law_180 ?_
  refine c_sld (pc := 181) O hX q2 dL_law_181 ?_
  refine c_aload_n (pc := 182) O 0 dL_law_182 rfl ?_
  refine c_iload_n (pc := 183) O 3 dL_law_183 rfl ?_
  refine c_iconst (pc := 184) (v := 3) O dL_law_184 (by decide) ?_
  refine c_iadd (pc := 185) O dL_law_185 ?_
  refine c_sld (pc := 186) O hX q3 dL_law_186 ?_
  refine c_call2 (pc := 187) (dc := 3) (As := [.int (xs (x + 1).toNatClampNeg), .int (xs (x + 2).toNatClampNeg), .int (xs (x + 3).toNatClampNeg)]) (rest := [.int r]) O (sp_X6_set h2) dL_law_187 mv_X6_set lm_L_17 so_S2_0 rfl rfl (Nat.le_of_ble_eq_true rfl) (by decide) (by decide) (by decide) ?_
  show CW G X 190 (Lw b ad1 ad2 x) [.int r, .int r] (wo G S1 ad1 N1 ++ wo G S2 ad2 N2) 53 7137
  refine c_same (pc := 190) (tgt := 963) O dL_law_190 (by decide) ?_
  exact kk N1 N2 hN
set_option maxRecDepth 100000 in
theorem law_c1 (O : Oc G RL cL_law 4 1000 600000 7302250 X) (hX : Ox X b n xs) (hn : n ≤ 3072) {i : Nat} {x : Int32} (hx : x = nI i) (hi : i + 6 ≤ n) {Rel : Mm → Mm → Prop} (hst : St3 Rel f_X5_eater f_X6_eater) {M1 M2 : Mm} (hR : Rel M1 M2) (kk : ∀ N1 N2, Rel N1 N2 → CW G X 963 (Lw b ad1 ad2 x) [] (wo G S1 ad1 N1 ++ wo G S2 ad2 N2) 53 7137) : CW G X 195 (Lw b ad1 ad2 x) [] (wo G S1 ad1 M1 ++ wo G S2 ad2 M2) 53 7137 := by
  have q1 : vp_in (x + 1) n := (ix_in hx (show i + 1 < n by omega) (by omega)).1
  have q2 : vp_in (x + 2) n := (ix_in hx (show i + 2 < n by omega) (by omega)).1
  have q3 : vp_in (x + 3) n := (ix_in hx (show i + 3 < n by omega) (by omega)).1
  obtain ⟨r, N1, N2, h1, h2, hN⟩ := hst (xs (x + 1).toNatClampNeg) (xs (x + 2).toNatClampNeg) (xs (x + 3).toNatClampNeg) M1 M2 hR
  refine c_aload_n (pc := 195) O 1 dL_law_195 rfl ?_
  refine c_aload_n (pc := 196) O 0 dL_law_196 rfl ?_
  refine c_iload_n (pc := 197) O 3 dL_law_197 rfl ?_
  refine c_iconst (pc := 198) (v := 1) O dL_law_198 (by decide) ?_
  refine c_iadd (pc := 199) O dL_law_199 ?_
  refine c_sld (pc := 200) O hX q1 dL_law_200 ?_
  refine c_aload_n (pc := 201) O 0 dL_law_201 rfl ?_
  refine c_iload_n (pc := 202) O 3 dL_law_202 rfl ?_
  refine c_iconst (pc := 203) (v := 2) O dL_law_203 (by decide) ?_
  refine c_iadd (pc := 204) O dL_law_204 ?_
  refine c_sld (pc := 205) O hX q2 dL_law_205 ?_
  refine c_aload_n (pc := 206) O 0 dL_law_206 rfl ?_
  refine c_iload_n (pc := 207) O 3 dL_law_207 rfl ?_
  refine c_iconst (pc := 208) (v := 3) O dL_law_208 (by decide) ?_
  refine c_iadd (pc := 209) O dL_law_209 ?_
  refine c_sld (pc := 210) O hX q3 dL_law_210 ?_
  refine c_call1 (pc := 211) (dc := 2) (As := [.int (xs (x + 1).toNatClampNeg), .int (xs (x + 2).toNatClampNeg), .int (xs (x + 3).toNatClampNeg)]) (rest := []) O (sp_X5_eater h1) dL_law_211 mv_X5_eater lm_L_18 so_S1_0 rfl rfl (Nat.le_of_ble_eq_true rfl) (by decide) (by decide) (by decide) ?_
  show CW G X 214 (Lw b ad1 ad2 x) [.int r] (wo G S1 ad1 N1 ++ wo G S2 ad2 M2) 53 7137
  refine c_aload_n (pc := 214) O 2 dL_law_214 rfl ?_
  refine c_aload_n (pc := 215) O 0 dL_law_215 rfl ?_
  refine c_iload_n (pc := 216) O 3 dL_law_216 rfl ?_
  refine c_iconst (pc := 217) (v := 1) O dL_law_217 (by decide) ?_
  refine c_iadd (pc := 218) O dL_law_218 ?_
  refine c_sld (pc := 219) O hX q1 dL_law_219 ?_
  refine c_aload_n (pc := 220) O 0 dL_law_220 rfl ?_
  refine c_iload_n (pc := 221) O 3 dL_law_221 rfl ?_
  refine c_iconst (pc := 222) (v := 2) O dL_law_222 (by decide) ?_
  refine c_iadd (pc := 223) O dL_law_223 ?_
  refine c_sld (pc := 224) O hX q2 dL_law_224 ?_
  refine c_aload_n (pc := 225) O 0 dL_law_225 rfl ?_
  refine c_iload_n (pc := 226) O 3 dL_law_226 rfl ?_
  refine c_iconst (pc := 227) (v := 3) O dL_law_227 (by decide) ?_
  refine c_iadd (pc := 228) O dL_law_228 ?_
  refine c_sld (pc := 229) O hX q3 dL_law_229 ?_
  refine c_call2 (pc := 230) (dc := 2) (As := [.int (xs (x + 1).toNatClampNeg), .int (xs (x + 2).toNatClampNeg), .int (xs (x + 3).toNatClampNeg)]) (rest := [.int r]) O (sp_X6_eater h2) dL_law_230 mv_X6_eater lm_L_21 so_S2_0 rfl rfl (Nat.le_of_ble_eq_true rfl) (by decide) (by decide) (by decide) ?_
  show CW G X 233 (Lw b ad1 ad2 x) [.int r, .int r] (wo G S1 ad1 N1 ++ wo G S2 ad2 N2) 53 7137
  refine c_same (pc := 233) (tgt := 963) O dL_law_233 (by decide) ?_
  exact kk N1 N2 hN
set_option maxRecDepth 100000 in
theorem law_c2 (O : Oc G RL cL_law 4 1000 600000 7302250 X) (hX : Ox X b n xs) (hn : n ≤ 3072) {i : Nat} {x : Int32} (hx : x = nI i) (hi : i + 6 ≤ n) {Rel : Mm → Mm → Prop} (hst : St2 Rel f_X5_told f_X6_told) {M1 M2 : Mm} (hR : Rel M1 M2) (kk : ∀ N1 N2, Rel N1 N2 → CW G X 963 (Lw b ad1 ad2 x) [] (wo G S1 ad1 N1 ++ wo G S2 ad2 N2) 53 7137) : CW G X 238 (Lw b ad1 ad2 x) [] (wo G S1 ad1 M1 ++ wo G S2 ad2 M2) 53 7137 := by
  have q1 : vp_in (x + 1) n := (ix_in hx (show i + 1 < n by omega) (by omega)).1
  have q2 : vp_in (x + 2) n := (ix_in hx (show i + 2 < n by omega) (by omega)).1
  obtain ⟨r, N1, N2, h1, h2, hN⟩ := hst (xs (x + 1).toNatClampNeg) (xs (x + 2).toNatClampNeg) M1 M2 hR
  refine c_aload_n (pc := 238) O 1 dL_law_238 rfl ?_
  refine c_aload_n (pc := 239) O 0 dL_law_239 rfl ?_
  refine c_iload_n (pc := 240) O 3 dL_law_240 rfl ?_
  refine c_iconst (pc := 241) (v := 1) O dL_law_241 (by decide) ?_
  refine c_iadd (pc := 242) O dL_law_242 ?_
  refine c_sld (pc := 243) O hX q1 dL_law_243 ?_
  refine c_aload_n (pc := 244) O 0 dL_law_244 rfl ?_
  refine c_iload_n (pc := 245) O 3 dL_law_245 rfl ?_
  refine c_iconst (pc := 246) (v := 2) O dL_law_246 (by decide) ?_
  refine c_iadd (pc := 247) O dL_law_247 ?_
  refine c_sld (pc := 248) O hX q2 dL_law_248 ?_
  refine c_call1 (pc := 249) (dc := 5) (As := [.int (xs (x + 1).toNatClampNeg), .int (xs (x + 2).toNatClampNeg)]) (rest := []) O (sp_X5_told h1) dL_law_249 mv_X5_told lm_L_22 so_S1_0 rfl rfl (Nat.le_of_ble_eq_true rfl) (by decide) (by decide) (by decide) ?_
  show CW G X 252 (Lw b ad1 ad2 x) [.int r] (wo G S1 ad1 N1 ++ wo G S2 ad2 M2) 53 7137
  refine c_aload_n (pc := 252) O 2 dL_law_252 rfl ?_
  refine c_aload_n (pc := 253) O 0 dL_law_253 rfl ?_
  refine c_iload_n (pc := 254) O 3 dL_law_254 rfl ?_
  refine c_iconst (pc := 255) (v := 1) O dL_law_255 (by decide) ?_
  refine c_iadd (pc := 256) O dL_law_256 ?_
  refine c_sld (pc := 257) O hX q1 dL_law_257 ?_
  refine c_aload_n (pc := 258) O 0 dL_law_258 rfl ?_
  refine c_iload_n (pc := 259) O 3 dL_law_259 rfl ?_
  refine c_iconst (pc := 260) (v := 2) O dL_law_260 (by decide) ?_
  refine c_iadd (pc := 261) O dL_law_261 ?_
  refine c_sld (pc := 262) O hX q2 dL_law_262 ?_
  refine c_call2 (pc := 263) (dc := 109) (As := [.int (xs (x + 1).toNatClampNeg), .int (xs (x + 2).toNatClampNeg)]) (rest := [.int r]) O (sp_X6_told h2) dL_law_263 mv_X6_told lm_L_26 so_S2_0 rfl rfl (Nat.le_of_ble_eq_true rfl) (by decide) (by decide) (by decide) ?_
  show CW G X 266 (Lw b ad1 ad2 x) [.int r, .int r] (wo G S1 ad1 N1 ++ wo G S2 ad2 N2) 53 7137
  refine c_same (pc := 266) (tgt := 963) O dL_law_266 (by decide) ?_
  exact kk N1 N2 hN
set_option maxRecDepth 100000 in
theorem law_c3 (O : Oc G RL cL_law 4 1000 600000 7302250 X) (hX : Ox X b n xs) (hn : n ≤ 3072) {i : Nat} {x : Int32} (hx : x = nI i) (hi : i + 6 ≤ n) {Rel : Mm → Mm → Prop} (hst : St1 Rel f_X5_ready f_X6_ready) {M1 M2 : Mm} (hR : Rel M1 M2) (kk : ∀ N1 N2, Rel N1 N2 → CW G X 963 (Lw b ad1 ad2 x) [] (wo G S1 ad1 N1 ++ wo G S2 ad2 N2) 53 7137) : CW G X 271 (Lw b ad1 ad2 x) [] (wo G S1 ad1 M1 ++ wo G S2 ad2 M2) 53 7137 := by
  have q1 : vp_in (x + 1) n := (ix_in hx (show i + 1 < n by omega) (by omega)).1
  obtain ⟨r, N1, N2, h1, h2, hN⟩ := hst (xs (x + 1).toNatClampNeg) M1 M2 hR
  refine c_aload_n (pc := 271) O 1 dL_law_271 rfl ?_
  refine c_aload_n (pc := 272) O 0 dL_law_272 rfl ?_
  refine c_iload_n (pc := 273) O 3 dL_law_273 rfl ?_
  refine c_iconst (pc := 274) (v := 1) O dL_law_274 (by decide) ?_
  refine c_iadd (pc := 275) O dL_law_275 ?_
  refine c_sld (pc := 276) O hX q1 dL_law_276 ?_
  refine c_call1 (pc := 277) (dc := 4) (As := [.int (xs (x + 1).toNatClampNeg)]) (rest := []) O (sp_X5_ready h1) dL_law_277 mv_X5_ready lm_L_27 so_S1_0 rfl rfl (Nat.le_of_ble_eq_true rfl) (by decide) (by decide) (by decide) ?_
  show CW G X 280 (Lw b ad1 ad2 x) [.int r] (wo G S1 ad1 N1 ++ wo G S2 ad2 M2) 53 7137
  refine c_aload_n (pc := 280) O 2 dL_law_280 rfl ?_
  refine c_aload_n (pc := 281) O 0 dL_law_281 rfl ?_
  refine c_iload_n (pc := 282) O 3 dL_law_282 rfl ?_
  refine c_iconst (pc := 283) (v := 1) O dL_law_283 (by decide) ?_
  refine c_iadd (pc := 284) O dL_law_284 ?_
  refine c_sld (pc := 285) O hX q1 dL_law_285 ?_
  refine c_call2 (pc := 286) (dc := 110) (As := [.int (xs (x + 1).toNatClampNeg)]) (rest := [.int r]) O (sp_X6_ready h2) dL_law_286 mv_X6_ready lm_L_31 so_S2_0 rfl rfl (Nat.le_of_ble_eq_true rfl) (by decide) (by decide) (by decide) ?_
  show CW G X 289 (Lw b ad1 ad2 x) [.int r, .int r] (wo G S1 ad1 N1 ++ wo G S2 ad2 N2) 53 7137
  refine c_same (pc := 289) (tgt := 963) O dL_law_289 (by decide) ?_
  exact kk N1 N2 hN
set_option maxRecDepth 100000 in
theorem law_c4 (O : Oc G RL cL_law 4 1000 600000 7302250 X) (hX : Ox X b n xs) (hn : n ≤ 3072) {i : Nat} {x : Int32} (hx : x = nI i) (hi : i + 6 ≤ n) {Rel : Mm → Mm → Prop} (hst : St1 Rel f_X5_feed f_X6_feed) {M1 M2 : Mm} (hR : Rel M1 M2) (kk : ∀ N1 N2, Rel N1 N2 → CW G X 963 (Lw b ad1 ad2 x) [] (wo G S1 ad1 N1 ++ wo G S2 ad2 N2) 53 7137) : CW G X 294 (Lw b ad1 ad2 x) [] (wo G S1 ad1 M1 ++ wo G S2 ad2 M2) 53 7137 := by
  have q1 : vp_in (x + 1) n := (ix_in hx (show i + 1 < n by omega) (by omega)).1
  obtain ⟨r, N1, N2, h1, h2, hN⟩ := hst (xs (x + 1).toNatClampNeg) M1 M2 hR
  refine c_aload_n (pc := 294) O 1 dL_law_294 rfl ?_
  refine c_aload_n (pc := 295) O 0 dL_law_295 rfl ?_
  refine c_iload_n (pc := 296) O 3 dL_law_296 rfl ?_
  refine c_iconst (pc := 297) (v := 1) O dL_law_297 (by decide) ?_
  refine c_iadd (pc := 298) O dL_law_298 ?_
  refine c_sld (pc := 299) O hX q1 dL_law_299 ?_
  refine c_call1 (pc := 300) (dc := 2) (As := [.int (xs (x + 1).toNatClampNeg)]) (rest := []) O (sp_X5_feed h1) dL_law_300 mv_X5_feed lm_L_32 so_S1_0 rfl rfl (Nat.le_of_ble_eq_true rfl) (by decide) (by decide) (by decide) ?_
  show CW G X 303 (Lw b ad1 ad2 x) [.int r] (wo G S1 ad1 N1 ++ wo G S2 ad2 M2) 53 7137
  refine c_aload_n (pc := 303) O 2 dL_law_303 rfl ?_
  refine c_aload_n (pc := 304) O 0 dL_law_304 rfl ?_
  refine c_iload_n (pc := 305) O 3 dL_law_305 rfl ?_
  refine c_iconst (pc := 306) (v := 1) O dL_law_306 (by decide) ?_
  refine c_iadd (pc := 307) O dL_law_307 ?_
  refine c_sld (pc := 308) O hX q1 dL_law_308 ?_
  refine c_call2 (pc := 309) (dc := 2) (As := [.int (xs (x + 1).toNatClampNeg)]) (rest := [.int r]) O (sp_X6_feed h2) dL_law_309 mv_X6_feed lm_L_35 so_S2_0 rfl rfl (Nat.le_of_ble_eq_true rfl) (by decide) (by decide) (by decide) ?_
  show CW G X 312 (Lw b ad1 ad2 x) [.int r, .int r] (wo G S1 ad1 N1 ++ wo G S2 ad2 N2) 53 7137
  refine c_same (pc := 312) (tgt := 963) O dL_law_312 (by decide) ?_
  exact kk N1 N2 hN
set_option maxRecDepth 100000 in
theorem law_c5 (O : Oc G RL cL_law 4 1000 600000 7302250 X) (hX : Ox X b n xs) (hn : n ≤ 3072) {i : Nat} {x : Int32} (hx : x = nI i) (hi : i + 6 ≤ n) {Rel : Mm → Mm → Prop} (hst : St0 Rel f_X5_text f_X6_text) {M1 M2 : Mm} (hR : Rel M1 M2) (kk : ∀ N1 N2, Rel N1 N2 → CW G X 963 (Lw b ad1 ad2 x) [] (wo G S1 ad1 N1 ++ wo G S2 ad2 N2) 53 7137) : CW G X 317 (Lw b ad1 ad2 x) [] (wo G S1 ad1 M1 ++ wo G S2 ad2 M2) 53 7137 := by
  obtain ⟨r, N1, N2, h1, h2, hN⟩ := hst M1 M2 hR
  refine c_aload_n (pc := 317) O 1 dL_law_317 rfl ?_
  refine c_call1 (pc := 318) (dc := 111) (As := []) (rest := []) O (sp_X5_text h1) dL_law_318 mv_X5_text lm_L_36 so_S1_0 rfl rfl (Nat.le_of_ble_eq_true rfl) (by decide) (by decide) (by decide) ?_
  show CW G X 321 (Lw b ad1 ad2 x) [.int r] (wo G S1 ad1 N1 ++ wo G S2 ad2 M2) 53 7137
  refine c_aload_n (pc := 321) O 2 dL_law_321 rfl ?_
  refine c_call2 (pc := 322) (dc := 108) (As := []) (rest := [.int r]) O (sp_X6_text h2) dL_law_322 mv_X6_text lm_L_40 so_S2_0 rfl rfl (Nat.le_of_ble_eq_true rfl) (by decide) (by decide) (by decide) ?_
  show CW G X 325 (Lw b ad1 ad2 x) [.int r, .int r] (wo G S1 ad1 N1 ++ wo G S2 ad2 N2) 53 7137
  refine c_same (pc := 325) (tgt := 963) O dL_law_325 (by decide) ?_
  exact kk N1 N2 hN
set_option maxRecDepth 100000 in
theorem law_c6 (O : Oc G RL cL_law 4 1000 600000 7302250 X) (hX : Ox X b n xs) (hn : n ≤ 3072) {i : Nat} {x : Int32} (hx : x = nI i) (hi : i + 6 ≤ n) {Rel : Mm → Mm → Prop} (hst : St1 Rel f_X5_force f_X6_force) {M1 M2 : Mm} (hR : Rel M1 M2) (kk : ∀ N1 N2, Rel N1 N2 → CW G X 963 (Lw b ad1 ad2 x) [] (wo G S1 ad1 N1 ++ wo G S2 ad2 N2) 53 7137) : CW G X 330 (Lw b ad1 ad2 x) [] (wo G S1 ad1 M1 ++ wo G S2 ad2 M2) 53 7137 := by
  have q1 : vp_in (x + 1) n := (ix_in hx (show i + 1 < n by omega) (by omega)).1
  obtain ⟨r, N1, N2, h1, h2, hN⟩ := hst (xs (x + 1).toNatClampNeg) M1 M2 hR
  refine c_aload_n (pc := 330) O 1 dL_law_330 rfl ?_
  refine c_aload_n (pc := 331) O 0 dL_law_331 rfl ?_
  refine c_iload_n (pc := 332) O 3 dL_law_332 rfl ?_
  refine c_iconst (pc := 333) (v := 1) O dL_law_333 (by decide) ?_
  refine c_iadd (pc := 334) O dL_law_334 ?_
  refine c_sld (pc := 335) O hX q1 dL_law_335 ?_
  refine c_call1 (pc := 336) (dc := 1) (As := [.int (xs (x + 1).toNatClampNeg)]) (rest := []) O (sp_X5_force h1) dL_law_336 mv_X5_force lm_L_41 so_S1_0 rfl rfl (Nat.le_of_ble_eq_true rfl) (by decide) (by decide) (by decide) ?_
  show CW G X 339 (Lw b ad1 ad2 x) [.int r] (wo G S1 ad1 N1 ++ wo G S2 ad2 M2) 53 7137
  refine c_aload_n (pc := 339) O 2 dL_law_339 rfl ?_
  refine c_aload_n (pc := 340) O 0 dL_law_340 rfl ?_
  refine c_iload_n (pc := 341) O 3 dL_law_341 rfl ?_
  refine c_iconst (pc := 342) (v := 1) O dL_law_342 (by decide) ?_
  refine c_iadd (pc := 343) O dL_law_343 ?_
  refine c_sld (pc := 344) O hX q1 dL_law_344 ?_
  refine c_call2 (pc := 345) (dc := 2) (As := [.int (xs (x + 1).toNatClampNeg)]) (rest := [.int r]) O (sp_X6_force h2) dL_law_345 mv_X6_force lm_L_44 so_S2_0 rfl rfl (Nat.le_of_ble_eq_true rfl) (by decide) (by decide) (by decide) ?_
  show CW G X 348 (Lw b ad1 ad2 x) [.int r, .int r] (wo G S1 ad1 N1 ++ wo G S2 ad2 N2) 53 7137
  refine c_same (pc := 348) (tgt := 963) O dL_law_348 (by decide) ?_
  exact kk N1 N2 hN
set_option maxRecDepth 100000 in
theorem law_c7 (O : Oc G RL cL_law 4 1000 600000 7302250 X) (hX : Ox X b n xs) (hn : n ≤ 3072) {i : Nat} {x : Int32} (hx : x = nI i) (hi : i + 6 ≤ n) {Rel : Mm → Mm → Prop} (hst : St3 Rel f_X5_supper f_X6_supper) {M1 M2 : Mm} (hR : Rel M1 M2) (kk : ∀ N1 N2, Rel N1 N2 → CW G X 963 (Lw b ad1 ad2 x) [] (wo G S1 ad1 N1 ++ wo G S2 ad2 N2) 53 7137) : CW G X 353 (Lw b ad1 ad2 x) [] (wo G S1 ad1 M1 ++ wo G S2 ad2 M2) 53 7137 := by
  have q1 : vp_in (x + 1) n := (ix_in hx (show i + 1 < n by omega) (by omega)).1
  have q2 : vp_in (x + 2) n := (ix_in hx (show i + 2 < n by omega) (by omega)).1
  have q3 : vp_in (x + 3) n := (ix_in hx (show i + 3 < n by omega) (by omega)).1
  obtain ⟨r, N1, N2, h1, h2, hN⟩ := hst (xs (x + 1).toNatClampNeg) (xs (x + 2).toNatClampNeg) (xs (x + 3).toNatClampNeg) M1 M2 hR
  refine c_aload_n (pc := 353) O 1 dL_law_353 rfl ?_
  refine c_aload_n (pc := 354) O 0 dL_law_354 rfl ?_
  refine c_iload_n (pc := 355) O 3 dL_law_355 rfl ?_
  refine c_iconst (pc := 356) (v := 1) O dL_law_356 (by decide) ?_
  refine c_iadd (pc := 357) O dL_law_357 ?_
  refine c_sld (pc := 358) O hX q1 dL_law_358 ?_
  refine c_aload_n (pc := 359) O 0 dL_law_359 rfl ?_
  refine c_iload_n (pc := 360) O 3 dL_law_360 rfl ?_
  refine c_iconst (pc := 361) (v := 2) O dL_law_361 (by decide) ?_
  refine c_iadd (pc := 362) O dL_law_362 ?_
  refine c_sld (pc := 363) O hX q2 dL_law_363 ?_
  refine c_aload_n (pc := 364) O 0 dL_law_364 rfl ?_
  refine c_iload_n (pc := 365) O 3 dL_law_365 rfl ?_
  refine c_iconst (pc := 366) (v := 3) O dL_law_366 (by decide) ?_
  refine c_iadd (pc := 367) O dL_law_367 ?_
  refine c_sld (pc := 368) O hX q3 dL_law_368 ?_
  refine c_call1 (pc := 369) (dc := 7) (As := [.int (xs (x + 1).toNatClampNeg), .int (xs (x + 2).toNatClampNeg), .int (xs (x + 3).toNatClampNeg)]) (rest := []) O (sp_X5_supper h1) dL_law_369 mv_X5_supper lm_L_45 so_S1_0 rfl rfl (Nat.le_of_ble_eq_true rfl) (by decide) (by decide) (by decide) ?_
  show CW G X 372 (Lw b ad1 ad2 x) [.int r] (wo G S1 ad1 N1 ++ wo G S2 ad2 M2) 53 7137
  refine c_aload_n (pc := 372) O 2 dL_law_372 rfl ?_
  refine c_aload_n (pc := 373) O 0 dL_law_373 rfl ?_
  refine c_iload_n (pc := 374) O 3 dL_law_374 rfl ?_
  refine c_iconst (pc := 375) (v := 1) O dL_law_375 (by decide) ?_
  refine c_iadd (pc := 376) O dL_law_376 ?_
  refine c_sld (pc := 377) O hX q1 dL_law_377 ?_
  refine c_aload_n (pc := 378) O 0 dL_law_378 rfl ?_
  refine c_iload_n (pc := 379) O 3 dL_law_379 rfl ?_
  refine c_iconst (pc := 380) (v := 2) O dL_law_380 (by decide) ?_
  refine c_iadd (pc := 381) O dL_law_381 ?_
  refine c_sld (pc := 382) O hX q2 dL_law_382 ?_
  refine c_aload_n (pc := 383) O 0 dL_law_383 rfl ?_
  refine c_iload_n (pc := 384) O 3 dL_law_384 rfl ?_
  refine c_iconst (pc := 385) (v := 3) O dL_law_385 (by decide) ?_
  refine c_iadd (pc := 386) O dL_law_386 ?_
  refine c_sld (pc := 387) O hX q3 dL_law_387 ?_
  refine c_call2 (pc := 388) (dc := 112) (As := [.int (xs (x + 1).toNatClampNeg), .int (xs (x + 2).toNatClampNeg), .int (xs (x + 3).toNatClampNeg)]) (rest := [.int r]) O (sp_X6_supper h2) dL_law_388 mv_X6_supper lm_L_48 so_S2_0 rfl rfl (Nat.le_of_ble_eq_true rfl) (by decide) (by decide) (by decide) ?_
  show CW G X 391 (Lw b ad1 ad2 x) [.int r, .int r] (wo G S1 ad1 N1 ++ wo G S2 ad2 N2) 53 7137
  refine c_same (pc := 391) (tgt := 963) O dL_law_391 (by decide) ?_
  exact kk N1 N2 hN
set_option maxRecDepth 100000 in
theorem law_c8 (O : Oc G RL cL_law 4 1000 600000 7302250 X) (hX : Ox X b n xs) (hn : n ≤ 3072) {i : Nat} {x : Int32} (hx : x = nI i) (hi : i + 6 ≤ n) {Rel : Mm → Mm → Prop} (hst : St2 Rel f_X5_heap f_X6_heap) {M1 M2 : Mm} (hR : Rel M1 M2) (kk : ∀ N1 N2, Rel N1 N2 → CW G X 963 (Lw b ad1 ad2 x) [] (wo G S1 ad1 N1 ++ wo G S2 ad2 N2) 53 7137) : CW G X 396 (Lw b ad1 ad2 x) [] (wo G S1 ad1 M1 ++ wo G S2 ad2 M2) 53 7137 := by
  have q1 : vp_in (x + 1) n := (ix_in hx (show i + 1 < n by omega) (by omega)).1
  have q2 : vp_in (x + 2) n := (ix_in hx (show i + 2 < n by omega) (by omega)).1
  obtain ⟨r, N1, N2, h1, h2, hN⟩ := hst (xs (x + 1).toNatClampNeg) (xs (x + 2).toNatClampNeg) M1 M2 hR
  refine c_aload_n (pc := 396) O 1 dL_law_396 rfl ?_
  refine c_aload_n (pc := 397) O 0 dL_law_397 rfl ?_
  refine c_iload_n (pc := 398) O 3 dL_law_398 rfl ?_
  refine c_iconst (pc := 399) (v := 1) O dL_law_399 (by decide) ?_
  refine c_iadd (pc := 400) O dL_law_400 ?_
  refine c_sld (pc := 401) O hX q1 dL_law_401 ?_
  refine c_aload_n (pc := 402) O 0 dL_law_402 rfl ?_
  refine c_iload_n (pc := 403) O 3 dL_law_403 rfl ?_
  refine c_iconst (pc := 404) (v := 2) O dL_law_404 (by decide) ?_
  refine c_iadd (pc := 405) O dL_law_405 ?_
  refine c_sld (pc := 406) O hX q2 dL_law_406 ?_
  refine c_call1 (pc := 407) (dc := 7) (As := [.int (xs (x + 1).toNatClampNeg), .int (xs (x + 2).toNatClampNeg)]) (rest := []) O (sp_X5_heap h1) dL_law_407 mv_X5_heap lm_L_49 so_S1_0 rfl rfl (Nat.le_of_ble_eq_true rfl) (by decide) (by decide) (by decide) ?_
  show CW G X 410 (Lw b ad1 ad2 x) [.int r] (wo G S1 ad1 N1 ++ wo G S2 ad2 M2) 53 7137
  refine c_aload_n (pc := 410) O 2 dL_law_410 rfl ?_
  refine c_aload_n (pc := 411) O 0 dL_law_411 rfl ?_
  refine c_iload_n (pc := 412) O 3 dL_law_412 rfl ?_
  refine c_iconst (pc := 413) (v := 1) O dL_law_413 (by decide) ?_
  refine c_iadd (pc := 414) O dL_law_414 ?_
  refine c_sld (pc := 415) O hX q1 dL_law_415 ?_
  refine c_aload_n (pc := 416) O 0 dL_law_416 rfl ?_
  refine c_iload_n (pc := 417) O 3 dL_law_417 rfl ?_
  refine c_iconst (pc := 418) (v := 2) O dL_law_418 (by decide) ?_
  refine c_iadd (pc := 419) O dL_law_419 ?_
  refine c_sld (pc := 420) O hX q2 dL_law_420 ?_
  refine c_call2 (pc := 421) (dc := 112) (As := [.int (xs (x + 1).toNatClampNeg), .int (xs (x + 2).toNatClampNeg)]) (rest := [.int r]) O (sp_X6_heap h2) dL_law_421 mv_X6_heap lm_L_52 so_S2_0 rfl rfl (Nat.le_of_ble_eq_true rfl) (by decide) (by decide) (by decide) ?_
  show CW G X 424 (Lw b ad1 ad2 x) [.int r, .int r] (wo G S1 ad1 N1 ++ wo G S2 ad2 N2) 53 7137
  refine c_same (pc := 424) (tgt := 963) O dL_law_424 (by decide) ?_
  exact kk N1 N2 hN
set_option maxRecDepth 100000 in
theorem law_c9 (O : Oc G RL cL_law 4 1000 600000 7302250 X) (hX : Ox X b n xs) (hn : n ≤ 3072) {i : Nat} {x : Int32} (hx : x = nI i) (hi : i + 6 ≤ n) {Rel : Mm → Mm → Prop} (hst : St2 Rel f_X5_best f_X6_best) {M1 M2 : Mm} (hR : Rel M1 M2) (kk : ∀ N1 N2, Rel N1 N2 → CW G X 963 (Lw b ad1 ad2 x) [] (wo G S1 ad1 N1 ++ wo G S2 ad2 N2) 53 7137) : CW G X 429 (Lw b ad1 ad2 x) [] (wo G S1 ad1 M1 ++ wo G S2 ad2 M2) 53 7137 := by
  have q1 : vp_in (x + 1) n := (ix_in hx (show i + 1 < n by omega) (by omega)).1
  have q2 : vp_in (x + 2) n := (ix_in hx (show i + 2 < n by omega) (by omega)).1
  obtain ⟨r, N1, N2, h1, h2, hN⟩ := hst (xs (x + 1).toNatClampNeg) (xs (x + 2).toNatClampNeg) M1 M2 hR
  refine c_aload_n (pc := 429) O 1 dL_law_429 rfl ?_
  refine c_aload_n (pc := 430) O 0 dL_law_430 rfl ?_
  refine c_iload_n (pc := 431) O 3 dL_law_431 rfl ?_
  refine c_iconst (pc := 432) (v := 1) O dL_law_432 (by decide) ?_
  refine c_iadd (pc := 433) O dL_law_433 ?_
  refine c_sld (pc := 434) O hX q1 dL_law_434 ?_
  refine c_aload_n (pc := 435) O 0 dL_law_435 rfl ?_
  refine c_iload_n (pc := 436) O 3 dL_law_436 rfl ?_
  refine c_iconst (pc := 437) (v := 2) O dL_law_437 (by decide) ?_
  refine c_iadd (pc := 438) O dL_law_438 ?_
  refine c_sld (pc := 439) O hX q2 dL_law_439 ?_
  refine c_call1 (pc := 440) (dc := 7) (As := [.int (xs (x + 1).toNatClampNeg), .int (xs (x + 2).toNatClampNeg)]) (rest := []) O (sp_X5_best h1) dL_law_440 mv_X5_best lm_L_53 so_S1_0 rfl rfl (Nat.le_of_ble_eq_true rfl) (by decide) (by decide) (by decide) ?_
  show CW G X 443 (Lw b ad1 ad2 x) [.int r] (wo G S1 ad1 N1 ++ wo G S2 ad2 M2) 53 7137
  refine c_aload_n (pc := 443) O 2 dL_law_443 rfl ?_
  refine c_aload_n (pc := 444) O 0 dL_law_444 rfl ?_
  refine c_iload_n (pc := 445) O 3 dL_law_445 rfl ?_
  refine c_iconst (pc := 446) (v := 1) O dL_law_446 (by decide) ?_
  refine c_iadd (pc := 447) O dL_law_447 ?_
  refine c_sld (pc := 448) O hX q1 dL_law_448 ?_
  refine c_aload_n (pc := 449) O 0 dL_law_449 rfl ?_
  refine c_iload_n (pc := 450) O 3 dL_law_450 rfl ?_
  refine c_iconst (pc := 451) (v := 2) O dL_law_451 (by decide) ?_
  refine c_iadd (pc := 452) O dL_law_452 ?_
  refine c_sld (pc := 453) O hX q2 dL_law_453 ?_
  refine c_call2 (pc := 454) (dc := 213) (As := [.int (xs (x + 1).toNatClampNeg), .int (xs (x + 2).toNatClampNeg)]) (rest := [.int r]) O (sp_X6_best h2) dL_law_454 mv_X6_best lm_L_56 so_S2_0 rfl rfl (Nat.le_of_ble_eq_true rfl) (by decide) (by decide) (by decide) ?_
  show CW G X 457 (Lw b ad1 ad2 x) [.int r, .int r] (wo G S1 ad1 N1 ++ wo G S2 ad2 N2) 53 7137
  refine c_same (pc := 457) (tgt := 963) O dL_law_457 (by decide) ?_
  exact kk N1 N2 hN
set_option maxRecDepth 100000 in
theorem law_c10 (O : Oc G RL cL_law 4 1000 600000 7302250 X) (hX : Ox X b n xs) (hn : n ≤ 3072) {i : Nat} {x : Int32} (hx : x = nI i) (hi : i + 6 ≤ n) {Rel : Mm → Mm → Prop} (hst : St1 Rel f_X5_keep f_X6_keep) {M1 M2 : Mm} (hR : Rel M1 M2) (kk : ∀ N1 N2, Rel N1 N2 → CW G X 963 (Lw b ad1 ad2 x) [] (wo G S1 ad1 N1 ++ wo G S2 ad2 N2) 53 7137) : CW G X 462 (Lw b ad1 ad2 x) [] (wo G S1 ad1 M1 ++ wo G S2 ad2 M2) 53 7137 := by
  have q1 : vp_in (x + 1) n := (ix_in hx (show i + 1 < n by omega) (by omega)).1
  obtain ⟨r, N1, N2, h1, h2, hN⟩ := hst (xs (x + 1).toNatClampNeg) M1 M2 hR
  refine c_aload_n (pc := 462) O 1 dL_law_462 rfl ?_
  refine c_aload_n (pc := 463) O 0 dL_law_463 rfl ?_
  refine c_iload_n (pc := 464) O 3 dL_law_464 rfl ?_
  refine c_iconst (pc := 465) (v := 1) O dL_law_465 (by decide) ?_
  refine c_iadd (pc := 466) O dL_law_466 ?_
  refine c_sld (pc := 467) O hX q1 dL_law_467 ?_
  refine c_call1 (pc := 468) (dc := 7) (As := [.int (xs (x + 1).toNatClampNeg)]) (rest := []) O (sp_X5_keep h1) dL_law_468 mv_X5_keep lm_L_57 so_S1_0 rfl rfl (Nat.le_of_ble_eq_true rfl) (by decide) (by decide) (by decide) ?_
  show CW G X 471 (Lw b ad1 ad2 x) [.int r] (wo G S1 ad1 N1 ++ wo G S2 ad2 M2) 53 7137
  refine c_aload_n (pc := 471) O 2 dL_law_471 rfl ?_
  refine c_aload_n (pc := 472) O 0 dL_law_472 rfl ?_
  refine c_iload_n (pc := 473) O 3 dL_law_473 rfl ?_
  refine c_iconst (pc := 474) (v := 1) O dL_law_474 (by decide) ?_
  refine c_iadd (pc := 475) O dL_law_475 ?_
  refine c_sld (pc := 476) O hX q1 dL_law_476 ?_
  refine c_call2 (pc := 477) (dc := 112) (As := [.int (xs (x + 1).toNatClampNeg)]) (rest := [.int r]) O (sp_X6_keep h2) dL_law_477 mv_X6_keep lm_L_60 so_S2_0 rfl rfl (Nat.le_of_ble_eq_true rfl) (by decide) (by decide) (by decide) ?_
  show CW G X 480 (Lw b ad1 ad2 x) [.int r, .int r] (wo G S1 ad1 N1 ++ wo G S2 ad2 N2) 53 7137
  refine c_same (pc := 480) (tgt := 963) O dL_law_480 (by decide) ?_
  exact kk N1 N2 hN
set_option maxRecDepth 100000 in
theorem law_c11 (O : Oc G RL cL_law 4 1000 600000 7302250 X) (hX : Ox X b n xs) (hn : n ≤ 3072) {i : Nat} {x : Int32} (hx : x = nI i) (hi : i + 6 ≤ n) {Rel : Mm → Mm → Prop} (hst : St0 Rel f_X5_second f_X6_second) {M1 M2 : Mm} (hR : Rel M1 M2) (kk : ∀ N1 N2, Rel N1 N2 → CW G X 963 (Lw b ad1 ad2 x) [] (wo G S1 ad1 N1 ++ wo G S2 ad2 N2) 53 7137) : CW G X 485 (Lw b ad1 ad2 x) [] (wo G S1 ad1 M1 ++ wo G S2 ad2 M2) 53 7137 := by
  obtain ⟨r, N1, N2, h1, h2, hN⟩ := hst M1 M2 hR
  refine c_aload_n (pc := 485) O 1 dL_law_485 rfl ?_
  refine c_call1 (pc := 486) (dc := 7) (As := []) (rest := []) O (sp_X5_second h1) dL_law_486 mv_X5_second lm_L_61 so_S1_0 rfl rfl (Nat.le_of_ble_eq_true rfl) (by decide) (by decide) (by decide) ?_
  show CW G X 489 (Lw b ad1 ad2 x) [.int r] (wo G S1 ad1 N1 ++ wo G S2 ad2 M2) 53 7137
  refine c_aload_n (pc := 489) O 2 dL_law_489 rfl ?_
  refine c_call2 (pc := 490) (dc := 112) (As := []) (rest := [.int r]) O (sp_X6_second h2) dL_law_490 mv_X6_second lm_L_64 so_S2_0 rfl rfl (Nat.le_of_ble_eq_true rfl) (by decide) (by decide) (by decide) ?_
  show CW G X 493 (Lw b ad1 ad2 x) [.int r, .int r] (wo G S1 ad1 N1 ++ wo G S2 ad2 N2) 53 7137
  refine c_same (pc := 493) (tgt := 963) O dL_law_493 (by decide) ?_
  exact kk N1 N2 hN
set_option maxRecDepth 100000 in
theorem law_c12 (O : Oc G RL cL_law 4 1000 600000 7302250 X) (hX : Ox X b n xs) (hn : n ≤ 3072) {i : Nat} {x : Int32} (hx : x = nI i) (hi : i + 6 ≤ n) {Rel : Mm → Mm → Prop} (hst : St0 Rel f_X5_leave f_X6_leave) {M1 M2 : Mm} (hR : Rel M1 M2) (kk : ∀ N1 N2, Rel N1 N2 → CW G X 963 (Lw b ad1 ad2 x) [] (wo G S1 ad1 N1 ++ wo G S2 ad2 N2) 53 7137) : CW G X 498 (Lw b ad1 ad2 x) [] (wo G S1 ad1 M1 ++ wo G S2 ad2 M2) 53 7137 := by
  obtain ⟨r, N1, N2, h1, h2, hN⟩ := hst M1 M2 hR
  refine c_aload_n (pc := 498) O 1 dL_law_498 rfl ?_
  refine c_call1 (pc := 499) (dc := 7) (As := []) (rest := []) O (sp_X5_leave h1) dL_law_499 mv_X5_leave lm_L_65 so_S1_0 rfl rfl (Nat.le_of_ble_eq_true rfl) (by decide) (by decide) (by decide) ?_
  show CW G X 502 (Lw b ad1 ad2 x) [.int r] (wo G S1 ad1 N1 ++ wo G S2 ad2 M2) 53 7137
  refine c_aload_n (pc := 502) O 2 dL_law_502 rfl ?_
  refine c_call2 (pc := 503) (dc := 112) (As := []) (rest := [.int r]) O (sp_X6_leave h2) dL_law_503 mv_X6_leave lm_L_68 so_S2_0 rfl rfl (Nat.le_of_ble_eq_true rfl) (by decide) (by decide) (by decide) ?_
  show CW G X 506 (Lw b ad1 ad2 x) [.int r, .int r] (wo G S1 ad1 N1 ++ wo G S2 ad2 N2) 53 7137
  refine c_same (pc := 506) (tgt := 963) O dL_law_506 (by decide) ?_
  exact kk N1 N2 hN
set_option maxRecDepth 100000 in
theorem law_c13 (O : Oc G RL cL_law 4 1000 600000 7302250 X) (hX : Ox X b n xs) (hn : n ≤ 3072) {i : Nat} {x : Int32} (hx : x = nI i) (hi : i + 6 ≤ n) {Rel : Mm → Mm → Prop} (hst : St2 Rel f_X5_plates f_X6_plates) {M1 M2 : Mm} (hR : Rel M1 M2) (kk : ∀ N1 N2, Rel N1 N2 → CW G X 963 (Lw b ad1 ad2 x) [] (wo G S1 ad1 N1 ++ wo G S2 ad2 N2) 53 7137) : CW G X 511 (Lw b ad1 ad2 x) [] (wo G S1 ad1 M1 ++ wo G S2 ad2 M2) 53 7137 := by
  have q1 : vp_in (x + 1) n := (ix_in hx (show i + 1 < n by omega) (by omega)).1
  have q2 : vp_in (x + 2) n := (ix_in hx (show i + 2 < n by omega) (by omega)).1
  obtain ⟨r, N1, N2, h1, h2, hN⟩ := hst (xs (x + 1).toNatClampNeg) (xs (x + 2).toNatClampNeg) M1 M2 hR
  refine c_aload_n (pc := 511) O 1 dL_law_511 rfl ?_
  refine c_aload_n (pc := 512) O 0 dL_law_512 rfl ?_
  refine c_iload_n (pc := 513) O 3 dL_law_513 rfl ?_
  refine c_iconst (pc := 514) (v := 1) O dL_law_514 (by decide) ?_
  refine c_iadd (pc := 515) O dL_law_515 ?_
  refine c_sld (pc := 516) O hX q1 dL_law_516 ?_
  refine c_aload_n (pc := 517) O 0 dL_law_517 rfl ?_
  refine c_iload_n (pc := 518) O 3 dL_law_518 rfl ?_
  refine c_iconst (pc := 519) (v := 2) O dL_law_519 (by decide) ?_
  refine c_iadd (pc := 520) O dL_law_520 ?_
  refine c_sld (pc := 521) O hX q2 dL_law_521 ?_
  refine c_call1 (pc := 522) (dc := 8) (As := [.int (xs (x + 1).toNatClampNeg), .int (xs (x + 2).toNatClampNeg)]) (rest := []) O (sp_X5_plates h1) dL_law_522 mv_X5_plates lm_L_69 so_S1_0 rfl rfl (Nat.le_of_ble_eq_true rfl) (by decide) (by decide) (by decide) ?_
  show CW G X 525 (Lw b ad1 ad2 x) [.long r] (wo G S1 ad1 N1 ++ wo G S2 ad2 M2) 53 7137
  refine c_aload_n (pc := 525) O 2 dL_law_525 rfl ?_
  refine c_aload_n (pc := 526) O 0 dL_law_526 rfl ?_
  refine c_iload_n (pc := 527) O 3 dL_law_527 rfl ?_
  refine c_iconst (pc := 528) (v := 1) O dL_law_528 (by decide) ?_
  refine c_iadd (pc := 529) O dL_law_529 ?_
  refine c_sld (pc := 530) O hX q1 dL_law_530 ?_
  refine c_aload_n (pc := 531) O 0 dL_law_531 rfl ?_
  refine c_iload_n (pc := 532) O 3 dL_law_532 rfl ?_
  refine c_iconst (pc := 533) (v := 2) O dL_law_533 (by decide) ?_
  refine c_iadd (pc := 534) O dL_law_534 ?_
  refine c_sld (pc := 535) O hX q2 dL_law_535 ?_
  refine c_call2 (pc := 536) (dc := 112) (As := [.int (xs (x + 1).toNatClampNeg), .int (xs (x + 2).toNatClampNeg)]) (rest := [.long r]) O (sp_X6_plates h2) dL_law_536 mv_X6_plates lm_L_73 so_S2_0 rfl rfl (Nat.le_of_ble_eq_true rfl) (by decide) (by decide) (by decide) ?_
  show CW G X 539 (Lw b ad1 ad2 x) [.long r, .long r] (wo G S1 ad1 N1 ++ wo G S2 ad2 N2) 53 7137
  refine c_samel (pc := 539) (tgt := 963) O dL_law_539 dL_law_540 (by decide) ?_
  exact kk N1 N2 hN
set_option maxRecDepth 100000 in
theorem law_c14 (O : Oc G RL cL_law 4 1000 600000 7302250 X) (hX : Ox X b n xs) (hn : n ≤ 3072) {i : Nat} {x : Int32} (hx : x = nI i) (hi : i + 6 ≤ n) {Rel : Mm → Mm → Prop} (hst : St2 Rel f_X5_eaten f_X6_eaten) {M1 M2 : Mm} (hR : Rel M1 M2) (kk : ∀ N1 N2, Rel N1 N2 → CW G X 963 (Lw b ad1 ad2 x) [] (wo G S1 ad1 N1 ++ wo G S2 ad2 N2) 53 7137) : CW G X 545 (Lw b ad1 ad2 x) [] (wo G S1 ad1 M1 ++ wo G S2 ad2 M2) 53 7137 := by
  have q1 : vp_in (x + 1) n := (ix_in hx (show i + 1 < n by omega) (by omega)).1
  have q2 : vp_in (x + 2) n := (ix_in hx (show i + 2 < n by omega) (by omega)).1
  obtain ⟨r, N1, N2, h1, h2, hN⟩ := hst (xs (x + 1).toNatClampNeg) (xs (x + 2).toNatClampNeg) M1 M2 hR
  refine c_aload_n (pc := 545) O 1 dL_law_545 rfl ?_
  refine c_aload_n (pc := 546) O 0 dL_law_546 rfl ?_
  refine c_iload_n (pc := 547) O 3 dL_law_547 rfl ?_
  refine c_iconst (pc := 548) (v := 1) O dL_law_548 (by decide) ?_
  refine c_iadd (pc := 549) O dL_law_549 ?_
  refine c_sld (pc := 550) O hX q1 dL_law_550 ?_
  refine c_aload_n (pc := 551) O 0 dL_law_551 rfl ?_
  refine c_iload_n (pc := 552) O 3 dL_law_552 rfl ?_
  refine c_iconst (pc := 553) (v := 2) O dL_law_553 (by decide) ?_
  refine c_iadd (pc := 554) O dL_law_554 ?_
  refine c_sld (pc := 555) O hX q2 dL_law_555 ?_
  refine c_call1 (pc := 556) (dc := 8) (As := [.int (xs (x + 1).toNatClampNeg), .int (xs (x + 2).toNatClampNeg)]) (rest := []) O (sp_X5_eaten h1) dL_law_556 mv_X5_eaten lm_L_74 so_S1_0 rfl rfl (Nat.le_of_ble_eq_true rfl) (by decide) (by decide) (by decide) ?_
  show CW G X 559 (Lw b ad1 ad2 x) [.int r] (wo G S1 ad1 N1 ++ wo G S2 ad2 M2) 53 7137
  refine c_aload_n (pc := 559) O 2 dL_law_559 rfl ?_
  refine c_aload_n (pc := 560) O 0 dL_law_560 rfl ?_
  refine c_iload_n (pc := 561) O 3 dL_law_561 rfl ?_
  refine c_iconst (pc := 562) (v := 1) O dL_law_562 (by decide) ?_
  refine c_iadd (pc := 563) O dL_law_563 ?_
  refine c_sld (pc := 564) O hX q1 dL_law_564 ?_
  refine c_aload_n (pc := 565) O 0 dL_law_565 rfl ?_
  refine c_iload_n (pc := 566) O 3 dL_law_566 rfl ?_
  refine c_iconst (pc := 567) (v := 2) O dL_law_567 (by decide) ?_
  refine c_iadd (pc := 568) O dL_law_568 ?_
  refine c_sld (pc := 569) O hX q2 dL_law_569 ?_
  refine c_call2 (pc := 570) (dc := 112) (As := [.int (xs (x + 1).toNatClampNeg), .int (xs (x + 2).toNatClampNeg)]) (rest := [.int r]) O (sp_X6_eaten h2) dL_law_570 mv_X6_eaten lm_L_77 so_S2_0 rfl rfl (Nat.le_of_ble_eq_true rfl) (by decide) (by decide) (by decide) ?_
  show CW G X 573 (Lw b ad1 ad2 x) [.int r, .int r] (wo G S1 ad1 N1 ++ wo G S2 ad2 N2) 53 7137
  refine c_same (pc := 573) (tgt := 963) O dL_law_573 (by decide) ?_
  exact kk N1 N2 hN
set_option maxRecDepth 100000 in
theorem law_c15 (O : Oc G RL cL_law 4 1000 600000 7302250 X) (hX : Ox X b n xs) (hn : n ≤ 3072) {i : Nat} {x : Int32} (hx : x = nI i) (hi : i + 6 ≤ n) {Rel : Mm → Mm → Prop} (hst : St2 Rel f_X5_film f_X6_film) {M1 M2 : Mm} (hR : Rel M1 M2) (kk : ∀ N1 N2, Rel N1 N2 → CW G X 963 (Lw b ad1 ad2 x) [] (wo G S1 ad1 N1 ++ wo G S2 ad2 N2) 53 7137) : CW G X 578 (Lw b ad1 ad2 x) [] (wo G S1 ad1 M1 ++ wo G S2 ad2 M2) 53 7137 := by
  have q1 : vp_in (x + 1) n := (ix_in hx (show i + 1 < n by omega) (by omega)).1
  have q2 : vp_in (x + 2) n := (ix_in hx (show i + 2 < n by omega) (by omega)).1
  obtain ⟨r, N1, N2, h1, h2, hN⟩ := hst (xs (x + 1).toNatClampNeg) (xs (x + 2).toNatClampNeg) M1 M2 hR
  refine c_aload_n (pc := 578) O 1 dL_law_578 rfl ?_
  refine c_aload_n (pc := 579) O 0 dL_law_579 rfl ?_
  refine c_iload_n (pc := 580) O 3 dL_law_580 rfl ?_
  refine c_iconst (pc := 581) (v := 1) O dL_law_581 (by decide) ?_
  refine c_iadd (pc := 582) O dL_law_582 ?_
  refine c_sld (pc := 583) O hX q1 dL_law_583 ?_
  refine c_aload_n (pc := 584) O 0 dL_law_584 rfl ?_
  refine c_iload_n (pc := 585) O 3 dL_law_585 rfl ?_
  refine c_iconst (pc := 586) (v := 2) O dL_law_586 (by decide) ?_
  refine c_iadd (pc := 587) O dL_law_587 ?_
  refine c_sld (pc := 588) O hX q2 dL_law_588 ?_
  refine c_call1 (pc := 589) (dc := 7) (As := [.int (xs (x + 1).toNatClampNeg), .int (xs (x + 2).toNatClampNeg)]) (rest := []) O (sp_X5_film h1) dL_law_589 mv_X5_film lm_L_78 so_S1_0 rfl rfl (Nat.le_of_ble_eq_true rfl) (by decide) (by decide) (by decide) ?_
  show CW G X 592 (Lw b ad1 ad2 x) [.int r] (wo G S1 ad1 N1 ++ wo G S2 ad2 M2) 53 7137
  refine c_aload_n (pc := 592) O 2 dL_law_592 rfl ?_
  refine c_aload_n (pc := 593) O 0 dL_law_593 rfl ?_
  refine c_iload_n (pc := 594) O 3 dL_law_594 rfl ?_
  refine c_iconst (pc := 595) (v := 1) O dL_law_595 (by decide) ?_
  refine c_iadd (pc := 596) O dL_law_596 ?_
  refine c_sld (pc := 597) O hX q1 dL_law_597 ?_
  refine c_aload_n (pc := 598) O 0 dL_law_598 rfl ?_
  refine c_iload_n (pc := 599) O 3 dL_law_599 rfl ?_
  refine c_iconst (pc := 600) (v := 2) O dL_law_600 (by decide) ?_
  refine c_iadd (pc := 601) O dL_law_601 ?_
  refine c_sld (pc := 602) O hX q2 dL_law_602 ?_
  refine c_call2 (pc := 603) (dc := 112) (As := [.int (xs (x + 1).toNatClampNeg), .int (xs (x + 2).toNatClampNeg)]) (rest := [.int r]) O (sp_X6_film h2) dL_law_603 mv_X6_film lm_L_81 so_S2_0 rfl rfl (Nat.le_of_ble_eq_true rfl) (by decide) (by decide) (by decide) ?_
  show CW G X 606 (Lw b ad1 ad2 x) [.int r, .int r] (wo G S1 ad1 N1 ++ wo G S2 ad2 N2) 53 7137
  refine c_same (pc := 606) (tgt := 963) O dL_law_606 (by decide) ?_
  exact kk N1 N2 hN
set_option maxRecDepth 100000 in
theorem law_c16 (O : Oc G RL cL_law 4 1000 600000 7302250 X) (hX : Ox X b n xs) (hn : n ≤ 3072) {i : Nat} {x : Int32} (hx : x = nI i) (hi : i + 6 ≤ n) {Rel : Mm → Mm → Prop} (hst : St1 Rel f_X5_drawn f_X6_drawn) {M1 M2 : Mm} (hR : Rel M1 M2) (kk : ∀ N1 N2, Rel N1 N2 → CW G X 963 (Lw b ad1 ad2 x) [] (wo G S1 ad1 N1 ++ wo G S2 ad2 N2) 53 7137) : CW G X 611 (Lw b ad1 ad2 x) [] (wo G S1 ad1 M1 ++ wo G S2 ad2 M2) 53 7137 := by
  have q1 : vp_in (x + 1) n := (ix_in hx (show i + 1 < n by omega) (by omega)).1
  obtain ⟨r, N1, N2, h1, h2, hN⟩ := hst (xs (x + 1).toNatClampNeg) M1 M2 hR
  refine c_aload_n (pc := 611) O 1 dL_law_611 rfl ?_
  refine c_aload_n (pc := 612) O 0 dL_law_612 rfl ?_
  refine c_iload_n (pc := 613) O 3 dL_law_613 rfl ?_
  refine c_iconst (pc := 614) (v := 1) O dL_law_614 (by decide) ?_
  refine c_iadd (pc := 615) O dL_law_615 ?_
  refine c_sld (pc := 616) O hX q1 dL_law_616 ?_
  refine c_call1 (pc := 617) (dc := 7) (As := [.int (xs (x + 1).toNatClampNeg)]) (rest := []) O (sp_X5_drawn h1) dL_law_617 mv_X5_drawn lm_L_82 so_S1_0 rfl rfl (Nat.le_of_ble_eq_true rfl) (by decide) (by decide) (by decide) ?_
  show CW G X 620 (Lw b ad1 ad2 x) [.long r] (wo G S1 ad1 N1 ++ wo G S2 ad2 M2) 53 7137
  refine c_aload_n (pc := 620) O 2 dL_law_620 rfl ?_
  refine c_aload_n (pc := 621) O 0 dL_law_621 rfl ?_
  refine c_iload_n (pc := 622) O 3 dL_law_622 rfl ?_
  refine c_iconst (pc := 623) (v := 1) O dL_law_623 (by decide) ?_
  refine c_iadd (pc := 624) O dL_law_624 ?_
  refine c_sld (pc := 625) O hX q1 dL_law_625 ?_
  refine c_call2 (pc := 626) (dc := 113) (As := [.int (xs (x + 1).toNatClampNeg)]) (rest := [.long r]) O (sp_X6_drawn h2) dL_law_626 mv_X6_drawn lm_L_86 so_S2_0 rfl rfl (Nat.le_of_ble_eq_true rfl) (by decide) (by decide) (by decide) ?_
  show CW G X 629 (Lw b ad1 ad2 x) [.long r, .long r] (wo G S1 ad1 N1 ++ wo G S2 ad2 N2) 53 7137
  refine c_samel (pc := 629) (tgt := 963) O dL_law_629 dL_law_630 (by decide) ?_
  exact kk N1 N2 hN
set_option maxRecDepth 100000 in
theorem law_c17 (O : Oc G RL cL_law 4 1000 600000 7302250 X) (hX : Ox X b n xs) (hn : n ≤ 3072) {i : Nat} {x : Int32} (hx : x = nI i) (hi : i + 6 ≤ n) {Rel : Mm → Mm → Prop} (hst : St3 Rel f_X5_chance f_X6_chance) {M1 M2 : Mm} (hR : Rel M1 M2) (kk : ∀ N1 N2, Rel N1 N2 → CW G X 963 (Lw b ad1 ad2 x) [] (wo G S1 ad1 N1 ++ wo G S2 ad2 N2) 53 7137) : CW G X 635 (Lw b ad1 ad2 x) [] (wo G S1 ad1 M1 ++ wo G S2 ad2 M2) 53 7137 := by
  have q1 : vp_in (x + 1) n := (ix_in hx (show i + 1 < n by omega) (by omega)).1
  have q2 : vp_in (x + 2) n := (ix_in hx (show i + 2 < n by omega) (by omega)).1
  have q3 : vp_in (x + 3) n := (ix_in hx (show i + 3 < n by omega) (by omega)).1
  obtain ⟨r, N1, N2, h1, h2, hN⟩ := hst (xs (x + 1).toNatClampNeg) (xs (x + 2).toNatClampNeg) (xs (x + 3).toNatClampNeg) M1 M2 hR
  refine c_aload_n (pc := 635) O 1 dL_law_635 rfl ?_
  refine c_aload_n (pc := 636) O 0 dL_law_636 rfl ?_
  refine c_iload_n (pc := 637) O 3 dL_law_637 rfl ?_
  refine c_iconst (pc := 638) (v := 1) O dL_law_638 (by decide) ?_
  refine c_iadd (pc := 639) O dL_law_639 ?_
  refine c_sld (pc := 640) O hX q1 dL_law_640 ?_
  refine c_aload_n (pc := 641) O 0 dL_law_641 rfl ?_
  refine c_iload_n (pc := 642) O 3 dL_law_642 rfl ?_
  refine c_iconst (pc := 643) (v := 2) O dL_law_643 (by decide) ?_
  refine c_iadd (pc := 644) O dL_law_644 ?_
  refine c_sld (pc := 645) O hX q2 dL_law_645 ?_
  refine c_aload_n (pc := 646) O 0 dL_law_646 rfl ?_
  refine c_iload_n (pc := 647) O 3 dL_law_647 rfl ?_
  refine c_iconst (pc := 648) (v := 3) O dL_law_648 (by decide) ?_
  refine c_iadd (pc := 649) O dL_law_649 ?_
  refine c_sld (pc := 650) O hX q3 dL_law_650 ?_
  refine c_call1 (pc := 651) (dc := 7) (As := [.int (xs (x + 1).toNatClampNeg), .int (xs (x + 2).toNatClampNeg), .int (xs (x + 3).toNatClampNeg)]) (rest := []) O (sp_X5_chance h1) dL_law_651 mv_X5_chance lm_L_87 so_S1_0 rfl rfl (Nat.le_of_ble_eq_true rfl) (by decide) (by decide) (by decide) ?_
  show CW G X 654 (Lw b ad1 ad2 x) [.long r] (wo G S1 ad1 N1 ++ wo G S2 ad2 M2) 53 7137
  refine c_aload_n (pc := 654) O 2 dL_law_654 rfl ?_
  refine c_aload_n (pc := 655) O 0 dL_law_655 rfl ?_
  refine c_iload_n (pc := 656) O 3 dL_law_656 rfl ?_
  refine c_iconst (pc := 657) (v := 1) O dL_law_657 (by decide) ?_
  refine c_iadd (pc := 658) O dL_law_658 ?_
  refine c_sld (pc := 659) O hX q1 dL_law_659 ?_
  refine c_aload_n (pc := 660) O 0 dL_law_660 rfl ?_
  refine c_iload_n (pc := 661) O 3 dL_law_661 rfl ?_
  refine c_iconst (pc := 662) (v := 2) O dL_law_662 (by decide) ?_
  refine c_iadd (pc := 663) O dL_law_663 ?_
  refine c_sld (pc := 664) O hX q2 dL_law_664 ?_
  refine c_aload_n (pc := 665) O 0 dL_law_665 rfl ?_
  refine c_iload_n (pc := 666) O 3 dL_law_666 rfl ?_
  refine c_iconst (pc := 667) (v := 3) O dL_law_667 (by decide) ?_
  refine c_iadd (pc := 668) O dL_law_668 ?_
  refine c_sld (pc := 669) O hX q3 dL_law_669 ?_
  refine c_call2 (pc := 670) (dc := 113) (As := [.int (xs (x + 1).toNatClampNeg), .int (xs (x + 2).toNatClampNeg), .int (xs (x + 3).toNatClampNeg)]) (rest := [.long r]) O (sp_X6_chance h2) dL_law_670 mv_X6_chance lm_L_91 so_S2_0 rfl rfl (Nat.le_of_ble_eq_true rfl) (by decide) (by decide) (by decide) ?_
  show CW G X 673 (Lw b ad1 ad2 x) [.long r, .long r] (wo G S1 ad1 N1 ++ wo G S2 ad2 N2) 53 7137
  refine c_samel (pc := 673) (tgt := 963) O dL_law_673 dL_law_674 (by decide) ?_
  exact kk N1 N2 hN
set_option maxRecDepth 100000 in
theorem law_c18 (O : Oc G RL cL_law 4 1000 600000 7302250 X) (hX : Ox X b n xs) (hn : n ≤ 3072) {i : Nat} {x : Int32} (hx : x = nI i) (hi : i + 6 ≤ n) {Rel : Mm → Mm → Prop} (hst : St0 Rel f_X5_image f_X6_image) {M1 M2 : Mm} (hR : Rel M1 M2) (kk : ∀ N1 N2, Rel N1 N2 → CW G X 963 (Lw b ad1 ad2 x) [] (wo G S1 ad1 N1 ++ wo G S2 ad2 N2) 53 7137) : CW G X 679 (Lw b ad1 ad2 x) [] (wo G S1 ad1 M1 ++ wo G S2 ad2 M2) 53 7137 := by
  obtain ⟨r, N1, N2, h1, h2, hN⟩ := hst M1 M2 hR
  refine c_aload_n (pc := 679) O 1 dL_law_679 rfl ?_
  refine c_call1 (pc := 680) (dc := 2) (As := []) (rest := []) O (sp_X5_image h1) dL_law_680 mv_X5_image lm_L_92 so_S1_0 rfl rfl (Nat.le_of_ble_eq_true rfl) (by decide) (by decide) (by decide) ?_
  show CW G X 683 (Lw b ad1 ad2 x) [.int r] (wo G S1 ad1 N1 ++ wo G S2 ad2 M2) 53 7137
  refine c_aload_n (pc := 683) O 2 dL_law_683 rfl ?_
  refine c_call2 (pc := 684) (dc := 1) (As := []) (rest := [.int r]) O (sp_X6_image h2) dL_law_684 mv_X6_image lm_L_95 so_S2_0 rfl rfl (Nat.le_of_ble_eq_true rfl) (by decide) (by decide) (by decide) ?_
  show CW G X 687 (Lw b ad1 ad2 x) [.int r, .int r] (wo G S1 ad1 N1 ++ wo G S2 ad2 N2) 53 7137
  refine c_same (pc := 687) (tgt := 963) O dL_law_687 (by decide) ?_
  exact kk N1 N2 hN
set_option maxRecDepth 100000 in
theorem law_c19 (O : Oc G RL cL_law 4 1000 600000 7302250 X) (hX : Ox X b n xs) (hn : n ≤ 3072) {i : Nat} {x : Int32} (hx : x = nI i) (hi : i + 6 ≤ n) {Rel : Mm → Mm → Prop} (hst : St0 Rel f_X5_back f_X6_back) {M1 M2 : Mm} (hR : Rel M1 M2) (kk : ∀ N1 N2, Rel N1 N2 → CW G X 963 (Lw b ad1 ad2 x) [] (wo G S1 ad1 N1 ++ wo G S2 ad2 N2) 53 7137) : CW G X 692 (Lw b ad1 ad2 x) [] (wo G S1 ad1 M1 ++ wo G S2 ad2 M2) 53 7137 := by
  obtain ⟨r, N1, N2, h1, h2, hN⟩ := hst M1 M2 hR
  refine c_aload_n (pc := 692) O 1 dL_law_692 rfl ?_
  refine c_call1 (pc := 693) (dc := 2) (As := []) (rest := []) O (sp_X5_back h1) dL_law_693 mv_X5_back lm_L_96 so_S1_0 rfl rfl (Nat.le_of_ble_eq_true rfl) (by decide) (by decide) (by decide) ?_
  show CW G X 696 (Lw b ad1 ad2 x) [.int r] (wo G S1 ad1 N1 ++ wo G S2 ad2 M2) 53 7137
  refine c_aload_n (pc := 696) O 2 dL_law_696 rfl ?_
  refine c_call2 (pc := 697) (dc := 1) (As := []) (rest := [.int r]) O (sp_X6_back h2) dL_law_697 mv_X6_back lm_L_99 so_S2_0 rfl rfl (Nat.le_of_ble_eq_true rfl) (by decide) (by decide) (by decide) ?_
  show CW G X 700 (Lw b ad1 ad2 x) [.int r, .int r] (wo G S1 ad1 N1 ++ wo G S2 ad2 N2) 53 7137
  refine c_same (pc := 700) (tgt := 963) O dL_law_700 (by decide) ?_
  exact kk N1 N2 hN
set_option maxRecDepth 100000 in
theorem law_c20 (O : Oc G RL cL_law 4 1000 600000 7302250 X) (hX : Ox X b n xs) (hn : n ≤ 3072) {i : Nat} {x : Int32} (hx : x = nI i) (hi : i + 6 ≤ n) {Rel : Mm → Mm → Prop} (hst : St1 Rel f_X5_count f_X6_count) {M1 M2 : Mm} (hR : Rel M1 M2) (kk : ∀ N1 N2, Rel N1 N2 → CW G X 963 (Lw b ad1 ad2 x) [] (wo G S1 ad1 N1 ++ wo G S2 ad2 N2) 53 7137) : CW G X 705 (Lw b ad1 ad2 x) [] (wo G S1 ad1 M1 ++ wo G S2 ad2 M2) 53 7137 := by
  have q1 : vp_in (x + 1) n := (ix_in hx (show i + 1 < n by omega) (by omega)).1
  obtain ⟨r, N1, N2, h1, h2, hN⟩ := hst (xs (x + 1).toNatClampNeg) M1 M2 hR
  refine c_aload_n (pc := 705) O 1 dL_law_705 rfl ?_
  refine c_aload_n (pc := 706) O 0 dL_law_706 rfl ?_
  refine c_iload_n (pc := 707) O 3 dL_law_707 rfl ?_
  refine c_iconst (pc := 708) (v := 1) O dL_law_708 (by decide) ?_
  refine c_iadd (pc := 709) O dL_law_709 ?_
  refine c_sld (pc := 710) O hX q1 dL_law_710 ?_
  refine c_call1 (pc := 711) (dc := 4) (As := [.int (xs (x + 1).toNatClampNeg)]) (rest := []) O (sp_X5_count h1) dL_law_711 mv_X5_count lm_L_100 so_S1_0 rfl rfl (Nat.le_of_ble_eq_true rfl) (by decide) (by decide) (by decide) ?_
  show CW G X 714 (Lw b ad1 ad2 x) [.int r] (wo G S1 ad1 N1 ++ wo G S2 ad2 M2) 53 7137
  refine c_aload_n (pc := 714) O 2 dL_law_714 rfl ?_
  refine c_aload_n (pc := 715) O 0 dL_law_715 rfl ?_
  refine c_iload_n (pc := 716) O 3 dL_law_716 rfl ?_
  refine c_iconst (pc := 717) (v := 1) O dL_law_717 (by decide) ?_
  refine c_iadd (pc := 718) O dL_law_718 ?_
  refine c_sld (pc := 719) O hX q1 dL_law_719 ?_
  refine c_call2 (pc := 720) (dc := 111) (As := [.int (xs (x + 1).toNatClampNeg)]) (rest := [.int r]) O (sp_X6_count h2) dL_law_720 mv_X6_count lm_L_103 so_S2_0 rfl rfl (Nat.le_of_ble_eq_true rfl) (by decide) (by decide) (by decide) ?_
  show CW G X 723 (Lw b ad1 ad2 x) [.int r, .int r] (wo G S1 ad1 N1 ++ wo G S2 ad2 N2) 53 7137
  refine c_same (pc := 723) (tgt := 963) O dL_law_723 (by decide) ?_
  exact kk N1 N2 hN
set_option maxRecDepth 100000 in
theorem law_c21 (O : Oc G RL cL_law 4 1000 600000 7302250 X) (hX : Ox X b n xs) (hn : n ≤ 3072) {i : Nat} {x : Int32} (hx : x = nI i) (hi : i + 6 ≤ n) {Rel : Mm → Mm → Prop} (hst : St3 Rel f_X5_sheet f_X6_sheet) {M1 M2 : Mm} (hR : Rel M1 M2) (kk : ∀ N1 N2, Rel N1 N2 → CW G X 963 (Lw b ad1 ad2 x) [] (wo G S1 ad1 N1 ++ wo G S2 ad2 N2) 53 7137) : CW G X 728 (Lw b ad1 ad2 x) [] (wo G S1 ad1 M1 ++ wo G S2 ad2 M2) 53 7137 := by
  have q1 : vp_in (x + 1) n := (ix_in hx (show i + 1 < n by omega) (by omega)).1
  have q2 : vp_in (x + 2) n := (ix_in hx (show i + 2 < n by omega) (by omega)).1
  have q3 : vp_in (x + 3) n := (ix_in hx (show i + 3 < n by omega) (by omega)).1
  obtain ⟨r, N1, N2, h1, h2, hN⟩ := hst (xs (x + 1).toNatClampNeg) (xs (x + 2).toNatClampNeg) (xs (x + 3).toNatClampNeg) M1 M2 hR
  refine c_aload_n (pc := 728) O 1 dL_law_728 rfl ?_
  refine c_aload_n (pc := 729) O 0 dL_law_729 rfl ?_
  refine c_iload_n (pc := 730) O 3 dL_law_730 rfl ?_
  refine c_iconst (pc := 731) (v := 1) O dL_law_731 (by decide) ?_
  refine c_iadd (pc := 732) O dL_law_732 ?_
  refine c_sld (pc := 733) O hX q1 dL_law_733 ?_
  refine c_aload_n (pc := 734) O 0 dL_law_734 rfl ?_
  refine c_iload_n (pc := 735) O 3 dL_law_735 rfl ?_
  refine c_iconst (pc := 736) (v := 2) O dL_law_736 (by decide) ?_
  refine c_iadd (pc := 737) O dL_law_737 ?_
  refine c_sld (pc := 738) O hX q2 dL_law_738 ?_
  refine c_aload_n (pc := 739) O 0 dL_law_739 rfl ?_
  refine c_iload_n (pc := 740) O 3 dL_law_740 rfl ?_
  refine c_iconst (pc := 741) (v := 3) O dL_law_741 (by decide) ?_
  refine c_iadd (pc := 742) O dL_law_742 ?_
  refine c_sld (pc := 743) O hX q3 dL_law_743 ?_
  refine c_call1 (pc := 744) (dc := 3) (As := [.int (xs (x + 1).toNatClampNeg), .int (xs (x + 2).toNatClampNeg), .int (xs (x + 3).toNatClampNeg)]) (rest := []) O (sp_X5_sheet h1) dL_law_744 mv_X5_sheet lm_L_104 so_S1_0 rfl rfl (Nat.le_of_ble_eq_true rfl) (by decide) (by decide) (by decide) ?_
  show CW G X 747 (Lw b ad1 ad2 x) [.int r] (wo G S1 ad1 N1 ++ wo G S2 ad2 M2) 53 7137
  refine c_aload_n (pc := 747) O 2 dL_law_747 rfl ?_
  refine c_aload_n (pc := 748) O 0 dL_law_748 rfl ?_
  refine c_iload_n (pc := 749) O 3 dL_law_749 rfl ?_
  refine c_iconst (pc := 750) (v := 1) O dL_law_750 (by decide) ?_
  refine c_iadd (pc := 751) O dL_law_751 ?_
  refine c_sld (pc := 752) O hX q1 dL_law_752 ?_
  refine c_aload_n (pc := 753) O 0 dL_law_753 rfl ?_
  refine c_iload_n (pc := 754) O 3 dL_law_754 rfl ?_
  refine c_iconst (pc := 755) (v := 2) O dL_law_755 (by decide) ?_
  refine c_iadd (pc := 756) O dL_law_756 ?_
  refine c_sld (pc := 757) O hX q2 dL_law_757 ?_
  refine c_aload_n (pc := 758) O 0 dL_law_758 rfl ?_
  refine c_iload_n (pc := 759) O 3 dL_law_759 rfl ?_
  refine c_iconst (pc := 760) (v := 3) O dL_law_760 (by decide) ?_
  refine c_iadd (pc := 761) O dL_law_761 ?_
  refine c_sld (pc := 762) O hX q3 dL_law_762 ?_
  refine c_call2 (pc := 763) (dc := 3) (As := [.int (xs (x + 1).toNatClampNeg), .int (xs (x + 2).toNatClampNeg), .int (xs (x + 3).toNatClampNeg)]) (rest := [.int r]) O (sp_X6_sheet h2) dL_law_763 mv_X6_sheet lm_L_107 so_S2_0 rfl rfl (Nat.le_of_ble_eq_true rfl) (by decide) (by decide) (by decide) ?_
  show CW G X 766 (Lw b ad1 ad2 x) [.int r, .int r] (wo G S1 ad1 N1 ++ wo G S2 ad2 N2) 53 7137
  refine c_same (pc := 766) (tgt := 963) O dL_law_766 (by decide) ?_
  exact kk N1 N2 hN
set_option maxRecDepth 100000 in
theorem law_c22 (O : Oc G RL cL_law 4 1000 600000 7302250 X) (hX : Ox X b n xs) (hn : n ≤ 3072) {i : Nat} {x : Int32} (hx : x = nI i) (hi : i + 6 ≤ n) {Rel : Mm → Mm → Prop} (hst : St3 Rel f_X5_cell f_X6_cell) {M1 M2 : Mm} (hR : Rel M1 M2) (kk : ∀ N1 N2, Rel N1 N2 → CW G X 963 (Lw b ad1 ad2 x) [] (wo G S1 ad1 N1 ++ wo G S2 ad2 N2) 53 7137) : CW G X 771 (Lw b ad1 ad2 x) [] (wo G S1 ad1 M1 ++ wo G S2 ad2 M2) 53 7137 := by
  have q1 : vp_in (x + 1) n := (ix_in hx (show i + 1 < n by omega) (by omega)).1
  have q2 : vp_in (x + 2) n := (ix_in hx (show i + 2 < n by omega) (by omega)).1
  have q3 : vp_in (x + 3) n := (ix_in hx (show i + 3 < n by omega) (by omega)).1
  obtain ⟨r, N1, N2, h1, h2, hN⟩ := hst (xs (x + 1).toNatClampNeg) (xs (x + 2).toNatClampNeg) (xs (x + 3).toNatClampNeg) M1 M2 hR
  refine c_aload_n (pc := 771) O 1 dL_law_771 rfl ?_
  refine c_aload_n (pc := 772) O 0 dL_law_772 rfl ?_
  refine c_iload_n (pc := 773) O 3 dL_law_773 rfl ?_
  refine c_iconst (pc := 774) (v := 1) O dL_law_774 (by decide) ?_
  refine c_iadd (pc := 775) O dL_law_775 ?_
  refine c_sld (pc := 776) O hX q1 dL_law_776 ?_
  refine c_aload_n (pc := 777) O 0 dL_law_777 rfl ?_
  refine c_iload_n (pc := 778) O 3 dL_law_778 rfl ?_
  refine c_iconst (pc := 779) (v := 2) O dL_law_779 (by decide) ?_
  refine c_iadd (pc := 780) O dL_law_780 ?_
  refine c_sld (pc := 781) O hX q2 dL_law_781 ?_
  refine c_aload_n (pc := 782) O 0 dL_law_782 rfl ?_
  refine c_iload_n (pc := 783) O 3 dL_law_783 rfl ?_
  refine c_iconst (pc := 784) (v := 3) O dL_law_784 (by decide) ?_
  refine c_iadd (pc := 785) O dL_law_785 ?_
  refine c_sld (pc := 786) O hX q3 dL_law_786 ?_
  refine c_call1 (pc := 787) (dc := 5) (As := [.int (xs (x + 1).toNatClampNeg), .int (xs (x + 2).toNatClampNeg), .int (xs (x + 3).toNatClampNeg)]) (rest := []) O (sp_X5_cell h1) dL_law_787 mv_X5_cell lm_L_108 so_S1_0 rfl rfl (Nat.le_of_ble_eq_true rfl) (by decide) (by decide) (by decide) ?_
  show CW G X 790 (Lw b ad1 ad2 x) [.int r] (wo G S1 ad1 N1 ++ wo G S2 ad2 M2) 53 7137
  refine c_aload_n (pc := 790) O 2 dL_law_790 rfl ?_
  refine c_aload_n (pc := 791) O 0 dL_law_791 rfl ?_
  refine c_iload_n (pc := 792) O 3 dL_law_792 rfl ?_
  refine c_iconst (pc := 793) (v := 1) O dL_law_793 (by decide) ?_
  refine c_iadd (pc := 794) O dL_law_794 ?_
  refine c_sld (pc := 795) O hX q1 dL_law_795 ?_
  refine c_aload_n (pc := 796) O 0 dL_law_796 rfl ?_
  refine c_iload_n (pc := 797) O 3 dL_law_797 rfl ?_
  refine c_iconst (pc := 798) (v := 2) O dL_law_798 (by decide) ?_
  refine c_iadd (pc := 799) O dL_law_799 ?_
  refine c_sld (pc := 800) O hX q2 dL_law_800 ?_
  refine c_aload_n (pc := 801) O 0 dL_law_801 rfl ?_
  refine c_iload_n (pc := 802) O 3 dL_law_802 rfl ?_
  refine c_iconst (pc := 803) (v := 3) O dL_law_803 (by decide) ?_
  refine c_iadd (pc := 804) O dL_law_804 ?_
  refine c_sld (pc := 805) O hX q3 dL_law_805 ?_
  refine c_call2 (pc := 806) (dc := 3) (As := [.int (xs (x + 1).toNatClampNeg), .int (xs (x + 2).toNatClampNeg), .int (xs (x + 3).toNatClampNeg)]) (rest := [.int r]) O (sp_X6_cell h2) dL_law_806 mv_X6_cell lm_L_111 so_S2_0 rfl rfl (Nat.le_of_ble_eq_true rfl) (by decide) (by decide) (by decide) ?_
  show CW G X 809 (Lw b ad1 ad2 x) [.int r, .int r] (wo G S1 ad1 N1 ++ wo G S2 ad2 N2) 53 7137
  refine c_same (pc := 809) (tgt := 963) O dL_law_809 (by decide) ?_
  exact kk N1 N2 hN
set_option maxRecDepth 100000 in
theorem law_c23 (O : Oc G RL cL_law 4 1000 600000 7302250 X) (hX : Ox X b n xs) (hn : n ≤ 3072) {i : Nat} {x : Int32} (hx : x = nI i) (hi : i + 6 ≤ n) {Rel : Mm → Mm → Prop} (hst : St5 Rel f_X5_copy f_X6_copy) {M1 M2 : Mm} (hR : Rel M1 M2) (kk : ∀ N1 N2, Rel N1 N2 → CW G X 963 (Lw b ad1 ad2 x) [] (wo G S1 ad1 N1 ++ wo G S2 ad2 N2) 53 7137) : CW G X 814 (Lw b ad1 ad2 x) [] (wo G S1 ad1 M1 ++ wo G S2 ad2 M2) 53 7137 := by
  have q1 : vp_in (x + 1) n := (ix_in hx (show i + 1 < n by omega) (by omega)).1
  have q2 : vp_in (x + 2) n := (ix_in hx (show i + 2 < n by omega) (by omega)).1
  have q3 : vp_in (x + 3) n := (ix_in hx (show i + 3 < n by omega) (by omega)).1
  have q4 : vp_in (x + 4) n := (ix_in hx (show i + 4 < n by omega) (by omega)).1
  have q5 : vp_in (x + 5) n := (ix_in hx (show i + 5 < n by omega) (by omega)).1
  obtain ⟨r, N1, N2, h1, h2, hN⟩ := hst (xs (x + 1).toNatClampNeg) (xs (x + 2).toNatClampNeg) (xs (x + 3).toNatClampNeg) (xs (x + 4).toNatClampNeg) (xs (x + 5).toNatClampNeg) M1 M2 hR
  refine c_aload_n (pc := 814) O 1 dL_law_814 rfl ?_
  refine c_aload_n (pc := 815) O 0 dL_law_815 rfl ?_
  refine c_iload_n (pc := 816) O 3 dL_law_816 rfl ?_
  refine c_iconst (pc := 817) (v := 1) O dL_law_817 (by decide) ?_
  refine c_iadd (pc := 818) O dL_law_818 ?_
  refine c_sld (pc := 819) O hX q1 dL_law_819 ?_
  refine c_aload_n (pc := 820) O 0 dL_law_820 rfl ?_
  refine c_iload_n (pc := 821) O 3 dL_law_821 rfl ?_
  refine c_iconst (pc := 822) (v := 2) O dL_law_822 (by decide) ?_
  refine c_iadd (pc := 823) O dL_law_823 ?_
  refine c_sld (pc := 824) O hX q2 dL_law_824 ?_
  refine c_aload_n (pc := 825) O 0 dL_law_825 rfl ?_
  refine c_iload_n (pc := 826) O 3 dL_law_826 rfl ?_
  refine c_iconst (pc := 827) (v := 3) O dL_law_827 (by decide) ?_
  refine c_iadd (pc := 828) O dL_law_828 ?_
  refine c_sld (pc := 829) O hX q3 dL_law_829 ?_
  refine c_aload_n (pc := 830) O 0 dL_law_830 rfl ?_
  refine c_iload_n (pc := 831) O 3 dL_law_831 rfl ?_
  refine c_iconst (pc := 832) (v := 4) O dL_law_832 (by decide) ?_
  refine c_iadd (pc := 833) O dL_law_833 ?_
  refine c_sld (pc := 834) O hX q4 dL_law_834 ?_
  refine c_aload_n (pc := 835) O 0 dL_law_835 rfl ?_
  refine c_iload_n (pc := 836) O 3 dL_law_836 rfl ?_
  refine c_iconst (pc := 837) (v := 5) O dL_law_837 (by decide) ?_
  refine c_iadd (pc := 838) O dL_law_838 ?_
  refine c_sld (pc := 839) O hX q5 dL_law_839 ?_
  refine c_call1 (pc := 840) (dc := 5) (As := [.int (xs (x + 1).toNatClampNeg), .int (xs (x + 2).toNatClampNeg), .int (xs (x + 3).toNatClampNeg), .int (xs (x + 4).toNatClampNeg), .int (xs (x + 5).toNatClampNeg)]) (rest := []) O (sp_X5_copy h1) dL_law_840 mv_X5_copy lm_L_112 so_S1_0 rfl rfl (Nat.le_of_ble_eq_true rfl) (by decide) (by decide) (by decide) ?_
  show CW G X 843 (Lw b ad1 ad2 x) [.int r] (wo G S1 ad1 N1 ++ wo G S2 ad2 M2) 53 7137
  refine c_aload_n (pc := 843) O 2 dL_law_843 rfl ?_
  refine c_aload_n (pc := 844) O 0 dL_law_844 rfl ?_
  refine c_iload_n (pc := 845) O 3 dL_law_845 rfl ?_
  refine c_iconst (pc := 846) (v := 1) O dL_law_846 (by decide) ?_
  refine c_iadd (pc := 847) O dL_law_847 ?_
  refine c_sld (pc := 848) O hX q1 dL_law_848 ?_
  refine c_aload_n (pc := 849) O 0 dL_law_849 rfl ?_
  refine c_iload_n (pc := 850) O 3 dL_law_850 rfl ?_
  refine c_iconst (pc := 851) (v := 2) O dL_law_851 (by decide) ?_
  refine c_iadd (pc := 852) O dL_law_852 ?_
  refine c_sld (pc := 853) O hX q2 dL_law_853 ?_
  refine c_aload_n (pc := 854) O 0 dL_law_854 rfl ?_
  refine c_iload_n (pc := 855) O 3 dL_law_855 rfl ?_
  refine c_iconst (pc := 856) (v := 3) O dL_law_856 (by decide) ?_
  refine c_iadd (pc := 857) O dL_law_857 ?_
  refine c_sld (pc := 858) O hX q3 dL_law_858 ?_
  refine c_aload_n (pc := 859) O 0 dL_law_859 rfl ?_
  refine c_iload_n (pc := 860) O 3 dL_law_860 rfl ?_
  refine c_iconst (pc := 861) (v := 4) O dL_law_861 (by decide) ?_
  refine c_iadd (pc := 862) O dL_law_862 ?_
  refine c_sld (pc := 863) O hX q4 dL_law_863 ?_
  refine c_aload_n (pc := 864) O 0 dL_law_864 rfl ?_
  refine c_iload_n (pc := 865) O 3 dL_law_865 rfl ?_
  refine c_iconst (pc := 866) (v := 5) O dL_law_866 (by decide) ?_
  refine c_iadd (pc := 867) O dL_law_867 ?_
  refine c_sld (pc := 868) O hX q5 dL_law_868 ?_
  refine c_call2 (pc := 869) (dc := 3) (As := [.int (xs (x + 1).toNatClampNeg), .int (xs (x + 2).toNatClampNeg), .int (xs (x + 3).toNatClampNeg), .int (xs (x + 4).toNatClampNeg), .int (xs (x + 5).toNatClampNeg)]) (rest := [.int r]) O (sp_X6_copy h2) dL_law_869 mv_X6_copy lm_L_116 so_S2_0 rfl rfl (Nat.le_of_ble_eq_true rfl) (by decide) (by decide) (by decide) ?_
  show CW G X 872 (Lw b ad1 ad2 x) [.int r, .int r] (wo G S1 ad1 N1 ++ wo G S2 ad2 N2) 53 7137
  refine c_same (pc := 872) (tgt := 963) O dL_law_872 (by decide) ?_
  exact kk N1 N2 hN
set_option maxRecDepth 100000 in
theorem law_c24 (O : Oc G RL cL_law 4 1000 600000 7302250 X) (hX : Ox X b n xs) (hn : n ≤ 3072) {i : Nat} {x : Int32} (hx : x = nI i) (hi : i + 6 ≤ n) {Rel : Mm → Mm → Prop} (hst : St4 Rel f_X5_eaters f_X6_eaters) {M1 M2 : Mm} (hR : Rel M1 M2) (kk : ∀ N1 N2, Rel N1 N2 → CW G X 963 (Lw b ad1 ad2 x) [] (wo G S1 ad1 N1 ++ wo G S2 ad2 N2) 53 7137) : CW G X 877 (Lw b ad1 ad2 x) [] (wo G S1 ad1 M1 ++ wo G S2 ad2 M2) 53 7137 := by
  have q1 : vp_in (x + 1) n := (ix_in hx (show i + 1 < n by omega) (by omega)).1
  have q2 : vp_in (x + 2) n := (ix_in hx (show i + 2 < n by omega) (by omega)).1
  have q3 : vp_in (x + 3) n := (ix_in hx (show i + 3 < n by omega) (by omega)).1
  have q4 : vp_in (x + 4) n := (ix_in hx (show i + 4 < n by omega) (by omega)).1
  obtain ⟨r, N1, N2, h1, h2, hN⟩ := hst (xs (x + 1).toNatClampNeg) (xs (x + 2).toNatClampNeg) (xs (x + 3).toNatClampNeg) (xs (x + 4).toNatClampNeg) M1 M2 hR
  refine c_aload_n (pc := 877) O 1 dL_law_877 rfl ?_
  refine c_aload_n (pc := 878) O 0 dL_law_878 rfl ?_
  refine c_iload_n (pc := 879) O 3 dL_law_879 rfl ?_
  refine c_iconst (pc := 880) (v := 1) O dL_law_880 (by decide) ?_
  refine c_iadd (pc := 881) O dL_law_881 ?_
  refine c_sld (pc := 882) O hX q1 dL_law_882 ?_
  refine c_aload_n (pc := 883) O 0 dL_law_883 rfl ?_
  refine c_iload_n (pc := 884) O 3 dL_law_884 rfl ?_
  refine c_iconst (pc := 885) (v := 2) O dL_law_885 (by decide) ?_
  refine c_iadd (pc := 886) O dL_law_886 ?_
  refine c_sld (pc := 887) O hX q2 dL_law_887 ?_
  refine c_aload_n (pc := 888) O 0 dL_law_888 rfl ?_
  refine c_iload_n (pc := 889) O 3 dL_law_889 rfl ?_
  refine c_iconst (pc := 890) (v := 3) O dL_law_890 (by decide) ?_
  refine c_iadd (pc := 891) O dL_law_891 ?_
  refine c_sld (pc := 892) O hX q3 dL_law_892 ?_
  refine c_aload_n (pc := 893) O 0 dL_law_893 rfl ?_
  refine c_iload_n (pc := 894) O 3 dL_law_894 rfl ?_
  refine c_iconst (pc := 895) (v := 4) O dL_law_895 (by decide) ?_
  refine c_iadd (pc := 896) O dL_law_896 ?_
  refine c_sld (pc := 897) O hX q4 dL_law_897 ?_
  refine c_call1 (pc := 898) (dc := 5) (As := [.int (xs (x + 1).toNatClampNeg), .int (xs (x + 2).toNatClampNeg), .int (xs (x + 3).toNatClampNeg), .int (xs (x + 4).toNatClampNeg)]) (rest := []) O (sp_X5_eaters h1) dL_law_898 mv_X5_eaters lm_L_117 so_S1_0 rfl rfl (Nat.le_of_ble_eq_true rfl) (by decide) (by decide) (by decide) ?_
  show CW G X 901 (Lw b ad1 ad2 x) [.int r] (wo G S1 ad1 N1 ++ wo G S2 ad2 M2) 53 7137
  refine c_aload_n (pc := 901) O 2 dL_law_901 rfl ?_
  refine c_aload_n (pc := 902) O 0 dL_law_902 rfl ?_
  refine c_iload_n (pc := 903) O 3 dL_law_903 rfl ?_
  refine c_iconst (pc := 904) (v := 1) O dL_law_904 (by decide) ?_
  refine c_iadd (pc := 905) O dL_law_905 ?_
  refine c_sld (pc := 906) O hX q1 dL_law_906 ?_
  refine c_aload_n (pc := 907) O 0 dL_law_907 rfl ?_
  refine c_iload_n (pc := 908) O 3 dL_law_908 rfl ?_
  refine c_iconst (pc := 909) (v := 2) O dL_law_909 (by decide) ?_
  refine c_iadd (pc := 910) O dL_law_910 ?_
  refine c_sld (pc := 911) O hX q2 dL_law_911 ?_
  refine c_aload_n (pc := 912) O 0 dL_law_912 rfl ?_
  refine c_iload_n (pc := 913) O 3 dL_law_913 rfl ?_
  refine c_iconst (pc := 914) (v := 3) O dL_law_914 (by decide) ?_
  refine c_iadd (pc := 915) O dL_law_915 ?_
  refine c_sld (pc := 916) O hX q3 dL_law_916 ?_
  refine c_aload_n (pc := 917) O 0 dL_law_917 rfl ?_
  refine c_iload_n (pc := 918) O 3 dL_law_918 rfl ?_
  refine c_iconst (pc := 919) (v := 4) O dL_law_919 (by decide) ?_
  refine c_iadd (pc := 920) O dL_law_920 ?_
  refine c_sld (pc := 921) O hX q4 dL_law_921 ?_
  refine c_call2 (pc := 922) (dc := 3) (As := [.int (xs (x + 1).toNatClampNeg), .int (xs (x + 2).toNatClampNeg), .int (xs (x + 3).toNatClampNeg), .int (xs (x + 4).toNatClampNeg)]) (rest := [.int r]) O (sp_X6_eaters h2) dL_law_922 mv_X6_eaters lm_L_121 so_S2_0 rfl rfl (Nat.le_of_ble_eq_true rfl) (by decide) (by decide) (by decide) ?_
  show CW G X 925 (Lw b ad1 ad2 x) [.int r, .int r] (wo G S1 ad1 N1 ++ wo G S2 ad2 N2) 53 7137
  refine c_same (pc := 925) (tgt := 963) O dL_law_925 (by decide) ?_
  exact kk N1 N2 hN
set_option maxRecDepth 100000 in
theorem law_c25 (O : Oc G RL cL_law 4 1000 600000 7302250 X) (hX : Ox X b n xs) (hn : n ≤ 3072) {i : Nat} {x : Int32} (hx : x = nI i) (hi : i + 6 ≤ n) {Rel : Mm → Mm → Prop} (hst : St2 Rel f_X5_taken f_X6_taken) {M1 M2 : Mm} (hR : Rel M1 M2) (kk : ∀ N1 N2, Rel N1 N2 → CW G X 963 (Lw b ad1 ad2 x) [] (wo G S1 ad1 N1 ++ wo G S2 ad2 N2) 53 7137) : CW G X 930 (Lw b ad1 ad2 x) [] (wo G S1 ad1 M1 ++ wo G S2 ad2 M2) 53 7137 := by
  have q1 : vp_in (x + 1) n := (ix_in hx (show i + 1 < n by omega) (by omega)).1
  have q2 : vp_in (x + 2) n := (ix_in hx (show i + 2 < n by omega) (by omega)).1
  obtain ⟨r, N1, N2, h1, h2, hN⟩ := hst (xs (x + 1).toNatClampNeg) (xs (x + 2).toNatClampNeg) M1 M2 hR
  refine c_aload_n (pc := 930) O 1 dL_law_930 rfl ?_
  refine c_aload_n (pc := 931) O 0 dL_law_931 rfl ?_
  refine c_iload_n (pc := 932) O 3 dL_law_932 rfl ?_
  refine c_iconst (pc := 933) (v := 1) O dL_law_933 (by decide) ?_
  refine c_iadd (pc := 934) O dL_law_934 ?_
  refine c_sld (pc := 935) O hX q1 dL_law_935 ?_
  refine c_aload_n (pc := 936) O 0 dL_law_936 rfl ?_
  refine c_iload_n (pc := 937) O 3 dL_law_937 rfl ?_
  refine c_iconst (pc := 938) (v := 2) O dL_law_938 (by decide) ?_
  refine c_iadd (pc := 939) O dL_law_939 ?_
  refine c_sld (pc := 940) O hX q2 dL_law_940 ?_
  refine c_call1 (pc := 941) (dc := 3) (As := [.int (xs (x + 1).toNatClampNeg), .int (xs (x + 2).toNatClampNeg)]) (rest := []) O (sp_X5_taken h1) dL_law_941 mv_X5_taken lm_L_122 so_S1_0 rfl rfl (Nat.le_of_ble_eq_true rfl) (by decide) (by decide) (by decide) ?_
  show CW G X 944 (Lw b ad1 ad2 x) [.int r] (wo G S1 ad1 N1 ++ wo G S2 ad2 M2) 53 7137
  refine c_aload_n (pc := 944) O 2 dL_law_944 rfl ?_
  refine c_aload_n (pc := 945) O 0 dL_law_945 rfl ?_
  refine c_iload_n (pc := 946) O 3 dL_law_946 rfl ?_
  refine c_iconst (pc := 947) (v := 1) O dL_law_947 (by decide) ?_
  refine c_iadd (pc := 948) O dL_law_948 ?_
  refine c_sld (pc := 949) O hX q1 dL_law_949 ?_
  refine c_aload_n (pc := 950) O 0 dL_law_950 rfl ?_
  refine c_iload_n (pc := 951) O 3 dL_law_951 rfl ?_
  refine c_iconst (pc := 952) (v := 2) O dL_law_952 (by decide) ?_
  refine c_iadd (pc := 953) O dL_law_953 ?_
  refine c_sld (pc := 954) O hX q2 dL_law_954 ?_
  refine c_call2 (pc := 955) (dc := 3) (As := [.int (xs (x + 1).toNatClampNeg), .int (xs (x + 2).toNatClampNeg)]) (rest := [.int r]) O (sp_X6_taken h2) dL_law_955 mv_X6_taken lm_L_125 so_S2_0 rfl rfl (Nat.le_of_ble_eq_true rfl) (by decide) (by decide) (by decide) ?_
  show CW G X 958 (Lw b ad1 ad2 x) [.int r, .int r] (wo G S1 ad1 N1 ++ wo G S2 ad2 N2) 53 7137
  refine c_same (pc := 958) (tgt := 963) O dL_law_958 (by decide) ?_
  exact kk N1 N2 hN
def Steps (Rel : Mm → Mm → Prop) : Prop := St3 Rel f_X5_set f_X6_set ∧ St3 Rel f_X5_eater f_X6_eater ∧ St2 Rel f_X5_told f_X6_told ∧ St1 Rel f_X5_ready f_X6_ready ∧ St1 Rel f_X5_feed f_X6_feed ∧ St0 Rel f_X5_text f_X6_text ∧ St1 Rel f_X5_force f_X6_force ∧ St3 Rel f_X5_supper f_X6_supper ∧ St2 Rel f_X5_heap f_X6_heap ∧ St2 Rel f_X5_best f_X6_best ∧ St1 Rel f_X5_keep f_X6_keep ∧ St0 Rel f_X5_second f_X6_second ∧ St0 Rel f_X5_leave f_X6_leave ∧ St2 Rel f_X5_plates f_X6_plates ∧ St2 Rel f_X5_eaten f_X6_eaten ∧ St2 Rel f_X5_film f_X6_film ∧ St1 Rel f_X5_drawn f_X6_drawn ∧ St3 Rel f_X5_chance f_X6_chance ∧ St0 Rel f_X5_image f_X6_image ∧ St0 Rel f_X5_back f_X6_back ∧ St1 Rel f_X5_count f_X6_count ∧ St3 Rel f_X5_sheet f_X6_sheet ∧ St3 Rel f_X5_cell f_X6_cell ∧ St5 Rel f_X5_copy f_X6_copy ∧ St4 Rel f_X5_eaters f_X6_eaters ∧ St2 Rel f_X5_taken f_X6_taken
set_option maxRecDepth 100000 in
set_option maxHeartbeats 4000000 in
theorem law_loop (O : Oc G RL cL_law 4 1000 600000 7302250 X) (hX : Ox X b n xs) (hn : n ≤ 3072) {Rel : Mm → Mm → Prop} (hst : Steps Rel) (hend : ∀ (M1 M2 : Mm) (x : Int32), CW G X 969 (Lw b ad1 ad2 x) [] (wo G S1 ad1 M1 ++ wo G S2 ad2 M2) 53 7137) : ∀ (k i : Nat) (M1 M2 : Mm) (x : Int32), x = nI i → i ≤ n → n - i < k → Rel M1 M2 → CW G X 18 (Lw b ad1 ad2 x) [] (wo G S1 ad1 M1 ++ wo G S2 ad2 M2) 53 7137 := by
  intro k
  induction k with
  | zero => intro i M1 M2 x hx hi hk; omega
  | succ k ih =>
    intro i M1 M2 x hx hi hk hR
    refine c_iload_n (pc := 18) O 3 dL_law_18 rfl ?_
    refine c_aload_n (pc := 19) O 0 dL_law_19 rfl ?_
    refine c_slen (pc := 20) O hX dL_law_20 ?_
    refine c_bipush (pc := 21) (v := 6) O dL_law_21 (by decide) ?_
    refine c_isub (pc := 23) O dL_law_23 ?_
    refine c_gt (pc := 24) (tgt := 969) O dL_law_24 (by decide) (fun _ => hend M1 M2 x) (fun hc => ?_)
    have hle : i + 6 ≤ n := by
      have e : (nI n - nI 6).toInt = (n : Int) - 6 := pk_sub_toInt (by omega) (by omega)
      have hc' : ¬ (nI n - nI 6) < x := hc
      rw [Int32.lt_iff_toInt_lt, e, hx, nI_toInt (by omega)] at hc'
      omega
    have cont : ∀ N1 N2, Rel N1 N2 → CW G X 963 (Lw b ad1 ad2 x) [] (wo G S1 ad1 N1 ++ wo G S2 ad2 N2) 53 7137 := by
      intro N1 N2 hN
      refine c_iinc (pc := 963) (y := x + 6) (L' := [(3, .int (x + 6)), (0, .ref b), (1, .ref (ad1 0)), (2, .ref (ad2 0))]) O 3 dL_law_963 rfl rfl (by decide) rfl ?_
      refine c_goto (pc := 966) (tgt := 18) O dL_law_966 (by decide) ?_
      refine c_sub [1, 2, 3, 0] (L' := Lw b ad1 ad2 (x + 6)) rfl ?_
      exact ih (i + 6) N1 N2 (x + 6) (by rw [hx]; exact nI_add i 6) hle (by omega) hN
    have q0 : vp_in x n := by rw [hx]; exact vp_in_nI (by omega) (by omega)
    refine c_aload_n (pc := 27) O 0 dL_law_27 rfl ?_
    refine c_iload_n (pc := 28) O 3 dL_law_28 rfl ?_
    refine c_sld (pc := 29) O hX q0 dL_law_29 ?_
    refine c_bipush (pc := 30) (v := 31) O dL_law_30 (by decide) ?_
    refine c_iand (pc := 32) O dL_law_32 ?_
    generalize xs x.toNatClampNeg &&& 31 = y
    obtain ⟨s0, s1, s2, s3, s4, s5, s6, s7, s8, s9, s10, s11, s12, s13, s14, s15, s16, s17, s18, s19, s20, s21, s22, s23, s24, s25⟩ := hst
    by_cases n0 : y = 0
    · subst n0
      exact c_tin (pc := 33) (tgt := 152) O dL_law_33 (by decide) (by decide) rfl (by decide) (law_c0 O hX hn hx hle s0 hR cont)
    by_cases n1 : y = 1
    · subst n1
      exact c_tin (pc := 33) (tgt := 195) O dL_law_33 (by decide) (by decide) rfl (by decide) (law_c1 O hX hn hx hle s1 hR cont)
    by_cases n2 : y = 2
    · subst n2
      exact c_tin (pc := 33) (tgt := 238) O dL_law_33 (by decide) (by decide) rfl (by decide) (law_c2 O hX hn hx hle s2 hR cont)
    by_cases n3 : y = 3
    · subst n3
      exact c_tin (pc := 33) (tgt := 271) O dL_law_33 (by decide) (by decide) rfl (by decide) (law_c3 O hX hn hx hle s3 hR cont)
    by_cases n4 : y = 4
    · subst n4
      exact c_tin (pc := 33) (tgt := 294) O dL_law_33 (by decide) (by decide) rfl (by decide) (law_c4 O hX hn hx hle s4 hR cont)
    by_cases n5 : y = 5
    · subst n5
      exact c_tin (pc := 33) (tgt := 317) O dL_law_33 (by decide) (by decide) rfl (by decide) (law_c5 O hX hn hx hle s5 hR cont)
    by_cases n6 : y = 6
    · subst n6
      exact c_tin (pc := 33) (tgt := 330) O dL_law_33 (by decide) (by decide) rfl (by decide) (law_c6 O hX hn hx hle s6 hR cont)
    by_cases n7 : y = 7
    · subst n7
      exact c_tin (pc := 33) (tgt := 353) O dL_law_33 (by decide) (by decide) rfl (by decide) (law_c7 O hX hn hx hle s7 hR cont)
    by_cases n8 : y = 8
    · subst n8
      exact c_tin (pc := 33) (tgt := 396) O dL_law_33 (by decide) (by decide) rfl (by decide) (law_c8 O hX hn hx hle s8 hR cont)
    by_cases n9 : y = 9
    · subst n9
      exact c_tin (pc := 33) (tgt := 429) O dL_law_33 (by decide) (by decide) rfl (by decide) (law_c9 O hX hn hx hle s9 hR cont)
    by_cases n10 : y = 10
    · subst n10
      exact c_tin (pc := 33) (tgt := 462) O dL_law_33 (by decide) (by decide) rfl (by decide) (law_c10 O hX hn hx hle s10 hR cont)
    by_cases n11 : y = 11
    · subst n11
      exact c_tin (pc := 33) (tgt := 485) O dL_law_33 (by decide) (by decide) rfl (by decide) (law_c11 O hX hn hx hle s11 hR cont)
    by_cases n12 : y = 12
    · subst n12
      exact c_tin (pc := 33) (tgt := 498) O dL_law_33 (by decide) (by decide) rfl (by decide) (law_c12 O hX hn hx hle s12 hR cont)
    by_cases n13 : y = 13
    · subst n13
      exact c_tin (pc := 33) (tgt := 511) O dL_law_33 (by decide) (by decide) rfl (by decide) (law_c13 O hX hn hx hle s13 hR cont)
    by_cases n14 : y = 14
    · subst n14
      exact c_tin (pc := 33) (tgt := 545) O dL_law_33 (by decide) (by decide) rfl (by decide) (law_c14 O hX hn hx hle s14 hR cont)
    by_cases n15 : y = 15
    · subst n15
      exact c_tin (pc := 33) (tgt := 578) O dL_law_33 (by decide) (by decide) rfl (by decide) (law_c15 O hX hn hx hle s15 hR cont)
    by_cases n16 : y = 16
    · subst n16
      exact c_tin (pc := 33) (tgt := 611) O dL_law_33 (by decide) (by decide) rfl (by decide) (law_c16 O hX hn hx hle s16 hR cont)
    by_cases n17 : y = 17
    · subst n17
      exact c_tin (pc := 33) (tgt := 635) O dL_law_33 (by decide) (by decide) rfl (by decide) (law_c17 O hX hn hx hle s17 hR cont)
    by_cases n18 : y = 18
    · subst n18
      exact c_tin (pc := 33) (tgt := 679) O dL_law_33 (by decide) (by decide) rfl (by decide) (law_c18 O hX hn hx hle s18 hR cont)
    by_cases n19 : y = 19
    · subst n19
      exact c_tin (pc := 33) (tgt := 692) O dL_law_33 (by decide) (by decide) rfl (by decide) (law_c19 O hX hn hx hle s19 hR cont)
    by_cases n20 : y = 20
    · subst n20
      exact c_tin (pc := 33) (tgt := 705) O dL_law_33 (by decide) (by decide) rfl (by decide) (law_c20 O hX hn hx hle s20 hR cont)
    by_cases n21 : y = 21
    · subst n21
      exact c_tin (pc := 33) (tgt := 728) O dL_law_33 (by decide) (by decide) rfl (by decide) (law_c21 O hX hn hx hle s21 hR cont)
    by_cases n22 : y = 22
    · subst n22
      exact c_tin (pc := 33) (tgt := 771) O dL_law_33 (by decide) (by decide) rfl (by decide) (law_c22 O hX hn hx hle s22 hR cont)
    by_cases n23 : y = 23
    · subst n23
      exact c_tin (pc := 33) (tgt := 814) O dL_law_33 (by decide) (by decide) rfl (by decide) (law_c23 O hX hn hx hle s23 hR cont)
    by_cases n24 : y = 24
    · subst n24
      exact c_tin (pc := 33) (tgt := 877) O dL_law_33 (by decide) (by decide) rfl (by decide) (law_c24 O hX hn hx hle s24 hR cont)
    by_cases n25 : y = 25
    · subst n25
      exact c_tin (pc := 33) (tgt := 930) O dL_law_33 (by decide) (by decide) rfl (by decide) (law_c25 O hX hn hx hle s25 hR cont)
    have z0 := lv_neT (a := 0) n0 (by decide)
    have z1 := lv_neT (a := 1) n1 (by decide)
    have z2 := lv_neT (a := 2) n2 (by decide)
    have z3 := lv_neT (a := 3) n3 (by decide)
    have z4 := lv_neT (a := 4) n4 (by decide)
    have z5 := lv_neT (a := 5) n5 (by decide)
    have z6 := lv_neT (a := 6) n6 (by decide)
    have z7 := lv_neT (a := 7) n7 (by decide)
    have z8 := lv_neT (a := 8) n8 (by decide)
    have z9 := lv_neT (a := 9) n9 (by decide)
    have z10 := lv_neT (a := 10) n10 (by decide)
    have z11 := lv_neT (a := 11) n11 (by decide)
    have z12 := lv_neT (a := 12) n12 (by decide)
    have z13 := lv_neT (a := 13) n13 (by decide)
    have z14 := lv_neT (a := 14) n14 (by decide)
    have z15 := lv_neT (a := 15) n15 (by decide)
    have z16 := lv_neT (a := 16) n16 (by decide)
    have z17 := lv_neT (a := 17) n17 (by decide)
    have z18 := lv_neT (a := 18) n18 (by decide)
    have z19 := lv_neT (a := 19) n19 (by decide)
    have z20 := lv_neT (a := 20) n20 (by decide)
    have z21 := lv_neT (a := 21) n21 (by decide)
    have z22 := lv_neT (a := 22) n22 (by decide)
    have z23 := lv_neT (a := 23) n23 (by decide)
    have z24 := lv_neT (a := 24) n24 (by decide)
    have z25 := lv_neT (a := 25) n25 (by decide)
    exact c_tout (pc := 33) (tgt := 963) O dL_law_33 (by omega) (by decide) (cont M1 M2 hR)
end LAW

/-! The law's cases. -/
abbrev LL (i : Int32) : List (Nat × Value) := [(1, .ref 0), (2, .ref 96), (3, .int i)]
def LSt (X : XT) (b0 : Nat) (i : Int32) : Prop := ∀ (I : MI) (L : ML) (p : Nat → Nat) (s : Sg), VC whn I p s → VM I s → GW s → GL X b0 106 2753 18 (LL i) [] (HM X I L p)
section
variable {X : XT} {b0 Ln : Nat} {xs' : Nat → Int32} {I : MI} {L : ML} {p : Nat → Nat} {s : Sg} {i : Int32}
theorem law_shaft (hX : Cx X cL_law 4 RL wsL_law room_1) (hs : va_X b0 Ln xs' (xs X) (xs X).heap) (hb : b0 < (xs X).heap.size) (hE : (xE X).1 = (xs X).heap.size) (h1 : vp_in (i + 1) Ln) (h2 : vp_in (i + 2) Ln) (k : LSt X b0 (i + 5)) (hV : VC whn I p s) (hM : VM I s) (hW : GW s) : GL X b0 106 2753 140 (LL i) [] (HM X I L p) := by
  obtain ⟨I1, L1, p1, hC, hV1, f1, g1⟩ := k_shaft (E := xE X) (l := xl X) (L := L) hV hW (xs' (i + 1).toNatClampNeg) (xs' (i + 2).toNatClampNeg)
  have hM1 := VM_high hM f1
  obtain ⟨I2, hC2, hM2, f2⟩ := m_shaft (E := xE X) (l := xl X) (L := L1) (p := p1) hM1 hW (xs' (i + 1).toNatClampNeg) (xs' (i + 2).toNatClampNeg)
  have hW2 : GW (opn (aShaft (xs' (i + 1).toNatClampNeg) (xs' (i + 2).toNatClampNeg)) s).2 := GW_opn hW (aShaft_WF hW.1 (xs' (i + 1).toNatClampNeg) (xs' (i + 2).toNatClampNeg))
  refine gl_aload_n hX 0 rfl rfl dL_law_140 ?_
  refine gl_sld (j := 2) (c := 1) hX hs hb hE rfl rfl rfl h1 (by decide) dL_law_141 dL_law_142 dL_law_143 dL_law_144 dL_law_145 ?_
  refine gl_sld (j := 2) (c := 2) hX hs hb hE rfl rfl rfl h2 (by decide) dL_law_146 dL_law_147 dL_law_148 dL_law_149 dL_law_150 ?_
  refine gl_callV (cs' := 106) (sl' := 2753) (C := RX5) (as := [.int (xs' (i + 1).toNatClampNeg), .int (xs' (i + 2).toNatClampNeg)]) (st := []) hX hC hPW sn0 so0 rfl gL_law_X5_shaft rfl rfl rfl ydX5_shaft (by decide) (Nat.le_of_ble_eq_true rfl) (by decide) dL_law_151 rfl rfl ?_
  refine gl_aload_n hX 1 rfl rfl dL_law_154 ?_
  refine gl_sld (j := 2) (c := 1) hX hs hb hE rfl rfl rfl h1 (by decide) dL_law_155 dL_law_156 dL_law_157 dL_law_158 dL_law_159 ?_
  refine gl_sld (j := 2) (c := 2) hX hs hb hE rfl rfl rfl h2 (by decide) dL_law_160 dL_law_161 dL_law_162 dL_law_163 dL_law_164 ?_
  refine gl_callV (cs' := 106) (sl' := 2753) (C := RX6) (as := [.int (xs' (i + 1).toNatClampNeg), .int (xs' (i + 2).toNatClampNeg)]) (st := [.int _]) hX hC2 hPW sn96 so96 rfl gL_law_X6_shaft rfl rfl rfl ydX6_shaft (by decide) (Nat.le_of_ble_eq_true rfl) (by decide) dL_law_165 rfl rfl ?_
  refine gl_icmp_eq (tgt := 781) hX dL_law_168 (by decide) (fun _ => ?_) (fun h => absurd rfl h)
  refine gl_iinc (v := i + 5) (ls' := LL (i + 5)) hX 2 rfl dL_law_781 rfl (by decide) (by decide) rfl ?_
  exact gl_goto (tgt := 18) hX dL_law_784 (by decide) (k _ _ _ _ (VC_low hV1 hW2.2.1 f2) hM2 hW2)
theorem law_sets (hX : Cx X cL_law 4 RL wsL_law room_1) (hs : va_X b0 Ln xs' (xs X) (xs X).heap) (hb : b0 < (xs X).heap.size) (hE : (xE X).1 = (xs X).heap.size) (h1 : vp_in (i + 1) Ln) (h2 : vp_in (i + 2) Ln) (h3 : vp_in (i + 3) Ln) (k : LSt X b0 (i + 5)) (hV : VC whn I p s) (hM : VM I s) (hW : GW s) : GL X b0 106 2753 173 (LL i) [] (HM X I L p) := by
  obtain ⟨I1, L1, p1, hC, hV1, f1, g1⟩ := k_sets (E := xE X) (l := xl X) (L := L) hV hW (xs' (i + 1).toNatClampNeg) (xs' (i + 2).toNatClampNeg) (xs' (i + 3).toNatClampNeg)
  have hM1 := VM_high hM f1
  obtain ⟨I2, hC2, hM2, f2⟩ := m_sets (E := xE X) (l := xl X) (L := L1) (p := p1) hM1 hW (xs' (i + 1).toNatClampNeg) (xs' (i + 2).toNatClampNeg) (xs' (i + 3).toNatClampNeg)
  have hW2 : GW (opn (aSets (xs' (i + 1).toNatClampNeg) (xs' (i + 2).toNatClampNeg) (xs' (i + 3).toNatClampNeg)) s).2 := GW_opn hW (aSets_WF hW.1 (xs' (i + 1).toNatClampNeg) (xs' (i + 2).toNatClampNeg) (xs' (i + 3).toNatClampNeg))
  refine gl_aload_n hX 0 rfl rfl dL_law_173 ?_
  refine gl_sld (j := 2) (c := 1) hX hs hb hE rfl rfl rfl h1 (by decide) dL_law_174 dL_law_175 dL_law_176 dL_law_177 dL_law_178 ?_
  refine gl_sld (j := 2) (c := 2) hX hs hb hE rfl rfl rfl h2 (by decide) dL_law_179 dL_law_180 dL_law_181 dL_law_182 dL_law_183 ?_
  refine gl_sld (j := 2) (c := 3) hX hs hb hE rfl rfl rfl h3 (by decide) dL_law_184 dL_law_185 dL_law_186 dL_law_187 dL_law_188 ?_
  refine gl_callV (cs' := 106) (sl' := 2753) (C := RX5) (as := [.int (xs' (i + 1).toNatClampNeg), .int (xs' (i + 2).toNatClampNeg), .int (xs' (i + 3).toNatClampNeg)]) (st := []) hX hC hPW sn0 so0 rfl gL_law_X5_sets rfl rfl rfl ydX5_sets (by decide) (Nat.le_of_ble_eq_true rfl) (by decide) dL_law_189 rfl rfl ?_
  refine gl_aload_n hX 1 rfl rfl dL_law_192 ?_
  refine gl_sld (j := 2) (c := 1) hX hs hb hE rfl rfl rfl h1 (by decide) dL_law_193 dL_law_194 dL_law_195 dL_law_196 dL_law_197 ?_
  refine gl_sld (j := 2) (c := 2) hX hs hb hE rfl rfl rfl h2 (by decide) dL_law_198 dL_law_199 dL_law_200 dL_law_201 dL_law_202 ?_
  refine gl_sld (j := 2) (c := 3) hX hs hb hE rfl rfl rfl h3 (by decide) dL_law_203 dL_law_204 dL_law_205 dL_law_206 dL_law_207 ?_
  refine gl_callV (cs' := 106) (sl' := 2753) (C := RX6) (as := [.int (xs' (i + 1).toNatClampNeg), .int (xs' (i + 2).toNatClampNeg), .int (xs' (i + 3).toNatClampNeg)]) (st := [.int _]) hX hC2 hPW sn96 so96 rfl gL_law_X6_sets rfl rfl rfl ydX6_sets (by decide) (Nat.le_of_ble_eq_true rfl) (by decide) dL_law_208 rfl rfl ?_
  refine gl_icmp_eq (tgt := 781) hX dL_law_211 (by decide) (fun _ => ?_) (fun h => absurd rfl h)
  refine gl_iinc (v := i + 5) (ls' := LL (i + 5)) hX 2 rfl dL_law_781 rfl (by decide) (by decide) rfl ?_
  exact gl_goto (tgt := 18) hX dL_law_784 (by decide) (k _ _ _ _ (VC_low hV1 hW2.2.1 f2) hM2 hW2)
theorem law_pipe (hX : Cx X cL_law 4 RL wsL_law room_1) (hs : va_X b0 Ln xs' (xs X) (xs X).heap) (hb : b0 < (xs X).heap.size) (hE : (xE X).1 = (xs X).heap.size) (h1 : vp_in (i + 1) Ln) (h2 : vp_in (i + 2) Ln) (h3 : vp_in (i + 3) Ln) (h4 : vp_in (i + 4) Ln) (k : LSt X b0 (i + 5)) (hV : VC whn I p s) (hM : VM I s) (hW : GW s) : GL X b0 106 2753 216 (LL i) [] (HM X I L p) := by
  obtain ⟨I1, L1, p1, hC, hV1, f1, g1⟩ := k_pipe (E := xE X) (l := xl X) (L := L) hV hW (xs' (i + 1).toNatClampNeg) (xs' (i + 2).toNatClampNeg) (xs' (i + 3).toNatClampNeg) (xs' (i + 4).toNatClampNeg)
  have hM1 := VM_high hM f1
  obtain ⟨I2, hC2, hM2, f2⟩ := m_pipe (E := xE X) (l := xl X) (L := L1) (p := p1) hM1 hW (xs' (i + 1).toNatClampNeg) (xs' (i + 2).toNatClampNeg) (xs' (i + 3).toNatClampNeg) (xs' (i + 4).toNatClampNeg)
  have hW2 : GW (opn (aPipe (xs' (i + 1).toNatClampNeg) (xs' (i + 2).toNatClampNeg) (xs' (i + 3).toNatClampNeg) (xs' (i + 4).toNatClampNeg)) s).2 := GW_opn hW (aPipe_WF hW.1 (xs' (i + 1).toNatClampNeg) (xs' (i + 2).toNatClampNeg) (xs' (i + 3).toNatClampNeg) (xs' (i + 4).toNatClampNeg))
  refine gl_aload_n hX 0 rfl rfl dL_law_216 ?_
  refine gl_sld (j := 2) (c := 1) hX hs hb hE rfl rfl rfl h1 (by decide) dL_law_217 dL_law_218 dL_law_219 dL_law_220 dL_law_221 ?_
  refine gl_sld (j := 2) (c := 2) hX hs hb hE rfl rfl rfl h2 (by decide) dL_law_222 dL_law_223 dL_law_224 dL_law_225 dL_law_226 ?_
  refine gl_sld (j := 2) (c := 3) hX hs hb hE rfl rfl rfl h3 (by decide) dL_law_227 dL_law_228 dL_law_229 dL_law_230 dL_law_231 ?_
  refine gl_sld (j := 2) (c := 4) hX hs hb hE rfl rfl rfl h4 (by decide) dL_law_232 dL_law_233 dL_law_234 dL_law_235 dL_law_236 ?_
  refine gl_callV (cs' := 106) (sl' := 2753) (C := RX5) (as := [.int (xs' (i + 1).toNatClampNeg), .int (xs' (i + 2).toNatClampNeg), .int (xs' (i + 3).toNatClampNeg), .int (xs' (i + 4).toNatClampNeg)]) (st := []) hX hC hPW sn0 so0 rfl gL_law_X5_pipe rfl rfl rfl ydX5_pipe (by decide) (Nat.le_of_ble_eq_true rfl) (by decide) dL_law_237 rfl rfl ?_
  refine gl_aload_n hX 1 rfl rfl dL_law_240 ?_
  refine gl_sld (j := 2) (c := 1) hX hs hb hE rfl rfl rfl h1 (by decide) dL_law_241 dL_law_242 dL_law_243 dL_law_244 dL_law_245 ?_
  refine gl_sld (j := 2) (c := 2) hX hs hb hE rfl rfl rfl h2 (by decide) dL_law_246 dL_law_247 dL_law_248 dL_law_249 dL_law_250 ?_
  refine gl_sld (j := 2) (c := 3) hX hs hb hE rfl rfl rfl h3 (by decide) dL_law_251 dL_law_252 dL_law_253 dL_law_254 dL_law_255 ?_
  refine gl_sld (j := 2) (c := 4) hX hs hb hE rfl rfl rfl h4 (by decide) dL_law_256 dL_law_257 dL_law_258 dL_law_259 dL_law_260 ?_
  refine gl_callV (cs' := 106) (sl' := 2753) (C := RX6) (as := [.int (xs' (i + 1).toNatClampNeg), .int (xs' (i + 2).toNatClampNeg), .int (xs' (i + 3).toNatClampNeg), .int (xs' (i + 4).toNatClampNeg)]) (st := [.int _]) hX hC2 hPW sn96 so96 rfl gL_law_X6_pipe rfl rfl rfl ydX6_pipe (by decide) (Nat.le_of_ble_eq_true rfl) (by decide) dL_law_261 rfl rfl ?_
  refine gl_icmp_eq (tgt := 781) hX dL_law_264 (by decide) (fun _ => ?_) (fun h => absurd rfl h)
  refine gl_iinc (v := i + 5) (ls' := LL (i + 5)) hX 2 rfl dL_law_781 rfl (by decide) (by decide) rfl ?_
  exact gl_goto (tgt := 18) hX dL_law_784 (by decide) (k _ _ _ _ (VC_low hV1 hW2.2.1 f2) hM2 hW2)
theorem law_drops (hX : Cx X cL_law 4 RL wsL_law room_1) (hs : va_X b0 Ln xs' (xs X) (xs X).heap) (hb : b0 < (xs X).heap.size) (hE : (xE X).1 = (xs X).heap.size) (h1 : vp_in (i + 1) Ln) (k : LSt X b0 (i + 5)) (hV : VC whn I p s) (hM : VM I s) (hW : GW s) : GL X b0 106 2753 269 (LL i) [] (HM X I L p) := by
  obtain ⟨I1, L1, p1, hC, hV1, f1, g1⟩ := k_drops (E := xE X) (l := xl X) (L := L) hV hW (xs' (i + 1).toNatClampNeg)
  have hM1 := VM_high hM f1
  obtain ⟨I2, hC2, hM2, f2⟩ := m_drops (E := xE X) (l := xl X) (L := L1) (p := p1) hM1 hW (xs' (i + 1).toNatClampNeg)
  have hW2 : GW (opn (aDrop (xs' (i + 1).toNatClampNeg)) s).2 := GW_opn hW (aDrop_WF hW.1 (xs' (i + 1).toNatClampNeg))
  refine gl_aload_n hX 0 rfl rfl dL_law_269 ?_
  refine gl_sld (j := 2) (c := 1) hX hs hb hE rfl rfl rfl h1 (by decide) dL_law_270 dL_law_271 dL_law_272 dL_law_273 dL_law_274 ?_
  refine gl_callV (cs' := 106) (sl' := 2753) (C := RX5) (as := [.int (xs' (i + 1).toNatClampNeg)]) (st := []) hX hC hPW sn0 so0 rfl gL_law_X5_drops rfl rfl rfl ydX5_drops (by decide) (Nat.le_of_ble_eq_true rfl) (by decide) dL_law_275 rfl rfl ?_
  refine gl_aload_n hX 1 rfl rfl dL_law_278 ?_
  refine gl_sld (j := 2) (c := 1) hX hs hb hE rfl rfl rfl h1 (by decide) dL_law_279 dL_law_280 dL_law_281 dL_law_282 dL_law_283 ?_
  refine gl_callV (cs' := 106) (sl' := 2753) (C := RX6) (as := [.int (xs' (i + 1).toNatClampNeg)]) (st := [.int _]) hX hC2 hPW sn96 so96 rfl gL_law_X6_drops rfl rfl rfl ydX6_drops (by decide) (Nat.le_of_ble_eq_true rfl) (by decide) dL_law_284 rfl rfl ?_
  refine gl_icmp_eq (tgt := 781) hX dL_law_287 (by decide) (fun _ => ?_) (fun h => absurd rfl h)
  refine gl_iinc (v := i + 5) (ls' := LL (i + 5)) hX 2 rfl dL_law_781 rfl (by decide) (by decide) rfl ?_
  exact gl_goto (tgt := 18) hX dL_law_784 (by decide) (k _ _ _ _ (VC_low hV1 hW2.2.1 f2) hM2 hW2)
theorem law_of (hX : Cx X cL_law 4 RL wsL_law room_1) (hs : va_X b0 Ln xs' (xs X) (xs X).heap) (hb : b0 < (xs X).heap.size) (hE : (xE X).1 = (xs X).heap.size) (h1 : vp_in (i + 1) Ln) (h2 : vp_in (i + 2) Ln) (k : LSt X b0 (i + 5)) (hV : VC whn I p s) (hM : VM I s) (hW : GW s) : GL X b0 106 2753 292 (LL i) [] (HM X I L p) := by
  obtain ⟨I1, L1, p1, hC, hV1, f1, g1⟩ := k_of (E := xE X) (l := xl X) (L := L) hV hW (xs' (i + 1).toNatClampNeg) (xs' (i + 2).toNatClampNeg)
  have hM1 := VM_high hM f1
  obtain ⟨I2, L2, hC2, hM2, f2, g2⟩ := m_of (E := xE X) (l := xl X) (L := L1) (p := p1) hM1 hW (xs' (i + 1).toNatClampNeg) (xs' (i + 2).toNatClampNeg)
  have hW2 : GW (aOf (xs' (i + 1).toNatClampNeg) (xs' (i + 2).toNatClampNeg) s).2 := GW_qu hW
  refine gl_aload_n hX 0 rfl rfl dL_law_292 ?_
  refine gl_sld (j := 2) (c := 1) hX hs hb hE rfl rfl rfl h1 (by decide) dL_law_293 dL_law_294 dL_law_295 dL_law_296 dL_law_297 ?_
  refine gl_sld (j := 2) (c := 2) hX hs hb hE rfl rfl rfl h2 (by decide) dL_law_298 dL_law_299 dL_law_300 dL_law_301 dL_law_302 ?_
  refine gl_callV (cs' := 106) (sl' := 2753) (C := RX5) (as := [.int (xs' (i + 1).toNatClampNeg), .int (xs' (i + 2).toNatClampNeg)]) (st := []) hX hC hPW sn0 so0 rfl gL_law_X5_of rfl rfl rfl ydX5_of (by decide) (Nat.le_of_ble_eq_true rfl) (by decide) dL_law_303 rfl rfl ?_
  refine gl_aload_n hX 1 rfl rfl dL_law_306 ?_
  refine gl_sld (j := 2) (c := 1) hX hs hb hE rfl rfl rfl h1 (by decide) dL_law_307 dL_law_308 dL_law_309 dL_law_310 dL_law_311 ?_
  refine gl_sld (j := 2) (c := 2) hX hs hb hE rfl rfl rfl h2 (by decide) dL_law_312 dL_law_313 dL_law_314 dL_law_315 dL_law_316 ?_
  refine gl_callV (cs' := 106) (sl' := 2753) (C := RX6) (as := [.int (xs' (i + 1).toNatClampNeg), .int (xs' (i + 2).toNatClampNeg)]) (st := [.int _]) hX hC2 hPW sn96 so96 rfl gL_law_X6_of rfl rfl rfl ydX6_of (by decide) (Nat.le_of_ble_eq_true rfl) (by decide) dL_law_317 rfl rfl ?_
  refine gl_icmp_eq (tgt := 781) hX dL_law_320 (by decide) (fun _ => ?_) (fun h => absurd rfl h)
  refine gl_iinc (v := i + 5) (ls' := LL (i + 5)) hX 2 rfl dL_law_781 rfl (by decide) (by decide) rfl ?_
  exact gl_goto (tgt := 18) hX dL_law_784 (by decide) (k _ _ _ _ (VC_low hV1 hW2.2.1 f2) hM2 hW2)
theorem law_about (hX : Cx X cL_law 4 RL wsL_law room_1) (hs : va_X b0 Ln xs' (xs X) (xs X).heap) (hb : b0 < (xs X).heap.size) (hE : (xE X).1 = (xs X).heap.size) (h1 : vp_in (i + 1) Ln) (h2 : vp_in (i + 2) Ln) (k : LSt X b0 (i + 5)) (hV : VC whn I p s) (hM : VM I s) (hW : GW s) : GL X b0 106 2753 325 (LL i) [] (HM X I L p) := by
  obtain ⟨I1, L1, p1, hC, hV1, f1, g1⟩ := k_about (E := xE X) (l := xl X) (L := L) hV hW (xs' (i + 1).toNatClampNeg) (xs' (i + 2).toNatClampNeg)
  have hM1 := VM_high hM f1
  obtain ⟨I2, L2, hC2, hM2, f2, g2⟩ := m_about (E := xE X) (l := xl X) (L := L1) (p := p1) hM1 hW (xs' (i + 1).toNatClampNeg) (xs' (i + 2).toNatClampNeg)
  have hW2 : GW (aAbout (xs' (i + 1).toNatClampNeg) (xs' (i + 2).toNatClampNeg) s).2 := GW_qu hW
  refine gl_aload_n hX 0 rfl rfl dL_law_325 ?_
  refine gl_sld (j := 2) (c := 1) hX hs hb hE rfl rfl rfl h1 (by decide) dL_law_326 dL_law_327 dL_law_328 dL_law_329 dL_law_330 ?_
  refine gl_sld (j := 2) (c := 2) hX hs hb hE rfl rfl rfl h2 (by decide) dL_law_331 dL_law_332 dL_law_333 dL_law_334 dL_law_335 ?_
  refine gl_callV (cs' := 106) (sl' := 2753) (C := RX5) (as := [.int (xs' (i + 1).toNatClampNeg), .int (xs' (i + 2).toNatClampNeg)]) (st := []) hX hC hPW sn0 so0 rfl gL_law_X5_about rfl rfl rfl ydX5_about (by decide) (Nat.le_of_ble_eq_true rfl) (by decide) dL_law_336 rfl rfl ?_
  refine gl_aload_n hX 1 rfl rfl dL_law_339 ?_
  refine gl_sld (j := 2) (c := 1) hX hs hb hE rfl rfl rfl h1 (by decide) dL_law_340 dL_law_341 dL_law_342 dL_law_343 dL_law_344 ?_
  refine gl_sld (j := 2) (c := 2) hX hs hb hE rfl rfl rfl h2 (by decide) dL_law_345 dL_law_346 dL_law_347 dL_law_348 dL_law_349 ?_
  refine gl_callV (cs' := 106) (sl' := 2753) (C := RX6) (as := [.int (xs' (i + 1).toNatClampNeg), .int (xs' (i + 2).toNatClampNeg)]) (st := [.int _]) hX hC2 hPW sn96 so96 rfl gL_law_X6_about rfl rfl rfl ydX6_about (by decide) (Nat.le_of_ble_eq_true rfl) (by decide) dL_law_350 rfl rfl ?_
  refine gl_icmp_eq (tgt := 781) hX dL_law_353 (by decide) (fun _ => ?_) (fun h => absurd rfl h)
  refine gl_iinc (v := i + 5) (ls' := LL (i + 5)) hX 2 rfl dL_law_781 rfl (by decide) (by decide) rfl ?_
  exact gl_goto (tgt := 18) hX dL_law_784 (by decide) (k _ _ _ _ (VC_low hV1 hW2.2.1 f2) hM2 hW2)
theorem law_comes (hX : Cx X cL_law 4 RL wsL_law room_1) (hs : va_X b0 Ln xs' (xs X) (xs X).heap) (hb : b0 < (xs X).heap.size) (hE : (xE X).1 = (xs X).heap.size) (h1 : vp_in (i + 1) Ln) (h2 : vp_in (i + 2) Ln) (h3 : vp_in (i + 3) Ln) (k : LSt X b0 (i + 5)) (hV : VC whn I p s) (hM : VM I s) (hW : GW s) : GL X b0 106 2753 358 (LL i) [] (HM X I L p) := by
  obtain ⟨I1, L1, p1, hC, hV1, f1, g1⟩ := k_comes (E := xE X) (l := xl X) (L := L) hV hW (xs' (i + 1).toNatClampNeg) (xs' (i + 2).toNatClampNeg) (xs' (i + 3).toNatClampNeg)
  have hM1 := VM_high hM f1
  obtain ⟨I2, L2, hC2, hM2, f2, g2⟩ := m_comes (E := xE X) (l := xl X) (L := L1) (p := p1) hM1 hW (xs' (i + 1).toNatClampNeg) (xs' (i + 2).toNatClampNeg) (xs' (i + 3).toNatClampNeg)
  have hW2 : GW (aComes (xs' (i + 1).toNatClampNeg) (xs' (i + 2).toNatClampNeg) (xs' (i + 3).toNatClampNeg) s).2 := GW_quL hW
  refine gl_aload_n hX 0 rfl rfl dL_law_358 ?_
  refine gl_sld (j := 2) (c := 1) hX hs hb hE rfl rfl rfl h1 (by decide) dL_law_359 dL_law_360 dL_law_361 dL_law_362 dL_law_363 ?_
  refine gl_sld (j := 2) (c := 2) hX hs hb hE rfl rfl rfl h2 (by decide) dL_law_364 dL_law_365 dL_law_366 dL_law_367 dL_law_368 ?_
  refine gl_sld (j := 2) (c := 3) hX hs hb hE rfl rfl rfl h3 (by decide) dL_law_369 dL_law_370 dL_law_371 dL_law_372 dL_law_373 ?_
  refine gl_callV (cs' := 106) (sl' := 2753) (C := RX5) (as := [.int (xs' (i + 1).toNatClampNeg), .int (xs' (i + 2).toNatClampNeg), .int (xs' (i + 3).toNatClampNeg)]) (st := []) hX hC hPW sn0 so0 rfl gL_law_X5_comes rfl rfl rfl ydX5_comes (by decide) (Nat.le_of_ble_eq_true rfl) (by decide) dL_law_374 rfl rfl ?_
  refine gl_aload_n hX 1 rfl rfl dL_law_377 ?_
  refine gl_sld (j := 2) (c := 1) hX hs hb hE rfl rfl rfl h1 (by decide) dL_law_378 dL_law_379 dL_law_380 dL_law_381 dL_law_382 ?_
  refine gl_sld (j := 2) (c := 2) hX hs hb hE rfl rfl rfl h2 (by decide) dL_law_383 dL_law_384 dL_law_385 dL_law_386 dL_law_387 ?_
  refine gl_sld (j := 2) (c := 3) hX hs hb hE rfl rfl rfl h3 (by decide) dL_law_388 dL_law_389 dL_law_390 dL_law_391 dL_law_392 ?_
  refine gl_callV (cs' := 106) (sl' := 2753) (C := RX6) (as := [.int (xs' (i + 1).toNatClampNeg), .int (xs' (i + 2).toNatClampNeg), .int (xs' (i + 3).toNatClampNeg)]) (st := [.long _]) hX hC2 hPW sn96 so96 rfl gL_law_X6_comes rfl rfl rfl ydX6_comes (by decide) (Nat.le_of_ble_eq_true rfl) (by decide) dL_law_393 rfl rfl ?_
  refine gl_lcmp hX dL_law_396 ?_
  refine gl_if_eq (tgt := 781) hX dL_law_397 (by decide) (fun _ => ?_) (fun h => absurd (jcmp_0.mpr rfl) h)
  refine gl_iinc (v := i + 5) (ls' := LL (i + 5)) hX 2 rfl dL_law_781 rfl (by decide) (by decide) rfl ?_
  exact gl_goto (tgt := 18) hX dL_law_784 (by decide) (k _ _ _ _ (VC_low hV1 hW2.2.1 f2) hM2 hW2)
theorem law_times (hX : Cx X cL_law 4 RL wsL_law room_1) (hs : va_X b0 Ln xs' (xs X) (xs X).heap) (hb : b0 < (xs X).heap.size) (hE : (xE X).1 = (xs X).heap.size) (h1 : vp_in (i + 1) Ln) (h2 : vp_in (i + 2) Ln) (h3 : vp_in (i + 3) Ln) (h4 : vp_in (i + 4) Ln) (k : LSt X b0 (i + 5)) (hV : VC whn I p s) (hM : VM I s) (hW : GW s) : GL X b0 106 2753 402 (LL i) [] (HM X I L p) := by
  obtain ⟨I1, L1, p1, hC, hV1, f1, g1⟩ := k_times (E := xE X) (l := xl X) (L := L) hV hW (xs' (i + 1).toNatClampNeg) (xs' (i + 2).toNatClampNeg) (xs' (i + 3).toNatClampNeg) (xs' (i + 4).toNatClampNeg)
  have hM1 := VM_high hM f1
  obtain ⟨I2, L2, hC2, hM2, f2, g2⟩ := m_times (E := xE X) (l := xl X) (L := L1) (p := p1) hM1 hW (xs' (i + 1).toNatClampNeg) (xs' (i + 2).toNatClampNeg) (xs' (i + 3).toNatClampNeg) (xs' (i + 4).toNatClampNeg)
  have hW2 : GW (aTimes (xs' (i + 1).toNatClampNeg) (xs' (i + 2).toNatClampNeg) (xs' (i + 3).toNatClampNeg) (xs' (i + 4).toNatClampNeg) s).2 := GW_qu hW
  refine gl_aload_n hX 0 rfl rfl dL_law_402 ?_
  refine gl_sld (j := 2) (c := 1) hX hs hb hE rfl rfl rfl h1 (by decide) dL_law_403 dL_law_404 dL_law_405 dL_law_406 dL_law_407 ?_
  refine gl_sld (j := 2) (c := 2) hX hs hb hE rfl rfl rfl h2 (by decide) dL_law_408 dL_law_409 dL_law_410 dL_law_411 dL_law_412 ?_
  refine gl_sld (j := 2) (c := 3) hX hs hb hE rfl rfl rfl h3 (by decide) dL_law_413 dL_law_414 dL_law_415 dL_law_416 dL_law_417 ?_
  refine gl_sld (j := 2) (c := 4) hX hs hb hE rfl rfl rfl h4 (by decide) dL_law_418 dL_law_419 dL_law_420 dL_law_421 dL_law_422 ?_
  refine gl_callV (cs' := 106) (sl' := 2753) (C := RX5) (as := [.int (xs' (i + 1).toNatClampNeg), .int (xs' (i + 2).toNatClampNeg), .int (xs' (i + 3).toNatClampNeg), .int (xs' (i + 4).toNatClampNeg)]) (st := []) hX hC hPW sn0 so0 rfl gL_law_X5_times rfl rfl rfl ydX5_times (by decide) (Nat.le_of_ble_eq_true rfl) (by decide) dL_law_423 rfl rfl ?_
  refine gl_aload_n hX 1 rfl rfl dL_law_426 ?_
  refine gl_sld (j := 2) (c := 1) hX hs hb hE rfl rfl rfl h1 (by decide) dL_law_427 dL_law_428 dL_law_429 dL_law_430 dL_law_431 ?_
  refine gl_sld (j := 2) (c := 2) hX hs hb hE rfl rfl rfl h2 (by decide) dL_law_432 dL_law_433 dL_law_434 dL_law_435 dL_law_436 ?_
  refine gl_sld (j := 2) (c := 3) hX hs hb hE rfl rfl rfl h3 (by decide) dL_law_437 dL_law_438 dL_law_439 dL_law_440 dL_law_441 ?_
  refine gl_sld (j := 2) (c := 4) hX hs hb hE rfl rfl rfl h4 (by decide) dL_law_442 dL_law_443 dL_law_444 dL_law_445 dL_law_446 ?_
  refine gl_callV (cs' := 106) (sl' := 2753) (C := RX6) (as := [.int (xs' (i + 1).toNatClampNeg), .int (xs' (i + 2).toNatClampNeg), .int (xs' (i + 3).toNatClampNeg), .int (xs' (i + 4).toNatClampNeg)]) (st := [.int _]) hX hC2 hPW sn96 so96 rfl gL_law_X6_times rfl rfl rfl ydX6_times (by decide) (Nat.le_of_ble_eq_true rfl) (by decide) dL_law_447 rfl rfl ?_
  refine gl_icmp_eq (tgt := 781) hX dL_law_450 (by decide) (fun _ => ?_) (fun h => absurd rfl h)
  refine gl_iinc (v := i + 5) (ls' := LL (i + 5)) hX 2 rfl dL_law_781 rfl (by decide) (by decide) rfl ?_
  exact gl_goto (tgt := 18) hX dL_law_784 (by decide) (k _ _ _ _ (VC_low hV1 hW2.2.1 f2) hM2 hW2)
theorem law_leaves (hX : Cx X cL_law 4 RL wsL_law room_1) (hs : va_X b0 Ln xs' (xs X) (xs X).heap) (hb : b0 < (xs X).heap.size) (hE : (xE X).1 = (xs X).heap.size) (h1 : vp_in (i + 1) Ln) (h2 : vp_in (i + 2) Ln) (k : LSt X b0 (i + 5)) (hV : VC whn I p s) (hM : VM I s) (hW : GW s) : GL X b0 106 2753 455 (LL i) [] (HM X I L p) := by
  obtain ⟨I1, L1, p1, hC, hV1, f1, g1⟩ := k_leaves (E := xE X) (l := xl X) (L := L) hV hW (xs' (i + 1).toNatClampNeg) (xs' (i + 2).toNatClampNeg)
  have hM1 := VM_high hM f1
  obtain ⟨I2, L2, hC2, hM2, f2, g2⟩ := m_leaves (E := xE X) (l := xl X) (L := L1) (p := p1) hM1 hW (xs' (i + 1).toNatClampNeg) (xs' (i + 2).toNatClampNeg)
  have hW2 : GW (aLeaves (xs' (i + 1).toNatClampNeg) (xs' (i + 2).toNatClampNeg) s).2 := GW_qu hW
  refine gl_aload_n hX 0 rfl rfl dL_law_455 ?_
  refine gl_sld (j := 2) (c := 1) hX hs hb hE rfl rfl rfl h1 (by decide) dL_law_456 dL_law_457 dL_law_458 dL_law_459 dL_law_460 ?_
  refine gl_sld (j := 2) (c := 2) hX hs hb hE rfl rfl rfl h2 (by decide) dL_law_461 dL_law_462 dL_law_463 dL_law_464 dL_law_465 ?_
  refine gl_callV (cs' := 106) (sl' := 2753) (C := RX5) (as := [.int (xs' (i + 1).toNatClampNeg), .int (xs' (i + 2).toNatClampNeg)]) (st := []) hX hC hPW sn0 so0 rfl gL_law_X5_leaves rfl rfl rfl ydX5_leaves (by decide) (Nat.le_of_ble_eq_true rfl) (by decide) dL_law_466 rfl rfl ?_
  refine gl_aload_n hX 1 rfl rfl dL_law_469 ?_
  refine gl_sld (j := 2) (c := 1) hX hs hb hE rfl rfl rfl h1 (by decide) dL_law_470 dL_law_471 dL_law_472 dL_law_473 dL_law_474 ?_
  refine gl_sld (j := 2) (c := 2) hX hs hb hE rfl rfl rfl h2 (by decide) dL_law_475 dL_law_476 dL_law_477 dL_law_478 dL_law_479 ?_
  refine gl_callV (cs' := 106) (sl' := 2753) (C := RX6) (as := [.int (xs' (i + 1).toNatClampNeg), .int (xs' (i + 2).toNatClampNeg)]) (st := [.int _]) hX hC2 hPW sn96 so96 rfl gL_law_X6_leaves rfl rfl rfl ydX6_leaves (by decide) (Nat.le_of_ble_eq_true rfl) (by decide) dL_law_480 rfl rfl ?_
  refine gl_icmp_eq (tgt := 781) hX dL_law_483 (by decide) (fun _ => ?_) (fun h => absurd rfl h)
  refine gl_iinc (v := i + 5) (ls' := LL (i + 5)) hX 2 rfl dL_law_781 rfl (by decide) (by decide) rfl ?_
  exact gl_goto (tgt := 18) hX dL_law_784 (by decide) (k _ _ _ _ (VC_low hV1 hW2.2.1 f2) hM2 hW2)
theorem law_sight (hX : Cx X cL_law 4 RL wsL_law room_1) (hs : va_X b0 Ln xs' (xs X) (xs X).heap) (hb : b0 < (xs X).heap.size) (hE : (xE X).1 = (xs X).heap.size) (h1 : vp_in (i + 1) Ln) (h2 : vp_in (i + 2) Ln) (h3 : vp_in (i + 3) Ln) (k : LSt X b0 (i + 5)) (hV : VC whn I p s) (hM : VM I s) (hW : GW s) : GL X b0 106 2753 488 (LL i) [] (HM X I L p) := by
  obtain ⟨I1, L1, p1, hC, hV1, f1, g1⟩ := k_sight (E := xE X) (l := xl X) (L := L) hV hW (xs' (i + 1).toNatClampNeg) (xs' (i + 2).toNatClampNeg) (xs' (i + 3).toNatClampNeg)
  have hM1 := VM_high hM f1
  obtain ⟨I2, hC2, hM2, f2⟩ := m_sight (E := xE X) (l := xl X) (L := L1) (p := p1) hM1 hW (xs' (i + 1).toNatClampNeg) (xs' (i + 2).toNatClampNeg) (xs' (i + 3).toNatClampNeg)
  have hW2 : GW (opn (aSight (xs' (i + 1).toNatClampNeg) (xs' (i + 2).toNatClampNeg) (xs' (i + 3).toNatClampNeg)) s).2 := GW_opn hW (aSight_WF hW.1 (xs' (i + 1).toNatClampNeg) (xs' (i + 2).toNatClampNeg) (xs' (i + 3).toNatClampNeg))
  refine gl_aload_n hX 0 rfl rfl dL_law_488 ?_
  refine gl_sld (j := 2) (c := 1) hX hs hb hE rfl rfl rfl h1 (by decide) dL_law_489 dL_law_490 dL_law_491 dL_law_492 dL_law_493 ?_
  refine gl_sld (j := 2) (c := 2) hX hs hb hE rfl rfl rfl h2 (by decide) dL_law_494 dL_law_495 dL_law_496 dL_law_497 dL_law_498 ?_
  refine gl_sld (j := 2) (c := 3) hX hs hb hE rfl rfl rfl h3 (by decide) dL_law_499 dL_law_500 dL_law_501 dL_law_502 dL_law_503 ?_
  refine gl_callV (cs' := 106) (sl' := 2753) (C := RX5) (as := [.int (xs' (i + 1).toNatClampNeg), .int (xs' (i + 2).toNatClampNeg), .int (xs' (i + 3).toNatClampNeg)]) (st := []) hX hC hPW sn0 so0 rfl gL_law_X5_sight rfl rfl rfl ydX5_sight (by decide) (Nat.le_of_ble_eq_true rfl) (by decide) dL_law_504 rfl rfl ?_
  refine gl_aload_n hX 1 rfl rfl dL_law_507 ?_
  refine gl_sld (j := 2) (c := 1) hX hs hb hE rfl rfl rfl h1 (by decide) dL_law_508 dL_law_509 dL_law_510 dL_law_511 dL_law_512 ?_
  refine gl_sld (j := 2) (c := 2) hX hs hb hE rfl rfl rfl h2 (by decide) dL_law_513 dL_law_514 dL_law_515 dL_law_516 dL_law_517 ?_
  refine gl_sld (j := 2) (c := 3) hX hs hb hE rfl rfl rfl h3 (by decide) dL_law_518 dL_law_519 dL_law_520 dL_law_521 dL_law_522 ?_
  refine gl_callV (cs' := 106) (sl' := 2753) (C := RX6) (as := [.int (xs' (i + 1).toNatClampNeg), .int (xs' (i + 2).toNatClampNeg), .int (xs' (i + 3).toNatClampNeg)]) (st := [.int _]) hX hC2 hPW sn96 so96 rfl gL_law_X6_sight rfl rfl rfl ydX6_sight (by decide) (Nat.le_of_ble_eq_true rfl) (by decide) dL_law_523 rfl rfl ?_
  refine gl_icmp_eq (tgt := 781) hX dL_law_526 (by decide) (fun _ => ?_) (fun h => absurd rfl h)
  refine gl_iinc (v := i + 5) (ls' := LL (i + 5)) hX 2 rfl dL_law_781 rfl (by decide) (by decide) rfl ?_
  exact gl_goto (tgt := 18) hX dL_law_784 (by decide) (k _ _ _ _ (VC_low hV1 hW2.2.1 f2) hM2 hW2)
theorem law_forget (hX : Cx X cL_law 4 RL wsL_law room_1) (hs : va_X b0 Ln xs' (xs X) (xs X).heap) (hb : b0 < (xs X).heap.size) (hE : (xE X).1 = (xs X).heap.size)  (k : LSt X b0 (i + 5)) (hV : VC whn I p s) (hM : VM I s) (hW : GW s) : GL X b0 106 2753 531 (LL i) [] (HM X I L p) := by
  obtain ⟨I1, L1, p1, hC, hV1, f1, g1⟩ := k_forget (E := xE X) (l := xl X) (L := L) hV hW 
  have hM1 := VM_high hM f1
  obtain ⟨I2, hC2, hM2, f2⟩ := m_forget (E := xE X) (l := xl X) (L := L1) (p := p1) hM1 hW 
  have hW2 : GW (opn aForget s).2 := GW_opn hW (aForget_WF hW.1 )
  refine gl_aload_n hX 0 rfl rfl dL_law_531 ?_
  refine gl_callV (cs' := 106) (sl' := 2753) (C := RX5) (as := []) (st := []) hX hC hPW sn0 so0 rfl gL_law_X5_forget rfl rfl rfl ydX5_forget (by decide) (Nat.le_of_ble_eq_true rfl) (by decide) dL_law_532 rfl rfl ?_
  refine gl_aload_n hX 1 rfl rfl dL_law_535 ?_
  refine gl_callV (cs' := 106) (sl' := 2753) (C := RX6) (as := []) (st := [.int _]) hX hC2 hPW sn96 so96 rfl gL_law_X6_forget rfl rfl rfl ydX6_forget (by decide) (Nat.le_of_ble_eq_true rfl) (by decide) dL_law_536 rfl rfl ?_
  refine gl_icmp_eq (tgt := 781) hX dL_law_539 (by decide) (fun _ => ?_) (fun h => absurd rfl h)
  refine gl_iinc (v := i + 5) (ls' := LL (i + 5)) hX 2 rfl dL_law_781 rfl (by decide) (by decide) rfl ?_
  exact gl_goto (tgt := 18) hX dL_law_784 (by decide) (k _ _ _ _ (VC_low hV1 hW2.2.1 f2) hM2 hW2)
theorem law_fits (hX : Cx X cL_law 4 RL wsL_law room_1) (hs : va_X b0 Ln xs' (xs X) (xs X).heap) (hb : b0 < (xs X).heap.size) (hE : (xE X).1 = (xs X).heap.size) (h1 : vp_in (i + 1) Ln) (h2 : vp_in (i + 2) Ln) (k : LSt X b0 (i + 5)) (hV : VC whn I p s) (hM : VM I s) (hW : GW s) : GL X b0 106 2753 544 (LL i) [] (HM X I L p) := by
  obtain ⟨I1, L1, p1, hC, hV1, f1, g1⟩ := k_fits (E := xE X) (l := xl X) (L := L) hV hW (xs' (i + 1).toNatClampNeg) (xs' (i + 2).toNatClampNeg)
  have hM1 := VM_high hM f1
  obtain ⟨I2, L2, hC2, hM2, f2, g2⟩ := m_fits (E := xE X) (l := xl X) (L := L1) (p := p1) hM1 hW (xs' (i + 1).toNatClampNeg) (xs' (i + 2).toNatClampNeg)
  have hW2 : GW (aFits (xs' (i + 1).toNatClampNeg) (xs' (i + 2).toNatClampNeg) s).2 := GW_qu hW
  refine gl_aload_n hX 0 rfl rfl dL_law_544 ?_
  refine gl_sld (j := 2) (c := 1) hX hs hb hE rfl rfl rfl h1 (by decide) dL_law_545 dL_law_546 dL_law_547 dL_law_548 dL_law_549 ?_
  refine gl_sld (j := 2) (c := 2) hX hs hb hE rfl rfl rfl h2 (by decide) dL_law_550 dL_law_551 dL_law_552 dL_law_553 dL_law_554 ?_
  refine gl_callV (cs' := 106) (sl' := 2753) (C := RX5) (as := [.int (xs' (i + 1).toNatClampNeg), .int (xs' (i + 2).toNatClampNeg)]) (st := []) hX hC hPW sn0 so0 rfl gL_law_X5_fits rfl rfl rfl ydX5_fits (by decide) (Nat.le_of_ble_eq_true rfl) (by decide) dL_law_555 rfl rfl ?_
  refine gl_aload_n hX 1 rfl rfl dL_law_558 ?_
  refine gl_sld (j := 2) (c := 1) hX hs hb hE rfl rfl rfl h1 (by decide) dL_law_559 dL_law_560 dL_law_561 dL_law_562 dL_law_563 ?_
  refine gl_sld (j := 2) (c := 2) hX hs hb hE rfl rfl rfl h2 (by decide) dL_law_564 dL_law_565 dL_law_566 dL_law_567 dL_law_568 ?_
  refine gl_callV (cs' := 106) (sl' := 2753) (C := RX6) (as := [.int (xs' (i + 1).toNatClampNeg), .int (xs' (i + 2).toNatClampNeg)]) (st := [.int _]) hX hC2 hPW sn96 so96 rfl gL_law_X6_fits rfl rfl rfl ydX6_fits (by decide) (Nat.le_of_ble_eq_true rfl) (by decide) dL_law_569 rfl rfl ?_
  refine gl_icmp_eq (tgt := 781) hX dL_law_572 (by decide) (fun _ => ?_) (fun h => absurd rfl h)
  refine gl_iinc (v := i + 5) (ls' := LL (i + 5)) hX 2 rfl dL_law_781 rfl (by decide) (by decide) rfl ?_
  exact gl_goto (tgt := 18) hX dL_law_784 (by decide) (k _ _ _ _ (VC_low hV1 hW2.2.1 f2) hM2 hW2)
theorem law_when (hX : Cx X cL_law 4 RL wsL_law room_1) (hs : va_X b0 Ln xs' (xs X) (xs X).heap) (hb : b0 < (xs X).heap.size) (hE : (xE X).1 = (xs X).heap.size) (h1 : vp_in (i + 1) Ln) (k : LSt X b0 (i + 5)) (hV : VC whn I p s) (hM : VM I s) (hW : GW s) : GL X b0 106 2753 577 (LL i) [] (HM X I L p) := by
  obtain ⟨I1, L1, p1, hC, hV1, f1, g1⟩ := k_when (E := xE X) (l := xl X) (L := L) hV hW (xs' (i + 1).toNatClampNeg)
  have hM1 := VM_high hM f1
  obtain ⟨I2, L2, hC2, hM2, f2, g2⟩ := m_when (E := xE X) (l := xl X) (L := L1) (p := p1) hM1 hW (xs' (i + 1).toNatClampNeg)
  have hW2 : GW (aWhen (xs' (i + 1).toNatClampNeg) s).2 := GW_qu hW
  refine gl_aload_n hX 0 rfl rfl dL_law_577 ?_
  refine gl_sld (j := 2) (c := 1) hX hs hb hE rfl rfl rfl h1 (by decide) dL_law_578 dL_law_579 dL_law_580 dL_law_581 dL_law_582 ?_
  refine gl_callV (cs' := 106) (sl' := 2753) (C := RX5) (as := [.int (xs' (i + 1).toNatClampNeg)]) (st := []) hX hC hPW sn0 so0 rfl gL_law_X5_when rfl rfl rfl ydX5_when (by decide) (Nat.le_of_ble_eq_true rfl) (by decide) dL_law_583 rfl rfl ?_
  refine gl_aload_n hX 1 rfl rfl dL_law_586 ?_
  refine gl_sld (j := 2) (c := 1) hX hs hb hE rfl rfl rfl h1 (by decide) dL_law_587 dL_law_588 dL_law_589 dL_law_590 dL_law_591 ?_
  refine gl_callV (cs' := 106) (sl' := 2753) (C := RX6) (as := [.int (xs' (i + 1).toNatClampNeg)]) (st := [.int _]) hX hC2 hPW sn96 so96 rfl gL_law_X6_when rfl rfl rfl ydX6_when (by decide) (Nat.le_of_ble_eq_true rfl) (by decide) dL_law_592 rfl rfl ?_
  refine gl_icmp_eq (tgt := 781) hX dL_law_595 (by decide) (fun _ => ?_) (fun h => absurd rfl h)
  refine gl_iinc (v := i + 5) (ls' := LL (i + 5)) hX 2 rfl dL_law_781 rfl (by decide) (by decide) rfl ?_
  exact gl_goto (tgt := 18) hX dL_law_784 (by decide) (k _ _ _ _ (VC_low hV1 hW2.2.1 f2) hM2 hW2)
theorem law_suspects (hX : Cx X cL_law 4 RL wsL_law room_1) (hs : va_X b0 Ln xs' (xs X) (xs X).heap) (hb : b0 < (xs X).heap.size) (hE : (xE X).1 = (xs X).heap.size)  (k : LSt X b0 (i + 5)) (hV : VC whn I p s) (hM : VM I s) (hW : GW s) : GL X b0 106 2753 600 (LL i) [] (HM X I L p) := by
  obtain ⟨I1, L1, p1, hC, hV1, f1, g1⟩ := k_suspects (E := xE X) (l := xl X) (L := L) hV hW 
  have hM1 := VM_high hM f1
  obtain ⟨I2, L2, hC2, hM2, f2, g2⟩ := m_suspects (E := xE X) (l := xl X) (L := L1) (p := p1) hM1 hW 
  have hW2 : GW (aSuspects  s).2 := hW
  refine gl_aload_n hX 0 rfl rfl dL_law_600 ?_
  refine gl_callV (cs' := 106) (sl' := 2753) (C := RX5) (as := []) (st := []) hX hC hPW sn0 so0 rfl gL_law_X5_suspects rfl rfl rfl ydX5_suspects (by decide) (Nat.le_of_ble_eq_true rfl) (by decide) dL_law_601 rfl rfl ?_
  refine gl_aload_n hX 1 rfl rfl dL_law_604 ?_
  refine gl_callV (cs' := 106) (sl' := 2753) (C := RX6) (as := []) (st := [.int _]) hX hC2 hPW sn96 so96 rfl gL_law_X6_suspects rfl rfl rfl ydX6_suspects (by decide) (Nat.le_of_ble_eq_true rfl) (by decide) dL_law_605 rfl rfl ?_
  refine gl_icmp_eq (tgt := 781) hX dL_law_608 (by decide) (fun _ => ?_) (fun h => absurd rfl h)
  refine gl_iinc (v := i + 5) (ls' := LL (i + 5)) hX 2 rfl dL_law_781 rfl (by decide) (by decide) rfl ?_
  exact gl_goto (tgt := 18) hX dL_law_784 (by decide) (k _ _ _ _ (VC_low hV1 hW2.2.1 f2) hM2 hW2)
theorem law_next (hX : Cx X cL_law 4 RL wsL_law room_1) (hs : va_X b0 Ln xs' (xs X) (xs X).heap) (hb : b0 < (xs X).heap.size) (hE : (xE X).1 = (xs X).heap.size) (h1 : vp_in (i + 1) Ln) (k : LSt X b0 (i + 5)) (hV : VC whn I p s) (hM : VM I s) (hW : GW s) : GL X b0 106 2753 613 (LL i) [] (HM X I L p) := by
  obtain ⟨I1, L1, p1, hC, hV1, f1, g1⟩ := k_next (E := xE X) (l := xl X) (L := L) hV hW (xs' (i + 1).toNatClampNeg)
  have hM1 := VM_high hM f1
  obtain ⟨I2, L2, hC2, hM2, f2, g2⟩ := m_next (E := xE X) (l := xl X) (L := L1) (p := p1) hM1 hW (xs' (i + 1).toNatClampNeg)
  have hW2 : GW (aNext (xs' (i + 1).toNatClampNeg) s).2 := GW_qu hW
  refine gl_aload_n hX 0 rfl rfl dL_law_613 ?_
  refine gl_sld (j := 2) (c := 1) hX hs hb hE rfl rfl rfl h1 (by decide) dL_law_614 dL_law_615 dL_law_616 dL_law_617 dL_law_618 ?_
  refine gl_callV (cs' := 106) (sl' := 2753) (C := RX5) (as := [.int (xs' (i + 1).toNatClampNeg)]) (st := []) hX hC hPW sn0 so0 rfl gL_law_X5_next rfl rfl rfl ydX5_next (by decide) (Nat.le_of_ble_eq_true rfl) (by decide) dL_law_619 rfl rfl ?_
  refine gl_aload_n hX 1 rfl rfl dL_law_622 ?_
  refine gl_sld (j := 2) (c := 1) hX hs hb hE rfl rfl rfl h1 (by decide) dL_law_623 dL_law_624 dL_law_625 dL_law_626 dL_law_627 ?_
  refine gl_callV (cs' := 106) (sl' := 2753) (C := RX6) (as := [.int (xs' (i + 1).toNatClampNeg)]) (st := [.int _]) hX hC2 hPW sn96 so96 rfl gL_law_X6_next rfl rfl rfl ydX6_next (by decide) (Nat.le_of_ble_eq_true rfl) (by decide) dL_law_628 rfl rfl ?_
  refine gl_icmp_eq (tgt := 781) hX dL_law_631 (by decide) (fun _ => ?_) (fun h => absurd rfl h)
  refine gl_iinc (v := i + 5) (ls' := LL (i + 5)) hX 2 rfl dL_law_781 rfl (by decide) (by decide) rfl ?_
  exact gl_goto (tgt := 18) hX dL_law_784 (by decide) (k _ _ _ _ (VC_low hV1 hW2.2.1 f2) hM2 hW2)
theorem law_alike (hX : Cx X cL_law 4 RL wsL_law room_1) (hs : va_X b0 Ln xs' (xs X) (xs X).heap) (hb : b0 < (xs X).heap.size) (hE : (xE X).1 = (xs X).heap.size) (h1 : vp_in (i + 1) Ln) (k : LSt X b0 (i + 5)) (hV : VC whn I p s) (hM : VM I s) (hW : GW s) : GL X b0 106 2753 636 (LL i) [] (HM X I L p) := by
  obtain ⟨I1, L1, p1, hC, hV1, f1, g1⟩ := k_alike (E := xE X) (l := xl X) (L := L) hV hW (xs' (i + 1).toNatClampNeg)
  have hM1 := VM_high hM f1
  obtain ⟨I2, L2, hC2, hM2, f2, g2⟩ := m_alike (E := xE X) (l := xl X) (L := L1) (p := p1) hM1 hW (xs' (i + 1).toNatClampNeg)
  have hW2 : GW (aAlike (xs' (i + 1).toNatClampNeg) s).2 := GW_qu hW
  refine gl_aload_n hX 0 rfl rfl dL_law_636 ?_
  refine gl_sld (j := 2) (c := 1) hX hs hb hE rfl rfl rfl h1 (by decide) dL_law_637 dL_law_638 dL_law_639 dL_law_640 dL_law_641 ?_
  refine gl_callV (cs' := 106) (sl' := 2753) (C := RX5) (as := [.int (xs' (i + 1).toNatClampNeg)]) (st := []) hX hC hPW sn0 so0 rfl gL_law_X5_alike rfl rfl rfl ydX5_alike (by decide) (Nat.le_of_ble_eq_true rfl) (by decide) dL_law_642 rfl rfl ?_
  refine gl_aload_n hX 1 rfl rfl dL_law_645 ?_
  refine gl_sld (j := 2) (c := 1) hX hs hb hE rfl rfl rfl h1 (by decide) dL_law_646 dL_law_647 dL_law_648 dL_law_649 dL_law_650 ?_
  refine gl_callV (cs' := 106) (sl' := 2753) (C := RX6) (as := [.int (xs' (i + 1).toNatClampNeg)]) (st := [.int _]) hX hC2 hPW sn96 so96 rfl gL_law_X6_alike rfl rfl rfl ydX6_alike (by decide) (Nat.le_of_ble_eq_true rfl) (by decide) dL_law_651 rfl rfl ?_
  refine gl_icmp_eq (tgt := 781) hX dL_law_654 (by decide) (fun _ => ?_) (fun h => absurd rfl h)
  refine gl_iinc (v := i + 5) (ls' := LL (i + 5)) hX 2 rfl dL_law_781 rfl (by decide) (by decide) rfl ?_
  exact gl_goto (tgt := 18) hX dL_law_784 (by decide) (k _ _ _ _ (VC_low hV1 hW2.2.1 f2) hM2 hW2)
theorem law_sensors (hX : Cx X cL_law 4 RL wsL_law room_1) (hs : va_X b0 Ln xs' (xs X) (xs X).heap) (hb : b0 < (xs X).heap.size) (hE : (xE X).1 = (xs X).heap.size) (h1 : vp_in (i + 1) Ln) (k : LSt X b0 (i + 5)) (hV : VC whn I p s) (hM : VM I s) (hW : GW s) : GL X b0 106 2753 659 (LL i) [] (HM X I L p) := by
  obtain ⟨I1, L1, p1, hC, hV1, f1, g1⟩ := k_sensors (E := xE X) (l := xl X) (L := L) hV hW (xs' (i + 1).toNatClampNeg)
  have hM1 := VM_high hM f1
  obtain ⟨I2, L2, hC2, hM2, f2, g2⟩ := m_sensors (E := xE X) (l := xl X) (L := L1) (p := p1) hM1 hW (xs' (i + 1).toNatClampNeg)
  have hW2 : GW (aSensors (xs' (i + 1).toNatClampNeg) s).2 := GW_qu hW
  refine gl_aload_n hX 0 rfl rfl dL_law_659 ?_
  refine gl_sld (j := 2) (c := 1) hX hs hb hE rfl rfl rfl h1 (by decide) dL_law_660 dL_law_661 dL_law_662 dL_law_663 dL_law_664 ?_
  refine gl_callV (cs' := 106) (sl' := 2753) (C := RX5) (as := [.int (xs' (i + 1).toNatClampNeg)]) (st := []) hX hC hPW sn0 so0 rfl gL_law_X5_sensors rfl rfl rfl ydX5_sensors (by decide) (Nat.le_of_ble_eq_true rfl) (by decide) dL_law_665 rfl rfl ?_
  refine gl_aload_n hX 1 rfl rfl dL_law_668 ?_
  refine gl_sld (j := 2) (c := 1) hX hs hb hE rfl rfl rfl h1 (by decide) dL_law_669 dL_law_670 dL_law_671 dL_law_672 dL_law_673 ?_
  refine gl_callV (cs' := 106) (sl' := 2753) (C := RX6) (as := [.int (xs' (i + 1).toNatClampNeg)]) (st := [.int _]) hX hC2 hPW sn96 so96 rfl gL_law_X6_sensors rfl rfl rfl ydX6_sensors (by decide) (Nat.le_of_ble_eq_true rfl) (by decide) dL_law_674 rfl rfl ?_
  refine gl_icmp_eq (tgt := 781) hX dL_law_677 (by decide) (fun _ => ?_) (fun h => absurd rfl h)
  refine gl_iinc (v := i + 5) (ls' := LL (i + 5)) hX 2 rfl dL_law_781 rfl (by decide) (by decide) rfl ?_
  exact gl_goto (tgt := 18) hX dL_law_784 (by decide) (k _ _ _ _ (VC_low hV1 hW2.2.1 f2) hM2 hW2)
theorem law_type (hX : Cx X cL_law 4 RL wsL_law room_1) (hs : va_X b0 Ln xs' (xs X) (xs X).heap) (hb : b0 < (xs X).heap.size) (hE : (xE X).1 = (xs X).heap.size) (h1 : vp_in (i + 1) Ln) (k : LSt X b0 (i + 5)) (hV : VC whn I p s) (hM : VM I s) (hW : GW s) : GL X b0 106 2753 682 (LL i) [] (HM X I L p) := by
  obtain ⟨I1, L1, p1, hC, hV1, f1, g1⟩ := k_type (E := xE X) (l := xl X) (L := L) hV hW (xs' (i + 1).toNatClampNeg)
  have hM1 := VM_high hM f1
  obtain ⟨I2, L2, hC2, hM2, f2, g2⟩ := m_type (E := xE X) (l := xl X) (L := L1) (p := p1) hM1 hW (xs' (i + 1).toNatClampNeg)
  have hW2 : GW (aType (xs' (i + 1).toNatClampNeg) s).2 := GW_type hW
  refine gl_aload_n hX 0 rfl rfl dL_law_682 ?_
  refine gl_sld (j := 2) (c := 1) hX hs hb hE rfl rfl rfl h1 (by decide) dL_law_683 dL_law_684 dL_law_685 dL_law_686 dL_law_687 ?_
  refine gl_callV (cs' := 106) (sl' := 2753) (C := RX5) (as := [.int (xs' (i + 1).toNatClampNeg)]) (st := []) hX hC hPW sn0 so0 rfl gL_law_X5_type rfl rfl rfl ydX5_type (by decide) (Nat.le_of_ble_eq_true rfl) (by decide) dL_law_688 rfl rfl ?_
  refine gl_aload_n hX 1 rfl rfl dL_law_691 ?_
  refine gl_sld (j := 2) (c := 1) hX hs hb hE rfl rfl rfl h1 (by decide) dL_law_692 dL_law_693 dL_law_694 dL_law_695 dL_law_696 ?_
  refine gl_callV (cs' := 106) (sl' := 2753) (C := RX6) (as := [.int (xs' (i + 1).toNatClampNeg)]) (st := [.int _]) hX hC2 hPW sn96 so96 rfl gL_law_X6_type rfl rfl rfl ydX6_type (by decide) (Nat.le_of_ble_eq_true rfl) (by decide) dL_law_697 rfl rfl ?_
  refine gl_icmp_eq (tgt := 781) hX dL_law_700 (by decide) (fun _ => ?_) (fun h => absurd rfl h)
  refine gl_iinc (v := i + 5) (ls' := LL (i + 5)) hX 2 rfl dL_law_781 rfl (by decide) (by decide) rfl ?_
  exact gl_goto (tgt := 18) hX dL_law_784 (by decide) (k _ _ _ _ (VC_low hV1 hW2.2.1 f2) hM2 hW2)
theorem law_clear (hX : Cx X cL_law 4 RL wsL_law room_1) (hs : va_X b0 Ln xs' (xs X) (xs X).heap) (hb : b0 < (xs X).heap.size) (hE : (xE X).1 = (xs X).heap.size)  (k : LSt X b0 (i + 5)) (hV : VC whn I p s) (hM : VM I s) (hW : GW s) : GL X b0 106 2753 705 (LL i) [] (HM X I L p) := by
  obtain ⟨I1, L1, p1, hC, hV1, f1, g1⟩ := k_clear (E := xE X) (l := xl X) (L := L) hV hW 
  have hM1 := VM_high hM f1
  obtain ⟨I2, L2, hC2, hM2, f2, g2⟩ := m_clear (E := xE X) (l := xl X) (L := L1) (p := p1) hM1 
  have hW2 : GW (aClear  s).2 := GW_clear hW
  refine gl_aload_n hX 0 rfl rfl dL_law_705 ?_
  refine gl_callV (cs' := 106) (sl' := 2753) (C := RX5) (as := []) (st := []) hX hC hPW sn0 so0 rfl gL_law_X5_clear rfl rfl rfl ydX5_clear (by decide) (Nat.le_of_ble_eq_true rfl) (by decide) dL_law_706 rfl rfl ?_
  refine gl_aload_n hX 1 rfl rfl dL_law_709 ?_
  refine gl_callV (cs' := 106) (sl' := 2753) (C := RX6) (as := []) (st := [.int _]) hX hC2 hPW sn96 so96 rfl gL_law_X6_clear rfl rfl rfl ydX6_clear (by decide) (Nat.le_of_ble_eq_true rfl) (by decide) dL_law_710 rfl rfl ?_
  refine gl_icmp_eq (tgt := 781) hX dL_law_713 (by decide) (fun _ => ?_) (fun h => absurd rfl h)
  refine gl_iinc (v := i + 5) (ls' := LL (i + 5)) hX 2 rfl dL_law_781 rfl (by decide) (by decide) rfl ?_
  exact gl_goto (tgt := 18) hX dL_law_784 (by decide) (k _ _ _ _ (VC_low hV1 hW2.2.1 f2) hM2 hW2)
theorem law_reads (hX : Cx X cL_law 4 RL wsL_law room_1) (hs : va_X b0 Ln xs' (xs X) (xs X).heap) (hb : b0 < (xs X).heap.size) (hE : (xE X).1 = (xs X).heap.size)  (k : LSt X b0 (i + 5)) (hV : VC whn I p s) (hM : VM I s) (hW : GW s) : GL X b0 106 2753 718 (LL i) [] (HM X I L p) := by
  obtain ⟨I1, L1, p1, hC, hV1, f1, g1⟩ := k_reads (E := xE X) (l := xl X) (L := L) hV hW 
  have hM1 := VM_high hM f1
  obtain ⟨I2, L2, hC2, hM2, f2, g2⟩ := m_reads (E := xE X) (l := xl X) (L := L1) (p := p1) hM1 hW 
  have hW2 : GW (aReads  s).2 := GW_reads hW
  refine gl_aload_n hX 0 rfl rfl dL_law_718 ?_
  refine gl_callV (cs' := 106) (sl' := 2753) (C := RX5) (as := []) (st := []) hX hC hPW sn0 so0 rfl gL_law_X5_reads rfl rfl rfl ydX5_reads (by decide) (Nat.le_of_ble_eq_true rfl) (by decide) dL_law_719 rfl rfl ?_
  refine gl_aload_n hX 1 rfl rfl dL_law_722 ?_
  refine gl_callV (cs' := 106) (sl' := 2753) (C := RX6) (as := []) (st := [.int _]) hX hC2 hPW sn96 so96 rfl gL_law_X6_reads rfl rfl rfl ydX6_reads (by decide) (Nat.le_of_ble_eq_true rfl) (by decide) dL_law_723 rfl rfl ?_
  refine gl_icmp_eq (tgt := 781) hX dL_law_726 (by decide) (fun _ => ?_) (fun h => absurd rfl h)
  refine gl_iinc (v := i + 5) (ls' := LL (i + 5)) hX 2 rfl dL_law_781 rfl (by decide) (by decide) rfl ?_
  exact gl_goto (tgt := 18) hX dL_law_784 (by decide) (k _ _ _ _ (VC_low hV1 hW2.2.1 f2) hM2 hW2)
theorem law_back (hX : Cx X cL_law 4 RL wsL_law room_1) (hs : va_X b0 Ln xs' (xs X) (xs X).heap) (hb : b0 < (xs X).heap.size) (hE : (xE X).1 = (xs X).heap.size)  (k : LSt X b0 (i + 5)) (hV : VC whn I p s) (hM : VM I s) (hW : GW s) : GL X b0 106 2753 731 (LL i) [] (HM X I L p) := by
  obtain ⟨I1, L1, p1, hC, hV1, f1, g1⟩ := k_back (E := xE X) (l := xl X) (L := L) hV hW 
  have hM1 := VM_high hM f1
  obtain ⟨I2, hC2, hM2, f2⟩ := m_back (E := xE X) (l := xl X) (L := L1) (p := p1) hM1 hW 
  have hW2 : GW (aBack  s).2 := GW_back hW
  refine gl_aload_n hX 0 rfl rfl dL_law_731 ?_
  refine gl_callV (cs' := 106) (sl' := 2753) (C := RX5) (as := []) (st := []) hX hC hPW sn0 so0 rfl gL_law_X5_back rfl rfl rfl ydX5_back (by decide) (Nat.le_of_ble_eq_true rfl) (by decide) dL_law_732 rfl rfl ?_
  refine gl_aload_n hX 1 rfl rfl dL_law_735 ?_
  refine gl_callV (cs' := 106) (sl' := 2753) (C := RX6) (as := []) (st := [.int _]) hX hC2 hPW sn96 so96 rfl gL_law_X6_back rfl rfl rfl ydX6_back (by decide) (Nat.le_of_ble_eq_true rfl) (by decide) dL_law_736 rfl rfl ?_
  refine gl_icmp_eq (tgt := 781) hX dL_law_739 (by decide) (fun _ => ?_) (fun h => absurd rfl h)
  refine gl_iinc (v := i + 5) (ls' := LL (i + 5)) hX 2 rfl dL_law_781 rfl (by decide) (by decide) rfl ?_
  exact gl_goto (tgt := 18) hX dL_law_784 (by decide) (k _ _ _ _ (VC_low hV1 hW2.2.1 f2) hM2 hW2)
theorem law_told (hX : Cx X cL_law 4 RL wsL_law room_1) (hs : va_X b0 Ln xs' (xs X) (xs X).heap) (hb : b0 < (xs X).heap.size) (hE : (xE X).1 = (xs X).heap.size) (h1 : vp_in (i + 1) Ln) (k : LSt X b0 (i + 5)) (hV : VC whn I p s) (hM : VM I s) (hW : GW s) : GL X b0 106 2753 744 (LL i) [] (HM X I L p) := by
  obtain ⟨I1, L1, p1, hC, hV1, f1, g1⟩ := k_told (E := xE X) (l := xl X) (L := L) hV hW (xs' (i + 1).toNatClampNeg)
  have hM1 := VM_high hM f1
  obtain ⟨I2, L2, hC2, hM2, f2, g2⟩ := m_told (E := xE X) (l := xl X) (L := L1) (p := p1) hM1 (xs' (i + 1).toNatClampNeg)
  have hW2 : GW (aTold (xs' (i + 1).toNatClampNeg) s).2 := GW_qu hW
  refine gl_aload_n hX 0 rfl rfl dL_law_744 ?_
  refine gl_sld (j := 2) (c := 1) hX hs hb hE rfl rfl rfl h1 (by decide) dL_law_745 dL_law_746 dL_law_747 dL_law_748 dL_law_749 ?_
  refine gl_callV (cs' := 106) (sl' := 2753) (C := RX5) (as := [.int (xs' (i + 1).toNatClampNeg)]) (st := []) hX hC hPW sn0 so0 rfl gL_law_X5_told rfl rfl rfl ydX5_told (by decide) (Nat.le_of_ble_eq_true rfl) (by decide) dL_law_750 rfl rfl ?_
  refine gl_aload_n hX 1 rfl rfl dL_law_753 ?_
  refine gl_sld (j := 2) (c := 1) hX hs hb hE rfl rfl rfl h1 (by decide) dL_law_754 dL_law_755 dL_law_756 dL_law_757 dL_law_758 ?_
  refine gl_callV (cs' := 106) (sl' := 2753) (C := RX6) (as := [.int (xs' (i + 1).toNatClampNeg)]) (st := [.int _]) hX hC2 hPW sn96 so96 rfl gL_law_X6_told rfl rfl rfl ydX6_told (by decide) (Nat.le_of_ble_eq_true rfl) (by decide) dL_law_759 rfl rfl ?_
  refine gl_icmp_eq (tgt := 781) hX dL_law_762 (by decide) (fun _ => ?_) (fun h => absurd rfl h)
  refine gl_iinc (v := i + 5) (ls' := LL (i + 5)) hX 2 rfl dL_law_781 rfl (by decide) (by decide) rfl ?_
  exact gl_goto (tgt := 18) hX dL_law_784 (by decide) (k _ _ _ _ (VC_low hV1 hW2.2.1 f2) hM2 hW2)
theorem law_digest (hX : Cx X cL_law 4 RL wsL_law room_1) (hs : va_X b0 Ln xs' (xs X) (xs X).heap) (hb : b0 < (xs X).heap.size) (hE : (xE X).1 = (xs X).heap.size)  (k : LSt X b0 (i + 5)) (hV : VC whn I p s) (hM : VM I s) (hW : GW s) : GL X b0 106 2753 767 (LL i) [] (HM X I L p) := by
  obtain ⟨I1, L1, p1, hC, hV1, f1, g1⟩ := k_digest (E := xE X) (l := xl X) (L := L) hV hW 
  have hM1 := VM_high hM f1
  obtain ⟨I2, L2, hC2, hM2, f2, g2⟩ := m_digest (E := xE X) (l := xl X) (L := L1) (p := p1) hM1 hW 
  have hW2 : GW (aDigest  s).2 := hW
  refine gl_aload_n hX 0 rfl rfl dL_law_767 ?_
  refine gl_callV (cs' := 106) (sl' := 2753) (C := RX5) (as := []) (st := []) hX hC hPW sn0 so0 rfl gL_law_X5_digest rfl rfl rfl ydX5_digest (by decide) (Nat.le_of_ble_eq_true rfl) (by decide) dL_law_768 rfl rfl ?_
  refine gl_aload_n hX 1 rfl rfl dL_law_771 ?_
  refine gl_callV (cs' := 106) (sl' := 2753) (C := RX6) (as := []) (st := [.long _]) hX hC2 hPW sn96 so96 rfl gL_law_X6_digest rfl rfl rfl ydX6_digest (by decide) (Nat.le_of_ble_eq_true rfl) (by decide) dL_law_772 rfl rfl ?_
  refine gl_lcmp hX dL_law_775 ?_
  refine gl_if_eq (tgt := 781) hX dL_law_776 (by decide) (fun _ => ?_) (fun h => absurd (jcmp_0.mpr rfl) h)
  refine gl_iinc (v := i + 5) (ls' := LL (i + 5)) hX 2 rfl dL_law_781 rfl (by decide) (by decide) rfl ?_
  exact gl_goto (tgt := 18) hX dL_law_784 (by decide) (k _ _ _ _ (VC_low hV1 hW2.2.1 f2) hM2 hW2)
end

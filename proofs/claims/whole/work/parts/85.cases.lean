/-! the law's cases -/
def lv5 (b o i : Nat) : List (Nat × Value) := [(0, .ref b), (1, .ref o), (2, .ref (o + 29)), (3, .ref (o + 54)), (4, .int (nI i))]
theorem Lay.mono {o sz sz' nt ns np : Nat} {tx sa pa : Nat → Nat} (h : Lay o sz tx sa pa nt ns np) (hs : sz ≤ sz') : Lay o sz' tx sa pa nt ns np := by
  obtain ⟨a1, a2, a3, a4, a5⟩ := h
  exact ⟨⟨a1.1, by omega⟩, fun t h1 h2 => ⟨(a2 t h1 h2).1, by have := (a2 t h1 h2).2; omega⟩, fun s h1 => ⟨(a3 s h1).1, by have := (a3 s h1).2; omega⟩, fun p h1 => ⟨(a4 p h1).1, by have := (a4 p h1).2; omega⟩, a5⟩
section CASES
variable {p : Program} {l : Launch} {e : Env} {s : State} {m : MethodId} {args : Array Value} {below : List Frame} {meth : Method} {c : Code} {Q : State → Prop} {A : Nat → Prop} {G : Gx} {K N : TK} {I : TI} {R : TR} {L : TL} {sz cells slots : Nat} {b Len o i : Nat} {xs : Nat → Int32} {D : Dt} {res : List It} {ring : List Int32} {cp mt : Int32}
theorem lc0 (C : Cx p s m args meth c A G RL cL_law 7) (hA : ∀ q, A q → s.heap.size ≤ q) (hX : va_X b Len xs s s.heap) (hbl : b < s.heap.size) (hL : Len ≤ 2048) (h : Inv K N I R sz o D res ring cp mt) (hi : i + 4 ≤ Len) (hc : cells + 9 ≤ 601024 ∧ slots + 2012 ≤ 7293034) (kk : ∀ (K' N' : TK) (I' : TI) (R' : TR) (L' : TL) (sz' : Nat) (D' : Dt) (res' : List It) (ring' : List Int32) (cp' mt' : Int32), Inv K' N' I' R' sz' o D' res' ring' cp' mt' → Wm p l e room_1 s m args below meth c Q A G 7 560 (lv5 b o i) [] K' N' I' R' L' sz' (cells + 9) (slots + 2012)) : Wm p l e room_1 s m args below meth c Q A G 7 104 (lv5 b o i) [] K N I R L sz cells slots := by
  have hn12 := h.nt
  obtain ⟨tx, sa, pa, h1, h2, hF, hD, hR, hW, hw1, hw2⟩ := h
  refine wm_aload_n C rfl dL_law_104 ?_
  refine wm_ld C hA hX hbl hL 1 (by omega) rfl rfl rfl dL_law_105 dL_law_106 dL_law_108 dL_law_109 dL_law_110 ?_
  refine wm_cVAI1 C vqL_19 (tX5_library (d := 0) h1 hW h2) h1.1.1 ⟨by decide, by decide⟩ (Nat.le_of_ble_eq_true rfl) ⟨by show _ ≤ 601024; omega, by show _ ≤ 7293034; omega⟩ dL_law_111 (fun r K1 N1 I1 R1 sz1 hr => ?_)
  obtain ⟨rfl, ⟨tx', sa', pa', c1⟩, c2, c3⟩ := hr
  refine wm_aload_n C rfl dL_law_114 ?_
  refine wm_ld C hA hX hbl hL 1 (by omega) rfl rfl rfl dL_law_115 dL_law_116 dL_law_118 dL_law_119 dL_law_120 ?_
  refine wm_cVI1 C vqL_22 (tX6_library (d := 0) (hF.keepA c3) (hD.keep c3.o) (hR.keep c3.o)) (hF.keepA c3).1 ⟨by decide, by decide⟩ (Nat.le_of_ble_eq_true rfl) ⟨by show _ ≤ 601024; omega, by show _ ≤ 7293034; omega⟩ dL_law_121 (fun r2 I2 hr2 => ?_)
  obtain ⟨rfl, d1, d2, d3⟩ := hr2
  refine wm_icmp_eq C 560 dL_law_124 (by decide) (fun _ => ?_) (fun z => absurd rfl z)
  exact wm_widen (by omega) (by omega) (kk K1 N1 I2 R1 L sz1 _ res ring cp mt ⟨_, _, _, c1.offRef d3, c2.offRef d3, hF.keepA c3, d1, d2, wf_lib hW, by rw [(c3 _ (by omega) (by omega)).1]; exact hw1, by rw [(c3 _ (by omega) (by omega)).2.1]; exact hw2⟩)
theorem lc1 (C : Cx p s m args meth c A G RL cL_law 7) (hA : ∀ q, A q → s.heap.size ≤ q) (hX : va_X b Len xs s s.heap) (hbl : b < s.heap.size) (hL : Len ≤ 2048) (h : Inv K N I R sz o D res ring cp mt) (hi : i + 4 ≤ Len) (hc : cells + 9 ≤ 601024 ∧ slots + 2012 ≤ 7293034) (kk : ∀ (K' N' : TK) (I' : TI) (R' : TR) (L' : TL) (sz' : Nat) (D' : Dt) (res' : List It) (ring' : List Int32) (cp' mt' : Int32), Inv K' N' I' R' sz' o D' res' ring' cp' mt' → Wm p l e room_1 s m args below meth c Q A G 7 560 (lv5 b o i) [] K' N' I' R' L' sz' (cells + 9) (slots + 2012)) : Wm p l e room_1 s m args below meth c Q A G 7 129 (lv5 b o i) [] K N I R L sz cells slots := by
  have hn12 := h.nt
  obtain ⟨tx, sa, pa, h1, h2, hF, hD, hR, hW, hw1, hw2⟩ := h
  refine wm_aload_n C rfl dL_law_129 ?_
  refine wm_ld C hA hX hbl hL 1 (by omega) rfl rfl rfl dL_law_130 dL_law_131 dL_law_133 dL_law_134 dL_law_135 ?_
  refine wm_ld C hA hX hbl hL 2 (by omega) rfl rfl rfl dL_law_136 dL_law_137 dL_law_139 dL_law_140 dL_law_141 ?_
  refine wm_cVI2 C vqL_23 (tX5_word (d := 0) h1 h2) h1.1.1 ⟨by decide, by decide⟩ (Nat.le_of_ble_eq_true rfl) ⟨by show _ ≤ 601024; omega, by show _ ≤ 7293034; omega⟩ dL_law_142 (fun r I1 hr => ?_)
  obtain ⟨rfl, c1, c2, c3⟩ := hr
  refine wm_aload_n C rfl dL_law_145 ?_
  refine wm_ld C hA hX hbl hL 1 (by omega) rfl rfl rfl dL_law_146 dL_law_147 dL_law_149 dL_law_150 dL_law_151 ?_
  refine wm_ld C hA hX hbl hL 2 (by omega) rfl rfl rfl dL_law_152 dL_law_153 dL_law_155 dL_law_156 dL_law_157 ?_
  refine wm_cVI2 C vqL_27 (tX6_word (d := 0) hF (hD.keep c3) (hR.keep c3)) hF.1 ⟨by decide, by decide⟩ (Nat.le_of_ble_eq_true rfl) ⟨by show _ ≤ 601024; omega, by show _ ≤ 7293034; omega⟩ dL_law_158 (fun r2 I2 hr2 => ?_)
  obtain ⟨rfl, d1, d2, d3⟩ := hr2
  refine wm_icmp_eq C 560 dL_law_161 (by decide) (fun _ => ?_) (fun z => absurd rfl z)
  exact wm_widen (by omega) (by omega) (kk K N I2 R L sz _ res ring cp mt ⟨_, _, _, c1.offRef d3, c2.offRef d3, hF, d1, d2, wf_word hW hn12, hw1, hw2⟩)
theorem lc2 (C : Cx p s m args meth c A G RL cL_law 7) (hA : ∀ q, A q → s.heap.size ≤ q) (hX : va_X b Len xs s s.heap) (hbl : b < s.heap.size) (hL : Len ≤ 2048) (h : Inv K N I R sz o D res ring cp mt) (hi : i + 4 ≤ Len) (hc : cells + 9 ≤ 601024 ∧ slots + 2012 ≤ 7293034) (kk : ∀ (K' N' : TK) (I' : TI) (R' : TR) (L' : TL) (sz' : Nat) (D' : Dt) (res' : List It) (ring' : List Int32) (cp' mt' : Int32), Inv K' N' I' R' sz' o D' res' ring' cp' mt' → Wm p l e room_1 s m args below meth c Q A G 7 560 (lv5 b o i) [] K' N' I' R' L' sz' (cells + 9) (slots + 2012)) : Wm p l e room_1 s m args below meth c Q A G 7 166 (lv5 b o i) [] K N I R L sz cells slots := by
  have hn12 := h.nt
  obtain ⟨tx, sa, pa, h1, h2, hF, hD, hR, hW, hw1, hw2⟩ := h
  refine wm_aload_n C rfl dL_law_166 ?_
  refine wm_ld C hA hX hbl hL 1 (by omega) rfl rfl rfl dL_law_167 dL_law_168 dL_law_170 dL_law_171 dL_law_172 ?_
  refine wm_ld C hA hX hbl hL 2 (by omega) rfl rfl rfl dL_law_173 dL_law_174 dL_law_176 dL_law_177 dL_law_178 ?_
  refine wm_ld C hA hX hbl hL 3 (by omega) rfl rfl rfl dL_law_179 dL_law_180 dL_law_182 dL_law_183 dL_law_184 ?_
  refine wm_if_eq C 192 dL_law_185 (by decide) (fun z => ?_) (fun z => ?_)
  · refine wm_iconst C (b2i false) dL_law_192 ?_ (by decide)
    refine wm_cVAI3 C vqL_28 (tX5_copy (d := 0) (hid := false) h1 h2) h1.1.1 ⟨by decide, by decide⟩ (Nat.le_of_ble_eq_true rfl) ⟨by show _ ≤ 601024; omega, by show _ ≤ 7293034; omega⟩ dL_law_193 (fun r K1 N1 I1 R1 sz1 hr => ?_)
    obtain ⟨rfl, ⟨tx', sa', pa', c1⟩, c2, c3⟩ := hr
    refine wm_aload_n C rfl dL_law_196 ?_
    refine wm_ld C hA hX hbl hL 1 (by omega) rfl rfl rfl dL_law_197 dL_law_198 dL_law_200 dL_law_201 dL_law_202 ?_
    refine wm_ld C hA hX hbl hL 2 (by omega) rfl rfl rfl dL_law_203 dL_law_204 dL_law_206 dL_law_207 dL_law_208 ?_
    refine wm_ld C hA hX hbl hL 3 (by omega) rfl rfl rfl dL_law_209 dL_law_210 dL_law_212 dL_law_213 dL_law_214 ?_
    refine wm_if_eq C 222 dL_law_215 (by decide) (fun _ => ?_) (fun y => absurd z y)
    refine wm_iconst C (b2i false) dL_law_222 ?_ (by decide)
    refine wm_cVI3 C vqL_32 (tX6_copy (d := 0) (hid := false) (hF.keepA c3) (hD.keep c3.o) (hR.keep c3.o)) (hF.keepA c3).1 ⟨by decide, by decide⟩ (Nat.le_of_ble_eq_true rfl) ⟨by show _ ≤ 601024; omega, by show _ ≤ 7293034; omega⟩ dL_law_223 (fun r2 I2 hr2 => ?_)
    obtain ⟨rfl, d1, d2, d3⟩ := hr2
    refine wm_icmp_eq C 560 dL_law_226 (by decide) (fun _ => ?_) (fun z => absurd rfl z)
    exact wm_widen (by omega) (by omega) (kk K1 N1 I2 R1 L sz1 _ res ring cp mt ⟨_, _, _, c1.offRef d3, c2.offRef d3, hF.keepA c3, d1, d2, wf_copy hW hn12, by rw [(c3 _ (by omega) (by omega)).1]; exact hw1, by rw [(c3 _ (by omega) (by omega)).2.1]; exact hw2⟩)
  · refine wm_iconst C (b2i true) dL_law_188 ?_ (by decide)
    refine wm_goto C 193 dL_law_189 ?_ (by decide)
    refine wm_cVAI3 C vqL_28 (tX5_copy (d := 0) (hid := true) h1 h2) h1.1.1 ⟨by decide, by decide⟩ (Nat.le_of_ble_eq_true rfl) ⟨by show _ ≤ 601024; omega, by show _ ≤ 7293034; omega⟩ dL_law_193 (fun r K1 N1 I1 R1 sz1 hr => ?_)
    obtain ⟨rfl, ⟨tx', sa', pa', c1⟩, c2, c3⟩ := hr
    refine wm_aload_n C rfl dL_law_196 ?_
    refine wm_ld C hA hX hbl hL 1 (by omega) rfl rfl rfl dL_law_197 dL_law_198 dL_law_200 dL_law_201 dL_law_202 ?_
    refine wm_ld C hA hX hbl hL 2 (by omega) rfl rfl rfl dL_law_203 dL_law_204 dL_law_206 dL_law_207 dL_law_208 ?_
    refine wm_ld C hA hX hbl hL 3 (by omega) rfl rfl rfl dL_law_209 dL_law_210 dL_law_212 dL_law_213 dL_law_214 ?_
    refine wm_if_eq C 222 dL_law_215 (by decide) (fun y => absurd y z) (fun _ => ?_)
    refine wm_iconst C (b2i true) dL_law_218 ?_ (by decide)
    refine wm_goto C 223 dL_law_219 ?_ (by decide)
    refine wm_cVI3 C vqL_32 (tX6_copy (d := 0) (hid := true) (hF.keepA c3) (hD.keep c3.o) (hR.keep c3.o)) (hF.keepA c3).1 ⟨by decide, by decide⟩ (Nat.le_of_ble_eq_true rfl) ⟨by show _ ≤ 601024; omega, by show _ ≤ 7293034; omega⟩ dL_law_223 (fun r2 I2 hr2 => ?_)
    obtain ⟨rfl, d1, d2, d3⟩ := hr2
    refine wm_icmp_eq C 560 dL_law_226 (by decide) (fun _ => ?_) (fun z => absurd rfl z)
    exact wm_widen (by omega) (by omega) (kk K1 N1 I2 R1 L sz1 _ res ring cp mt ⟨_, _, _, c1.offRef d3, c2.offRef d3, hF.keepA c3, d1, d2, wf_copy hW hn12, by rw [(c3 _ (by omega) (by omega)).1]; exact hw1, by rw [(c3 _ (by omega) (by omega)).2.1]; exact hw2⟩)
theorem lc3 (C : Cx p s m args meth c A G RL cL_law 7) (hA : ∀ q, A q → s.heap.size ≤ q) (hX : va_X b Len xs s s.heap) (hbl : b < s.heap.size) (hL : Len ≤ 2048) (h : Inv K N I R sz o D res ring cp mt) (hi : i + 4 ≤ Len) (hc : cells + 9 ≤ 601024 ∧ slots + 2012 ≤ 7293034) (kk : ∀ (K' N' : TK) (I' : TI) (R' : TR) (L' : TL) (sz' : Nat) (D' : Dt) (res' : List It) (ring' : List Int32) (cp' mt' : Int32), Inv K' N' I' R' sz' o D' res' ring' cp' mt' → Wm p l e room_1 s m args below meth c Q A G 7 560 (lv5 b o i) [] K' N' I' R' L' sz' (cells + 9) (slots + 2012)) : Wm p l e room_1 s m args below meth c Q A G 7 231 (lv5 b o i) [] K N I R L sz cells slots := by
  have hn12 := h.nt
  obtain ⟨tx, sa, pa, h1, h2, hF, hD, hR, hW, hw1, hw2⟩ := h
  refine wm_aload_n C rfl dL_law_231 ?_
  refine wm_ld C hA hX hbl hL 1 (by omega) rfl rfl rfl dL_law_232 dL_law_233 dL_law_235 dL_law_236 dL_law_237 ?_
  refine wm_cVAI1 C vqL_33 (tX5_replace (d := 0) h1 h2) h1.1.1 ⟨by decide, by decide⟩ (Nat.le_of_ble_eq_true rfl) ⟨by show _ ≤ 601024; omega, by show _ ≤ 7293034; omega⟩ dL_law_238 (fun r K1 N1 I1 R1 sz1 hr => ?_)
  obtain ⟨rfl, ⟨tx', sa', pa', c1⟩, c2, c3⟩ := hr
  refine wm_aload_n C rfl dL_law_241 ?_
  refine wm_ld C hA hX hbl hL 1 (by omega) rfl rfl rfl dL_law_242 dL_law_243 dL_law_245 dL_law_246 dL_law_247 ?_
  refine wm_cVI1 C vqL_36 (tX6_replace (d := 0) (hF.keepA c3) (hD.keep c3.o) (hR.keep c3.o)) (hF.keepA c3).1 ⟨by decide, by decide⟩ (Nat.le_of_ble_eq_true rfl) ⟨by show _ ≤ 601024; omega, by show _ ≤ 7293034; omega⟩ dL_law_248 (fun r2 I2 hr2 => ?_)
  obtain ⟨rfl, d1, d2, d3⟩ := hr2
  refine wm_icmp_eq C 560 dL_law_251 (by decide) (fun _ => ?_) (fun z => absurd rfl z)
  exact wm_widen (by omega) (by omega) (kk K1 N1 I2 R1 L sz1 _ res ring cp mt ⟨_, _, _, c1.offRef d3, c2.offRef d3, hF.keepA c3, d1, d2, wf_rep hW hn12, by rw [(c3 _ (by omega) (by omega)).1]; exact hw1, by rw [(c3 _ (by omega) (by omega)).2.1]; exact hw2⟩)
theorem lc4 (C : Cx p s m args meth c A G RL cL_law 7) (hA : ∀ q, A q → s.heap.size ≤ q) (hX : va_X b Len xs s s.heap) (hbl : b < s.heap.size) (hL : Len ≤ 2048) (h : Inv K N I R sz o D res ring cp mt) (hi : i + 4 ≤ Len) (hc : cells + 9 ≤ 601024 ∧ slots + 2012 ≤ 7293034) (kk : ∀ (K' N' : TK) (I' : TI) (R' : TR) (L' : TL) (sz' : Nat) (D' : Dt) (res' : List It) (ring' : List Int32) (cp' mt' : Int32), Inv K' N' I' R' sz' o D' res' ring' cp' mt' → Wm p l e room_1 s m args below meth c Q A G 7 560 (lv5 b o i) [] K' N' I' R' L' sz' (cells + 9) (slots + 2012)) : Wm p l e room_1 s m args below meth c Q A G 7 256 (lv5 b o i) [] K N I R L sz cells slots := by
  have hn12 := h.nt
  obtain ⟨tx, sa, pa, h1, h2, hF, hD, hR, hW, hw1, hw2⟩ := h
  refine wm_aload_n C rfl dL_law_256 ?_
  refine wm_ld C hA hX hbl hL 1 (by omega) rfl rfl rfl dL_law_257 dL_law_258 dL_law_260 dL_law_261 dL_law_262 ?_
  refine wm_cVI1 C vqL_37 (tX5_off (d := 0) h1 h2) h1.1.1 ⟨by decide, by decide⟩ (Nat.le_of_ble_eq_true rfl) ⟨by show _ ≤ 601024; omega, by show _ ≤ 7293034; omega⟩ dL_law_263 (fun r I1 hr => ?_)
  obtain ⟨rfl, c1, c2, c3⟩ := hr
  refine wm_aload_n C rfl dL_law_266 ?_
  refine wm_ld C hA hX hbl hL 1 (by omega) rfl rfl rfl dL_law_267 dL_law_268 dL_law_270 dL_law_271 dL_law_272 ?_
  refine wm_cVI1 C vqL_40 (tX6_off (d := 0) hF (hD.keep c3) (hR.keep c3)) hF.1 ⟨by decide, by decide⟩ (Nat.le_of_ble_eq_true rfl) ⟨by show _ ≤ 601024; omega, by show _ ≤ 7293034; omega⟩ dL_law_273 (fun r2 I2 hr2 => ?_)
  obtain ⟨rfl, d1, d2, d3⟩ := hr2
  refine wm_icmp_eq C 560 dL_law_276 (by decide) (fun _ => ?_) (fun z => absurd rfl z)
  exact wm_widen (by omega) (by omega) (kk K N I2 R L sz _ res ring cp mt ⟨_, _, _, c1.offRef d3, c2.offRef d3, hF, d1, d2, wf_off hW hn12, hw1, hw2⟩)
theorem lc5 (C : Cx p s m args meth c A G RL cL_law 7) (hA : ∀ q, A q → s.heap.size ≤ q) (hX : va_X b Len xs s s.heap) (hbl : b < s.heap.size) (hL : Len ≤ 2048) (h : Inv K N I R sz o D res ring cp mt) (hi : i + 4 ≤ Len) (hc : cells + 9 ≤ 601024 ∧ slots + 2012 ≤ 7293034) (kk : ∀ (K' N' : TK) (I' : TI) (R' : TR) (L' : TL) (sz' : Nat) (D' : Dt) (res' : List It) (ring' : List Int32) (cp' mt' : Int32), Inv K' N' I' R' sz' o D' res' ring' cp' mt' → Wm p l e room_1 s m args below meth c Q A G 7 560 (lv5 b o i) [] K' N' I' R' L' sz' (cells + 9) (slots + 2012)) : Wm p l e room_1 s m args below meth c Q A G 7 281 (lv5 b o i) [] K N I R L sz cells slots := by
  have hn12 := h.nt
  obtain ⟨tx, sa, pa, h1, h2, hF, hD, hR, hW, hw1, hw2⟩ := h
  refine wm_aload_n C rfl dL_law_281 ?_
  refine wm_ld C hA hX hbl hL 1 (by omega) rfl rfl rfl dL_law_282 dL_law_283 dL_law_285 dL_law_286 dL_law_287 ?_
  refine wm_ld C hA hX hbl hL 2 (by omega) rfl rfl rfl dL_law_288 dL_law_289 dL_law_291 dL_law_292 dL_law_293 ?_
  refine wm_ld C hA hX hbl hL 3 (by omega) rfl rfl rfl dL_law_294 dL_law_295 dL_law_297 dL_law_298 dL_law_299 ?_
  refine wm_cVAI3 C vqL_41 (tX5_phrase (d := 0) h1 hW h2) h1.1.1 ⟨by decide, by decide⟩ (Nat.le_of_ble_eq_true rfl) ⟨by show _ ≤ 601024; omega, by show _ ≤ 7293034; omega⟩ dL_law_300 (fun r K1 N1 I1 R1 sz1 hr => ?_)
  obtain ⟨rfl, ⟨tx', sa', pa', c1⟩, c2, c3⟩ := hr
  refine wm_aload_n C rfl dL_law_303 ?_
  refine wm_ld C hA hX hbl hL 1 (by omega) rfl rfl rfl dL_law_304 dL_law_305 dL_law_307 dL_law_308 dL_law_309 ?_
  refine wm_ld C hA hX hbl hL 2 (by omega) rfl rfl rfl dL_law_310 dL_law_311 dL_law_313 dL_law_314 dL_law_315 ?_
  refine wm_ld C hA hX hbl hL 3 (by omega) rfl rfl rfl dL_law_316 dL_law_317 dL_law_319 dL_law_320 dL_law_321 ?_
  refine wm_cVI3 C vqL_45 (tX6_phrase (d := 0) (hF.keepA c3) (hD.keep c3.o) (hR.keep c3.o)) (hF.keepA c3).1 ⟨by decide, by decide⟩ (Nat.le_of_ble_eq_true rfl) ⟨by show _ ≤ 601024; omega, by show _ ≤ 7293034; omega⟩ dL_law_322 (fun r2 I2 hr2 => ?_)
  obtain ⟨rfl, d1, d2, d3⟩ := hr2
  refine wm_icmp_eq C 560 dL_law_325 (by decide) (fun _ => ?_) (fun z => absurd rfl z)
  exact wm_widen (by omega) (by omega) (kk K1 N1 I2 R1 L sz1 _ res ring cp mt ⟨_, _, _, c1.offRef d3, c2.offRef d3, hF.keepA c3, d1, d2, wf_phr hW, by rw [(c3 _ (by omega) (by omega)).1]; exact hw1, by rw [(c3 _ (by omega) (by omega)).2.1]; exact hw2⟩)
theorem lc6 (C : Cx p s m args meth c A G RL cL_law 7) (hA : ∀ q, A q → s.heap.size ≤ q) (hX : va_X b Len xs s s.heap) (hbl : b < s.heap.size) (hL : Len ≤ 2048) (h : Inv K N I R sz o D res ring cp mt) (hi : i + 4 ≤ Len) (hc : cells + 9 ≤ 601024 ∧ slots + 2012 ≤ 7293034) (kk : ∀ (K' N' : TK) (I' : TI) (R' : TR) (L' : TL) (sz' : Nat) (D' : Dt) (res' : List It) (ring' : List Int32) (cp' mt' : Int32), Inv K' N' I' R' sz' o D' res' ring' cp' mt' → Wm p l e room_1 s m args below meth c Q A G 7 560 (lv5 b o i) [] K' N' I' R' L' sz' (cells + 9) (slots + 2012)) : Wm p l e room_1 s m args below meth c Q A G 7 330 (lv5 b o i) [] K N I R L sz cells slots := by
  have hn12 := h.nt
  obtain ⟨tx, sa, pa, h1, h2, hF, hD, hR, hW, hw1, hw2⟩ := h
  refine wm_aload_n C rfl dL_law_330 ?_
  refine wm_ld C hA hX hbl hL 1 (by omega) rfl rfl rfl dL_law_331 dL_law_332 dL_law_334 dL_law_335 dL_law_336 ?_
  refine wm_ld C hA hX hbl hL 2 (by omega) rfl rfl rfl dL_law_337 dL_law_338 dL_law_340 dL_law_341 dL_law_342 ?_
  refine wm_cVI2 C vqL_46 (tX5_from (d := 0) h1 h2) h1.1.1 ⟨by decide, by decide⟩ (Nat.le_of_ble_eq_true rfl) ⟨by show _ ≤ 601024; omega, by show _ ≤ 7293034; omega⟩ dL_law_343 (fun r I1 hr => ?_)
  obtain ⟨rfl, c1, c2, c3⟩ := hr
  refine wm_aload_n C rfl dL_law_346 ?_
  refine wm_ld C hA hX hbl hL 1 (by omega) rfl rfl rfl dL_law_347 dL_law_348 dL_law_350 dL_law_351 dL_law_352 ?_
  refine wm_ld C hA hX hbl hL 2 (by omega) rfl rfl rfl dL_law_353 dL_law_354 dL_law_356 dL_law_357 dL_law_358 ?_
  refine wm_cVI2 C vqL_49 (tX6_from (d := 0) hF (hD.keep c3) (hR.keep c3)) hF.1 ⟨by decide, by decide⟩ (Nat.le_of_ble_eq_true rfl) ⟨by show _ ≤ 601024; omega, by show _ ≤ 7293034; omega⟩ dL_law_359 (fun r2 I2 hr2 => ?_)
  obtain ⟨rfl, d1, d2, d3⟩ := hr2
  refine wm_icmp_eq C 560 dL_law_362 (by decide) (fun _ => ?_) (fun z => absurd rfl z)
  exact wm_widen (by omega) (by omega) (kk K N I2 R L sz _ res ring cp mt ⟨_, _, _, c1.offRef d3, c2.offRef d3, hF, d1, d2, wf_from hW, hw1, hw2⟩)
theorem lc7 (C : Cx p s m args meth c A G RL cL_law 7) (hA : ∀ q, A q → s.heap.size ≤ q) (hX : va_X b Len xs s s.heap) (hbl : b < s.heap.size) (hL : Len ≤ 2048) (h : Inv K N I R sz o D res ring cp mt) (hi : i + 4 ≤ Len) (hc : cells + 9 ≤ 601024 ∧ slots + 2012 ≤ 7293034) (kk : ∀ (K' N' : TK) (I' : TI) (R' : TR) (L' : TL) (sz' : Nat) (D' : Dt) (res' : List It) (ring' : List Int32) (cp' mt' : Int32), Inv K' N' I' R' sz' o D' res' ring' cp' mt' → Wm p l e room_1 s m args below meth c Q A G 7 560 (lv5 b o i) [] K' N' I' R' L' sz' (cells + 9) (slots + 2012)) : Wm p l e room_1 s m args below meth c Q A G 7 367 (lv5 b o i) [] K N I R L sz cells slots := by
  have hn12 := h.nt
  obtain ⟨tx, sa, pa, h1, h2, hF, hD, hR, hW, hw1, hw2⟩ := h
  refine wm_aload_n C rfl dL_law_367 ?_
  refine wm_ld C hA hX hbl hL 1 (by omega) rfl rfl rfl dL_law_368 dL_law_369 dL_law_371 dL_law_372 dL_law_373 ?_
  refine wm_ld C hA hX hbl hL 2 (by omega) rfl rfl rfl dL_law_374 dL_law_375 dL_law_377 dL_law_378 dL_law_379 ?_
  refine wm_cVI2 C vqL_50 (tX5_to (d := 0) h1 h2) h1.1.1 ⟨by decide, by decide⟩ (Nat.le_of_ble_eq_true rfl) ⟨by show _ ≤ 601024; omega, by show _ ≤ 7293034; omega⟩ dL_law_380 (fun r I1 hr => ?_)
  obtain ⟨rfl, c1, c2, c3⟩ := hr
  refine wm_aload_n C rfl dL_law_383 ?_
  refine wm_ld C hA hX hbl hL 1 (by omega) rfl rfl rfl dL_law_384 dL_law_385 dL_law_387 dL_law_388 dL_law_389 ?_
  refine wm_ld C hA hX hbl hL 2 (by omega) rfl rfl rfl dL_law_390 dL_law_391 dL_law_393 dL_law_394 dL_law_395 ?_
  refine wm_cVI2 C vqL_53 (tX6_to (d := 0) hF (hD.keep c3) hW (hR.keep c3)) hF.1 ⟨by decide, by decide⟩ (Nat.le_of_ble_eq_true rfl) ⟨by show _ ≤ 601024; omega, by show _ ≤ 7293034; omega⟩ dL_law_396 (fun r2 I2 hr2 => ?_)
  obtain ⟨rfl, d1, d2, d3⟩ := hr2
  refine wm_icmp_eq C 560 dL_law_399 (by decide) (fun _ => ?_) (fun z => absurd rfl z)
  exact wm_widen (by omega) (by omega) (kk K N I2 R L sz _ res ring cp mt ⟨_, _, _, c1.offRef d3, c2.offRef d3, hF, d1, d2, wf_to hW, hw1, hw2⟩)
theorem lc8 (C : Cx p s m args meth c A G RL cL_law 7) (hA : ∀ q, A q → s.heap.size ≤ q) (hX : va_X b Len xs s s.heap) (hbl : b < s.heap.size) (hL : Len ≤ 2048) (h : Inv K N I R sz o D res ring cp mt) (hi : i + 4 ≤ Len) (hc : cells + 9 ≤ 601024 ∧ slots + 2012 ≤ 7293034) (kk : ∀ (K' N' : TK) (I' : TI) (R' : TR) (L' : TL) (sz' : Nat) (D' : Dt) (res' : List It) (ring' : List Int32) (cp' mt' : Int32), Inv K' N' I' R' sz' o D' res' ring' cp' mt' → Wm p l e room_1 s m args below meth c Q A G 7 560 (lv5 b o i) [] K' N' I' R' L' sz' (cells + 9) (slots + 2012)) : Wm p l e room_1 s m args below meth c Q A G 7 404 (lv5 b o i) [] K N I R L sz cells slots := by
  have hn12 := h.nt
  obtain ⟨tx, sa, pa, h1, h2, hF, hD, hR, hW, hw1, hw2⟩ := h
  refine wm_aload_n C rfl dL_law_404 ?_
  refine wm_cVJ0 C vqL_54 (tX5_run (d := 0) h1 hW) h1.1.1 ⟨by decide, by decide⟩ (Nat.le_of_ble_eq_true rfl) ⟨by show _ ≤ 601024; omega, by show _ ≤ 7293034; omega⟩ dL_law_405 (fun r I1 R1 hr => ?_)
  obtain ⟨rfl, c1, c2, c3, c4⟩ := hr
  have hF1 : RefF K N R1 (o + 29) := ⟨hF.1, fun c' q1 q2 => by rw [c4 (o + 29) (by omega)]; exact hF.2 c' q1 q2⟩
  refine wm_aload_n C rfl dL_law_408 ?_
  refine wm_cVI0 C vqL_58 (tX6_run (d := 0) hF1 (hD.keep c3) hW) hF1.1 ⟨by decide, by decide⟩ (Nat.le_of_ble_eq_true rfl) ⟨by show _ ≤ 601024; omega, by show _ ≤ 7293034; omega⟩ dL_law_409 (fun r2 I2 hr2 => ?_)
  obtain ⟨rfl, d1, d2, d3⟩ := hr2
  refine wm_icmp_eq C 560 dL_law_412 (by decide) (fun _ => ?_) (fun z => absurd rfl z)
  exact wm_widen (by omega) (by omega) (kk K N I2 R1 L sz D (runS D).2.1 (runS D).2.2.2.2 (runS D).2.2.1 (runS D).2.2.2.1 ⟨_, _, _, c1.offRef d3, c2.offRef d3, hF1, d1, d2, hW, hw1, hw2⟩)
theorem lc10 (C : Cx p s m args meth c A G RL cL_law 7) (hA : ∀ q, A q → s.heap.size ≤ q) (hX : va_X b Len xs s s.heap) (hbl : b < s.heap.size) (hL : Len ≤ 2048) (h : Inv K N I R sz o D res ring cp mt) (hi : i + 4 ≤ Len) (hc : cells + 9 ≤ 601024 ∧ slots + 2012 ≤ 7293034) (kk : ∀ (K' N' : TK) (I' : TI) (R' : TR) (L' : TL) (sz' : Nat) (D' : Dt) (res' : List It) (ring' : List Int32) (cp' mt' : Int32), Inv K' N' I' R' sz' o D' res' ring' cp' mt' → Wm p l e room_1 s m args below meth c Q A G 7 560 (lv5 b o i) [] K' N' I' R' L' sz' (cells + 9) (slots + 2012)) : Wm p l e room_1 s m args below meth c Q A G 7 473 (lv5 b o i) [] K N I R L sz cells slots := by
  have hn12 := h.nt
  obtain ⟨tx, sa, pa, h1, h2, hF, hD, hR, hW, hw1, hw2⟩ := h
  refine wm_aload_n C rfl dL_law_473 ?_
  refine wm_ld C hA hX hbl hL 1 (by omega) rfl rfl rfl dL_law_474 dL_law_475 dL_law_477 dL_law_478 dL_law_479 ?_
  refine wm_ld C hA hX hbl hL 2 (by omega) rfl rfl rfl dL_law_480 dL_law_481 dL_law_483 dL_law_484 dL_law_485 ?_
  refine wm_cVI2 C vqL_68 (tX5_place (d := 0) h1.1 h2) h1.1.1 ⟨by decide, by decide⟩ (Nat.le_of_ble_eq_true rfl) ⟨by show _ ≤ 601024; omega, by show _ ≤ 7293034; omega⟩ dL_law_486 (fun r I1 hr => ?_)
  obtain ⟨rfl, rfl⟩ := hr
  refine wm_aload_n C rfl dL_law_489 ?_
  refine wm_ld C hA hX hbl hL 1 (by omega) rfl rfl rfl dL_law_490 dL_law_491 dL_law_493 dL_law_494 dL_law_495 ?_
  refine wm_ld C hA hX hbl hL 2 (by omega) rfl rfl rfl dL_law_496 dL_law_497 dL_law_499 dL_law_500 dL_law_501 ?_
  refine wm_cVI2 C vqL_71 (tX6_place (d := 0) hF hD hR) hF.1 ⟨by decide, by decide⟩ (Nat.le_of_ble_eq_true rfl) ⟨by show _ ≤ 601024; omega, by show _ ≤ 7293034; omega⟩ dL_law_502 (fun r2 I2 hr2 => ?_)
  obtain ⟨rfl, d1, d2, d3⟩ := hr2
  refine wm_icmp_eq C 560 dL_law_505 (by decide) (fun _ => ?_) (fun z => absurd rfl z)
  exact wm_widen (by omega) (by omega) (kk K N I2 R L sz _ res ring cp mt ⟨_, _, _, h1.offRef d3, h2.offRef d3, hF, d1, d2, hW, hw1, hw2⟩)
theorem lc11 (C : Cx p s m args meth c A G RL cL_law 7) (hA : ∀ q, A q → s.heap.size ≤ q) (hX : va_X b Len xs s s.heap) (hbl : b < s.heap.size) (hL : Len ≤ 2048) (h : Inv K N I R sz o D res ring cp mt) (hi : i + 4 ≤ Len) (hc : cells + 9 ≤ 601024 ∧ slots + 2012 ≤ 7293034) (kk : ∀ (K' N' : TK) (I' : TI) (R' : TR) (L' : TL) (sz' : Nat) (D' : Dt) (res' : List It) (ring' : List Int32) (cp' mt' : Int32), Inv K' N' I' R' sz' o D' res' ring' cp' mt' → Wm p l e room_1 s m args below meth c Q A G 7 560 (lv5 b o i) [] K' N' I' R' L' sz' (cells + 9) (slots + 2012)) : Wm p l e room_1 s m args below meth c Q A G 7 510 (lv5 b o i) [] K N I R L sz cells slots := by
  have hn12 := h.nt
  obtain ⟨tx, sa, pa, h1, h2, hF, hD, hR, hW, hw1, hw2⟩ := h
  refine wm_aload_n C rfl dL_law_510 ?_
  refine wm_ld C hA hX hbl hL 1 (by omega) rfl rfl rfl dL_law_511 dL_law_512 dL_law_514 dL_law_515 dL_law_516 ?_
  refine wm_cVI1 C vqL_72 (tX5_ring (d := 0) h1.1 h2) h1.1.1 ⟨by decide, by decide⟩ (Nat.le_of_ble_eq_true rfl) ⟨by show _ ≤ 601024; omega, by show _ ≤ 7293034; omega⟩ dL_law_517 (fun r I1 hr => ?_)
  obtain ⟨rfl, rfl⟩ := hr
  refine wm_aload_n C rfl dL_law_520 ?_
  refine wm_ld C hA hX hbl hL 1 (by omega) rfl rfl rfl dL_law_521 dL_law_522 dL_law_524 dL_law_525 dL_law_526 ?_
  refine wm_cVI1 C vqL_75 (tX6_ring (d := 0) hF hD hR) hF.1 ⟨by decide, by decide⟩ (Nat.le_of_ble_eq_true rfl) ⟨by show _ ≤ 601024; omega, by show _ ≤ 7293034; omega⟩ dL_law_527 (fun r2 I2 hr2 => ?_)
  obtain ⟨rfl, d1, d2, d3⟩ := hr2
  refine wm_icmp_eq C 560 dL_law_530 (by decide) (fun _ => ?_) (fun z => absurd rfl z)
  exact wm_widen (by omega) (by omega) (kk K N I2 R L sz _ res ring cp mt ⟨_, _, _, h1.offRef d3, h2.offRef d3, hF, d1, d2, hW, hw1, hw2⟩)
theorem lc12 (C : Cx p s m args meth c A G RL cL_law 7) (hA : ∀ q, A q → s.heap.size ≤ q) (hX : va_X b Len xs s s.heap) (hbl : b < s.heap.size) (hL : Len ≤ 2048) (h : Inv K N I R sz o D res ring cp mt) (hi : i + 4 ≤ Len) (hc : cells + 9 ≤ 601024 ∧ slots + 2012 ≤ 7293034) (kk : ∀ (K' N' : TK) (I' : TI) (R' : TR) (L' : TL) (sz' : Nat) (D' : Dt) (res' : List It) (ring' : List Int32) (cp' mt' : Int32), Inv K' N' I' R' sz' o D' res' ring' cp' mt' → Wm p l e room_1 s m args below meth c Q A G 7 560 (lv5 b o i) [] K' N' I' R' L' sz' (cells + 9) (slots + 2012)) : Wm p l e room_1 s m args below meth c Q A G 7 535 (lv5 b o i) [] K N I R L sz cells slots := by
  have hn12 := h.nt
  obtain ⟨tx, sa, pa, h1, h2, hF, hD, hR, hW, hw1, hw2⟩ := h
  refine wm_aload_n C rfl dL_law_535 ?_
  refine wm_ld C hA hX hbl hL 1 (by omega) rfl rfl rfl dL_law_536 dL_law_537 dL_law_539 dL_law_540 dL_law_541 ?_
  refine wm_cVI1 C vqL_76 (tX5_count (d := 0) h1.1 h1.2.1 h2) h1.1.1 ⟨by decide, by decide⟩ (Nat.le_of_ble_eq_true rfl) ⟨by show _ ≤ 601024; omega, by show _ ≤ 7293034; omega⟩ dL_law_542 (fun r I1 hr => ?_)
  obtain ⟨rfl, rfl⟩ := hr
  refine wm_aload_n C rfl dL_law_545 ?_
  refine wm_ld C hA hX hbl hL 1 (by omega) rfl rfl rfl dL_law_546 dL_law_547 dL_law_549 dL_law_550 dL_law_551 ?_
  refine wm_cVI1 C vqL_79 (tX6_count (d := 0) hF hD hR) hF.1 ⟨by decide, by decide⟩ (Nat.le_of_ble_eq_true rfl) ⟨by show _ ≤ 601024; omega, by show _ ≤ 7293034; omega⟩ dL_law_552 (fun r2 I2 hr2 => ?_)
  obtain ⟨rfl, d1, d2, d3⟩ := hr2
  refine wm_icmp_eq C 560 dL_law_555 (by decide) (fun _ => ?_) (fun z => absurd rfl z)
  exact wm_widen (by omega) (by omega) (kk K N I2 R L sz _ res ring cp mt ⟨_, _, _, h1.offRef d3, h2.offRef d3, hF, d1, d2, hW, hw1, hw2⟩)
end CASES

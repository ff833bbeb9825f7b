/-! the law's loop -/
theorem sw_12 (x : Int32) : (x.toInt < 0 ∨ 12 < x.toInt) ∨ x = 0 ∨ x = 1 ∨ x = 2 ∨ x = 3 ∨ x = 4 ∨ x = 5 ∨ x = 6 ∨ x = 7 ∨ x = 8 ∨ x = 9 ∨ x = 10 ∨ x = 11 ∨ x = 12 := by
  by_cases h1 : x.toInt < 0
  · exact Or.inl (Or.inl h1)
  by_cases h2 : 12 < x.toInt
  · exact Or.inl (Or.inr h2)
  obtain ⟨j, hj, rfl⟩ := sw_lt 12 (by decide) h1 h2
  rcases (show j = 0 ∨ j = 1 ∨ j = 2 ∨ j = 3 ∨ j = 4 ∨ j = 5 ∨ j = 6 ∨ j = 7 ∨ j = 8 ∨ j = 9 ∨ j = 10 ∨ j = 11 ∨ j = 12 by omega) with rfl | rfl | rfl | rfl | rfl | rfl | rfl | rfl | rfl | rfl | rfl | rfl | rfl <;> simp [nI]
section LOOP
variable {p : Program} {l : Launch} {e : Env} {s : State} {m : MethodId} {args : Array Value} {below : List Frame} {meth : Method} {c : Code} {Q : State → Prop} {A : Nat → Prop} {G : Gx} {b Len o : Nat} {xs : Nat → Int32}
theorem law_loop (hTW : TW s) (hst : l.stackTraces = false) (C : Cx p s m args meth c A G RL cL_law 7) (hA : ∀ q, A q → s.heap.size ≤ q) (hX : va_X b Len xs s s.heap) (hbl : b < s.heap.size) (hL : Len ≤ 2048)
    (fin : ∀ (lv : List (Nat × Value)) (K N : TK) (I : TI) (R : TR) (L : TL) (sz cells slots : Nat), cells ≤ 601024 → slots ≤ 7293034 → Wm p l e room_1 s m args below meth c Q A G 7 566 lv [] K N I R L sz cells slots) :
    ∀ (n it : Nat) (K N : TK) (I : TI) (R : TR) (L : TL) (sz : Nat) (D : Dt) (res : List It) (ring : List Int32) (cp mt : Int32), n + it = 512 → Inv K N I R sz o D res ring cp mt → Wm p l e room_1 s m args below meth c Q A G 7 23 (lv5 b o (4 * it)) [] K N I R L sz (55 + 9 * it) (38808 + 2012 * it)
  | n, it, K, N, I, R, L, sz, D, res, ring, cp, mt, hn, h => by
    refine wm_iload C rfl dL_law_23 ?_
    refine wm_aload_n C rfl dL_law_25 ?_
    refine wm_slen C hA hX hbl dL_law_26 ?_
    refine wm_iconst C (nI 4) dL_law_27 ?_ (by decide)
    refine wm_isub C dL_law_28 ?_
    have hlt : nI Len - nI 4 < nI (4 * it) ↔ Len < 4 * it + 4 := by
      rw [Int32.lt_iff_toInt_lt, pk_sub_toInt (by omega) (by omega), nI_toInt (by omega)]
      omega
    refine wm_icmp_gt C 566 dL_law_29 (by decide) (fun _ => fin _ _ _ _ _ _ _ _ _ (by omega) (by omega)) (fun q => ?_)
    have hi : 4 * it + 4 ≤ Len := by
      rw [hlt] at q; omega
    obtain ⟨n, rfl⟩ : ∃ n', n = n' + 1 := ⟨n - 1, by omega⟩
    have hc : 55 + 9 * it + 9 ≤ 601024 ∧ 38808 + 2012 * it + 2012 ≤ 7293034 := by omega
    have kk : ∀ (K' N' : TK) (I' : TI) (R' : TR) (L' : TL) (sz' : Nat) (D' : Dt) (res' : List It) (ring' : List Int32) (cp' mt' : Int32), Inv K' N' I' R' sz' o D' res' ring' cp' mt' → Wm p l e room_1 s m args below meth c Q A G 7 560 (lv5 b o (4 * it)) [] K' N' I' R' L' sz' (55 + 9 * it + 9) (38808 + 2012 * it + 2012) := fun K' N' I' R' L' sz' D' res' ring' cp' mt' h' => by
      have hv : nI (4 * it) + Int32.ofInt 4 = nI (4 * (it + 1)) := by
        show nI (4 * it) + nI 4 = _
        rw [nI_add]; congr 1
      rw [show 55 + 9 * it + 9 = 55 + 9 * (it + 1) by omega, show 38808 + 2012 * it + 2012 = 38808 + 2012 * (it + 1) by omega]
      exact wm_iinc C (nI (4 * (it + 1))) rfl dL_law_560 hv (by decide) (wm_goto C 23 dL_law_563 (law_loop hTW hst C hA hX hbl hL fin n (it + 1) K' N' I' R' L' sz' D' res' ring' cp' mt' (by omega) h') (by decide))
    refine wm_aload_n C rfl dL_law_32 ?_
    refine wm_iload C rfl dL_law_33 ?_
    refine wm_sld C hA hX hbl (show 4 * it < Len by omega) hL dL_law_35 ?_
    refine wm_bipush C 15 dL_law_36 ?_ (by decide)
    refine wm_iand C dL_law_38 ?_
    generalize xs (4 * it) &&& 15 = v
    rcases sw_12 v with q | q | q | q | q | q | q | q | q | q | q | q | q | q
    · refine wm_tableOut C 560 dL_law_39 q (by decide) ?_
      exact wm_widen (by omega) (by omega) (kk _ _ _ _ _ _ _ _ _ _ _ h)
    · exact wm_tableIn C 65 104 dL_law_39 (by rw [q]; decide) (by rw [q]; decide) (by rw [q]; rfl) (by decide) (lc0 C hA hX hbl hL h hi hc kk)
    · exact wm_tableIn C 90 129 dL_law_39 (by rw [q]; decide) (by rw [q]; decide) (by rw [q]; rfl) (by decide) (lc1 C hA hX hbl hL h hi hc kk)
    · exact wm_tableIn C 127 166 dL_law_39 (by rw [q]; decide) (by rw [q]; decide) (by rw [q]; rfl) (by decide) (lc2 C hA hX hbl hL h hi hc kk)
    · exact wm_tableIn C 192 231 dL_law_39 (by rw [q]; decide) (by rw [q]; decide) (by rw [q]; rfl) (by decide) (lc3 C hA hX hbl hL h hi hc kk)
    · exact wm_tableIn C 217 256 dL_law_39 (by rw [q]; decide) (by rw [q]; decide) (by rw [q]; rfl) (by decide) (lc4 C hA hX hbl hL h hi hc kk)
    · exact wm_tableIn C 242 281 dL_law_39 (by rw [q]; decide) (by rw [q]; decide) (by rw [q]; rfl) (by decide) (lc5 C hA hX hbl hL h hi hc kk)
    · exact wm_tableIn C 291 330 dL_law_39 (by rw [q]; decide) (by rw [q]; decide) (by rw [q]; rfl) (by decide) (lc6 C hA hX hbl hL h hi hc kk)
    · exact wm_tableIn C 328 367 dL_law_39 (by rw [q]; decide) (by rw [q]; decide) (by rw [q]; rfl) (by decide) (lc7 C hA hX hbl hL h hi hc kk)
    · exact wm_tableIn C 365 404 dL_law_39 (by rw [q]; decide) (by rw [q]; decide) (by rw [q]; rfl) (by decide) (lc8 C hA hX hbl hL h hi hc kk)
    · exact wm_tableIn C 378 417 dL_law_39 (by rw [q]; decide) (by rw [q]; decide) (by rw [q]; rfl) (by decide) (lc9 hTW hst C hA hX hbl hL h hi hc kk)
    · exact wm_tableIn C 434 473 dL_law_39 (by rw [q]; decide) (by rw [q]; decide) (by rw [q]; rfl) (by decide) (lc10 C hA hX hbl hL h hi hc kk)
    · exact wm_tableIn C 471 510 dL_law_39 (by rw [q]; decide) (by rw [q]; decide) (by rw [q]; rfl) (by decide) (lc11 C hA hX hbl hL h hi hc kk)
    · exact wm_tableIn C 496 535 dL_law_39 (by rw [q]; decide) (by rw [q]; decide) (by rw [q]; rfl) (by decide) (lc12 C hA hX hbl hL h hi hc kk)
  termination_by n => n
end LOOP

/-! the reference: its rows -/
def RefRow (I : TI) (q r : Nat) (t : List It) : Prop := I (q + 20) r = nI t.length ∧ t.length ≤ 300 ∧ ∀ (j : Nat) (x : It), t[j]? = some x → rfAt I q (302 * r + j) x
/-- rows and fields that may change -/
def offE (I I' : TI) (q : Nat) (rs fs : Nat → Prop) : Prop := (∀ a, a ≠ q → (a < q + 14 ∨ q + 20 < a) → I' a = I a) ∧ (∀ k, ¬ fs k → I' q k = I q k) ∧ (∀ c, 14 ≤ c → c ≤ 19 → ∀ k, (∀ r, rs r → k < 302 * r ∨ 302 * r + 302 ≤ k) → I' (q + c) k = I (q + c) k) ∧ ∀ r, ¬ rs r → I' (q + 20) r = I (q + 20) r
theorem offE.rf {I : TI} {q : Nat} {rs fs : Nat → Prop} : offE I I q rs fs := ⟨fun _ _ _ => rfl, fun _ _ => rfl, fun _ _ _ _ _ => rfl, fun _ _ => rfl⟩
theorem offE.tr {I I' I'' : TI} {q : Nat} {rs fs : Nat → Prop} (h : offE I I' q rs fs) (h2 : offE I' I'' q rs fs) : offE I I'' q rs fs := ⟨fun a q1 q2 => (h2.1 a q1 q2).trans (h.1 a q1 q2), fun k q1 => (h2.2.1 k q1).trans (h.2.1 k q1), fun c q1 q2 k q3 => (h2.2.2.1 c q1 q2 k q3).trans (h.2.2.1 c q1 q2 k q3), fun r q1 => (h2.2.2.2 r q1).trans (h.2.2.2 r q1)⟩
theorem offE.mono {I I' : TI} {q : Nat} {rs fs rs' fs' : Nat → Prop} (h : offE I I' q rs fs) (hr : ∀ r, rs r → rs' r) (hf : ∀ k, fs k → fs' k) : offE I I' q rs' fs' := ⟨h.1, fun k q1 => h.2.1 k (fun z => q1 (hf k z)), fun c q1 q2 k q3 => h.2.2.1 c q1 q2 k (fun r z => q3 r (hr r z)), fun r q1 => h.2.2.2 r (fun z => q1 (hr r z))⟩
theorem offE.fld {I : TI} {q k : Nat} {v : Int32} {rs fs : Nat → Prop} (hk : fs k) : offE I (u2 I q k v) q rs fs := ⟨fun a q1 _ => u2_ne _ _ q1, fun j q1 => u2_nk _ _ (fun z => q1 (by rw [z]; exact hk)), fun c q1 q2 j _ => by rw [u2_ne _ _ (by omega)], fun r _ => by rw [u2_ne _ _ (by omega)]⟩
theorem offE.len {I : TI} {q r : Nat} {v : Int32} {rs fs : Nat → Prop} (hr : rs r) : offE I (u2 I (q + 20) r v) q rs fs := ⟨fun a q1 q2 => u2_ne _ _ (by omega), fun j q1 => by rw [u2_ne _ _ (by omega)], fun c q1 q2 j _ => by rw [u2_ne _ _ (by omega)], fun r' q1 => u2_nk _ _ (fun z => q1 (by rw [z]; exact hr))⟩
theorem offE.ref {I I' : TI} {q : Nat} {rs fs : Nat → Prop} (h : offE I I' q rs fs) : offRef I I' q := fun a ha => h.1 a (by omega) (by omega)
theorem offE.dat {I I' : TI} {q : Nat} {rs fs : Nat → Prop} {D : Dt} (h : offE I I' q rs fs) (hf : ∀ k, fs k → 3 < k) (hD : RefD I q D) : RefD I' q D := hD.mv (h.2.1 _ (fun z => absurd (hf _ z) (by omega))) (h.2.1 _ (fun z => absurd (hf _ z) (by omega))) (h.2.1 _ (fun z => absurd (hf _ z) (by omega))) (fun c q1 q2 => h.1 _ (by omega) (by omega))
theorem offE.row {I I' : TI} {q r : Nat} {rs fs : Nat → Prop} {t : List It} (h : offE I I' q rs fs) (hr : ¬ rs r) (ht : RefRow I q r t) : RefRow I' q r t := by
  refine ⟨by rw [h.2.2.2 r hr]; exact ht.1, ht.2.1, fun j x hx => ?_⟩
  have hj := (List.getElem?_eq_some_iff.mp hx).1
  have h3 := ht.2.1
  have hk : ∀ r', rs r' → 302 * r + j < 302 * r' ∨ 302 * r' + 302 ≤ 302 * r + j := fun r' z => by
    have : r' ≠ r := fun y => hr (by rw [← y]; exact z)
    omega
  obtain ⟨e1, e2, e3, e4, e5, e6⟩ := ht.2.2 j x hx
  refine ⟨?_, ?_, ?_, ?_, ?_, ?_⟩
  · rw [h.2.2.1 14 (by omega) (by omega) _ hk]; exact e1
  · rw [h.2.2.1 15 (by omega) (by omega) _ hk]; exact e2
  · rw [h.2.2.1 16 (by omega) (by omega) _ hk]; exact e3
  · rw [h.2.2.1 17 (by omega) (by omega) _ hk]; exact e4
  · rw [h.2.2.1 19 (by omega) (by omega) _ hk]; exact e5
  · rw [h.2.2.1 18 (by omega) (by omega) _ hk]; exact e6
theorem nI_302 (r n : Nat) : (302 : Int32) * nI r + nI n = nI (302 * r + n) := by rw [show (302 : Int32) = nI 302 from rfl, pk_mul, nI_add]
theorem nI_302' (r : Nat) : (302 : Int32) * nI r = nI (302 * r) := by rw [show (302 : Int32) = nI 302 from rfl, pk_mul]
section RROW
variable {l : Launch} {G : Gx} {d : Nat} {K N : TK} {I : TI} {R : TR} {L : TL} {sz q : Nat} {D : Dt}
/-- what a put leaves -/
def AftP (q r : Nat) (t : List It) (x : It) (I : TI) (v : Int32) (I' : TI) : Prop := (t.length < 300 ∧ v = 1 ∧ offE I I' q (· = r) (fun _ => False) ∧ RefRow I' q r (t ++ [x])) ∨ (t.length = 300 ∧ v = 0 ∧ I' = u2 I q 28 (-3))
theorem tX6_put {r : Nat} {t : List It} {x1 x2 x3 x4 x5 x6 : Int32} (hF : RefF K N R q) (hr : r ≤ 14) (ht : RefRow I q r t) : MtI l G yX6_put cX6_put 9 (some .boolean) d [.ref q, .int (nI r), .int x1, .int x2, .int x3, .int x4, .int x5, .int x6] K N I R L sz (AftP q r t (x1, x2, x3, x4, x6, x5) I) := by
  have h3 := ht.2.1
  have f20 := hF.2 20 (by decide) (by decide)
  have f14 := hF.2 14 (by decide) (by decide)
  have f15 := hF.2 15 (by decide) (by decide)
  have f16 := hF.2 16 (by decide) (by decide)
  have f17 := hF.2 17 (by decide) (by decide)
  have f18 := hF.2 18 (by decide) (by decide)
  have f19 := hF.2 19 (by decide) (by decide)
  have hc : (nI r).toNatClampNeg = r := nI_clamp (by omega)
  have h300 : I (q + 20) r = 300 ↔ t.length = 300 := by rw [ht.1]; exact nI_eq (by omega) (b := 300) (by decide)
  refine sX6_put ⟨hF.1, q + 20, f20.1, f20.2.1, by rw [f20.2.2]; exact vp_in_nI (show r < 15 by omega) (by decide), ?_⟩
  rw [hc, h300]
  refine ⟨fun z => ?_, fun z I37 e37 => Or.inr ⟨z, rfl, e37⟩⟩
  have hn : t.length < 300 := by omega
  rw [ht.1, nI_302, nI_clamp (by omega)]
  have hin : vp_in (nI (302 * r + t.length)) 4530 := vp_in_nI (by omega) (by decide)
  refine ⟨q + 14, f14.1, f14.2.1, by rw [f14.2.2]; exact hin, fun I10 e10 => ⟨q + 15, f15.1, f15.2.1, by rw [f15.2.2]; exact hin, fun I15 e15 => ⟨q + 16, f16.1, f16.2.1, by rw [f16.2.2]; exact hin, fun I20 e20 => ⟨q + 17, f17.1, f17.2.1, by rw [f17.2.2]; exact hin, fun I25 e25 => ⟨q + 18, f18.1, f18.2.1, by rw [f18.2.2]; exact hin, fun I30 e30 => ⟨q + 19, f19.1, f19.2.1, by rw [f19.2.2]; exact hin, fun I35 e35 I36 e36 => Or.inl ⟨hn, rfl, ?_⟩⟩⟩⟩⟩⟩⟩
  have hfar : ∀ a, a ≠ q + 14 → a ≠ q + 15 → a ≠ q + 16 → a ≠ q + 17 → a ≠ q + 18 → a ≠ q + 19 → I35 a = I a := fun a y1 y2 y3 y4 y5 y6 => by rw [e35, u2_ne _ _ y6, e30, u2_ne _ _ y5, e25, u2_ne _ _ y4, e20, u2_ne _ _ y3, e15, u2_ne _ _ y2, e10, u2_ne _ _ y1]
  have h20 : I35 (q + 20) r = nI t.length := by rw [hfar _ (by omega) (by omega) (by omega) (by omega) (by omega) (by omega)]; exact ht.1
  rw [h20, nI_1] at e36
  have g14 : I36 (q + 14) = va_up (I (q + 14)) (302 * r + t.length) x1 := by rw [e36, u2_ne _ _ (by omega), e35, u2_ne _ _ (by omega), e30, u2_ne _ _ (by omega), e25, u2_ne _ _ (by omega), e20, u2_ne _ _ (by omega), e15, u2_ne _ _ (by omega), e10, u2_at]
  have g15 : I36 (q + 15) = va_up (I (q + 15)) (302 * r + t.length) x2 := by rw [e36, u2_ne _ _ (by omega), e35, u2_ne _ _ (by omega), e30, u2_ne _ _ (by omega), e25, u2_ne _ _ (by omega), e20, u2_ne _ _ (by omega), e15, u2_at, e10, u2_ne _ _ (by omega)]
  have g16 : I36 (q + 16) = va_up (I (q + 16)) (302 * r + t.length) x3 := by rw [e36, u2_ne _ _ (by omega), e35, u2_ne _ _ (by omega), e30, u2_ne _ _ (by omega), e25, u2_ne _ _ (by omega), e20, u2_at, e15, u2_ne _ _ (by omega), e10, u2_ne _ _ (by omega)]
  have g17 : I36 (q + 17) = va_up (I (q + 17)) (302 * r + t.length) x4 := by rw [e36, u2_ne _ _ (by omega), e35, u2_ne _ _ (by omega), e30, u2_ne _ _ (by omega), e25, u2_at, e20, u2_ne _ _ (by omega), e15, u2_ne _ _ (by omega), e10, u2_ne _ _ (by omega)]
  have g18 : I36 (q + 18) = va_up (I (q + 18)) (302 * r + t.length) x5 := by rw [e36, u2_ne _ _ (by omega), e35, u2_ne _ _ (by omega), e30, u2_at, e25, u2_ne _ _ (by omega), e20, u2_ne _ _ (by omega), e15, u2_ne _ _ (by omega), e10, u2_ne _ _ (by omega)]
  have g19 : I36 (q + 19) = va_up (I (q + 19)) (302 * r + t.length) x6 := by rw [e36, u2_ne _ _ (by omega), e35, u2_at, e30, u2_ne _ _ (by omega), e25, u2_ne _ _ (by omega), e20, u2_ne _ _ (by omega), e15, u2_ne _ _ (by omega), e10, u2_ne _ _ (by omega)]
  have g20 : I36 (q + 20) = va_up (I (q + 20)) r (nI (t.length + 1)) := by rw [e36, u2_at, hfar _ (by omega) (by omega) (by omega) (by omega) (by omega) (by omega)]
  have hof : offE I I36 q (· = r) (fun _ => False) := by
    refine ⟨fun a y1 y2 => by rw [e36, u2_ne _ _ (by omega)]; exact hfar _ (by omega) (by omega) (by omega) (by omega) (by omega) (by omega), fun k _ => by rw [e36, u2_ne _ _ (by omega), hfar _ (by omega) (by omega) (by omega) (by omega) (by omega) (by omega)], fun c y1 y2 k hk => ?_, fun r' hr' => by rw [g20, va_up_ne _ _ hr']⟩
    have hk := hk r rfl
    have hne : k ≠ 302 * r + t.length := by omega
    rcases (show c = 14 ∨ c = 15 ∨ c = 16 ∨ c = 17 ∨ c = 18 ∨ c = 19 by omega) with rfl | rfl | rfl | rfl | rfl | rfl
    · rw [g14, va_up_ne _ _ hne]
    · rw [g15, va_up_ne _ _ hne]
    · rw [g16, va_up_ne _ _ hne]
    · rw [g17, va_up_ne _ _ hne]
    · rw [g18, va_up_ne _ _ hne]
    · rw [g19, va_up_ne _ _ hne]
  refine ⟨hof, by rw [g20, va_up_self]; simp, by simp; omega, fun j y hy => ?_⟩
  unfold rfAt
  rw [g14, g15, g16, g17, g18, g19]
  by_cases hj : j < t.length
  · rw [List.getElem?_append_left hj] at hy
    have hne : 302 * r + j ≠ 302 * r + t.length := by omega
    rw [va_up_ne _ _ hne, va_up_ne _ _ hne, va_up_ne _ _ hne, va_up_ne _ _ hne, va_up_ne _ _ hne, va_up_ne _ _ hne]
    exact ht.2.2 j y hy
  · rw [List.getElem?_append_right (by omega)] at hy
    have hj0 : j = t.length := by
      have := (List.getElem?_eq_some_iff.mp hy).1
      simp at this; omega
    subst hj0
    simp at hy
    subst hy
    exact ⟨va_up_self _ _ _, va_up_self _ _ _, va_up_self _ _ _, va_up_self _ _ _, va_up_self _ _ _, va_up_self _ _ _⟩
theorem tX6_again {r r2 j : Nat} {t t2 : List It} {x : It} (hF : RefF K N R q) (hr : r ≤ 14) (ht : RefRow I q r t) (hr2 : r2 ≤ 14) (ht2 : RefRow I q r2 t2) (hx : t2[j]? = some x) : MtI l G yX6_again cX6_again 3 (some .boolean) (d + 1) [.ref q, .int (nI r), .int (nI (302 * r2 + j))] K N I R L sz (AftP q r t x I) := by
  have hj := (List.getElem?_eq_some_iff.mp hx).1
  have h3 := ht2.2.1
  have f14 := hF.2 14 (by decide) (by decide)
  have f15 := hF.2 15 (by decide) (by decide)
  have f16 := hF.2 16 (by decide) (by decide)
  have f17 := hF.2 17 (by decide) (by decide)
  have f18 := hF.2 18 (by decide) (by decide)
  have f19 := hF.2 19 (by decide) (by decide)
  have hin : vp_in (nI (302 * r2 + j)) 4530 := vp_in_nI (by omega) (by decide)
  obtain ⟨e1, e2, e3, e4, e5, e6⟩ := ht2.2.2 j x hx
  refine sX6_again ⟨hF.1, q + 14, f14.1, f14.2.1, by rw [f14.2.2]; exact hin, q + 15, f15.1, f15.2.1, by rw [f15.2.2]; exact hin, q + 16, f16.1, f16.2.1, by rw [f16.2.2]; exact hin, q + 17, f17.1, f17.2.1, by rw [f17.2.2]; exact hin, q + 18, f18.1, f18.2.1, by rw [f18.2.2]; exact hin, q + 19, f19.1, f19.2.1, by rw [f19.2.2]; exact hin, ?_⟩
  rw [nI_clamp (by omega), e1, e2, e3, e4, e5, e6]
  refine ⟨_, tX6_put hF hr ht, fun r28 I29 h28 => ⟨?_, h28⟩⟩
  rcases h28 with ⟨-, h, -⟩ | ⟨-, h, -⟩
  · exact Or.inr h
  · exact Or.inl h
end RROW

/-! which numbers are words, names, plain -/
def b2i (b : Bool) : Int32 := if b then 1 else 0
theorem b2i_t {b : Bool} (h : b = true) : b2i b = 1 := by rw [h]; rfl
theorem b2i_f {b : Bool} (h : b = false) : b2i b = 0 := by rw [h]; rfl
theorem b2i_01 (b : Bool) : b2i b = 0 ∨ b2i b = 1 := by cases b <;> simp [b2i]
theorem b2i_eq0 (b : Bool) : b2i b = 0 ↔ b = false := by cases b <;> simp [b2i]
theorem b2i_ne0 (b : Bool) : ¬ b2i b = 0 ↔ b = true := by cases b <;> simp [b2i]
def wd (x : Int32) : Bool := decide (¬ x ≤ 0) && okF 6 x.toNatClampNeg
def nmOk (x : Int32) : Bool := decide (¬ x < 0) && decide (¬ 99 < x)
def plOk (x : Int32) : Bool := x == 0 || x == -1 || wd x
theorem pos_nI {x : Int32} (h : ¬ x ≤ 0) : ∃ n : Nat, 0 < n ∧ n < 2 ^ 31 ∧ x = nI n := by
  have h1 : ¬ x < 0 := fun q => h (Int32.le_of_lt q)
  obtain ⟨n, hn, rfl⟩ := nI_of h1
  exact ⟨n, Nat.pos_of_ne_zero (fun z => h ((nI_le0 hn).mpr z)), hn, rfl⟩
theorem wd_nI {n : Nat} (hn : n < 2 ^ 31) : wd (nI n) = (decide (0 < n) && okF 6 n) := by
  unfold wd
  rw [nI_clamp hn]
  congr 1
  rw [decide_eq_decide]
  rw [nI_le0 hn]; omega
theorem wd_spec {x : Int32} (h : wd x = true) : ∃ n : Nat, 0 < n ∧ n < 27 ^ 6 ∧ x = nI n ∧ okF 6 n = true := by
  have h2 := h
  unfold wd at h2
  simp only [Bool.and_eq_true, decide_eq_true_eq] at h2
  obtain ⟨n, h0, hn, rfl⟩ := pos_nI h2.1
  rw [nI_clamp hn] at h2
  exact ⟨n, h0, okF_lt 6 n h2.2, rfl, h2.2⟩
theorem okF_step {k n : Nat} (h0 : ¬ n = 0) (q : ¬ n % 27 = 0) : okF (k + 1) n = okF k (n / 27) := by
  have e1 : (n == 0) = false := by simp [h0]
  have e2 : (n % 27 != 0) = true := by simp [q]
  rw [show okF (k + 1) n = (n == 0 || (n % 27 != 0 && okF k (n / 27))) from rfl, e1, e2]; rfl
section WRD
variable {p : Program} {l : Launch} {e : Env} {s : State} {m : MethodId} {args : Array Value} {below : List Frame} {meth : Method} {c : Code} {G : Gx} {d : Nat} {K N : TK} {I : TI} {R : TR} {L : TL} {sz : Nat} {φ : Int32 → TI → Prop}
theorem isWord_loop (C : Cx p s m args meth c (AM K sz) G RX5 cX5_isWord 3) (hr : meth.sig.returnType = (some .boolean)) {x0 : Int32} (hx : ¬ x0 ≤ 0) : ∀ (k j n : Nat), k + j = 6 → n < 2 ^ 31 → φ (b2i (okF k n)) I → WI p l e s m args below meth c G d φ K N R L sz 3 4 [(0, .int x0), (1, .int (nI n)), (2, .int (nI j))] I
  | 0, j, n, hj, hn, h => by
    have hE : ((¬ nI n = 0 → φ 0 I) ∧ (nI n = 0 → φ 1 I)) := ⟨fun q => by
        rw [nI_eq0 hn] at q
        rw [b2i_f (by simp [okF, q])] at h; exact h, fun q => by
        rw [nI_eq0 hn] at q
        rw [b2i_t (by simp [okF, q])] at h; exact h⟩
    exact vX5_isWord_4 C hr ⟨fun _ => ⟨fun q => absurd q hx, fun _ => hE⟩, fun q => absurd ((nI_6le (by omega)).mpr (by omega)) q⟩
  | k + 1, j, n, hj, hn, h => by
    refine vX5_isWord_4 C hr ⟨fun q => absurd ((nI_6le (by omega)).mp q) (by omega), fun _ => ⟨fun q => ⟨fun q => absurd q hx, fun _ => ?_⟩, fun q => ?_⟩⟩
    · have h0 := (nI_le0 hn).mp q
      subst h0
      exact ⟨fun q => absurd nI_0 q, fun _ => by rw [b2i_t (by simp [okF])] at h; exact h⟩
    · have h0 : ¬ n = 0 := fun z => q ((nI_le0 hn).mpr z)
      rw [nI_rem27 hn, nI_eq0 (by omega), nI_1, nI_div27 hn]
      refine ⟨fun q => ?_, fun q => ?_⟩
      · refine isWord_loop C hr hx k (j + 1) (n / 27) (by omega) (by omega) ?_
        have : okF (k + 1) n = okF k (n / 27) := okF_step h0 q
        rw [← this]; exact h
      · rw [b2i_f (by simp [okF, h0, q])] at h; exact h
theorem tX5_isWord {x : Int32} : MtI l G yX5_isWord cX5_isWord 3 (some .boolean) d [.int x] K N I R L sz (fun r I' => r = b2i (wd x) ∧ I' = I) := by
  refine sX5_isWord (fun p e s m args below meth c C hr => ?_)
  by_cases hx : x ≤ 0
  · have : wd x = false := by simp [wd, hx]
    refine vX5_isWord_4 C hr ⟨fun q => absurd q (by decide), fun _ => ⟨fun _ => ⟨fun _ => ⟨by rw [this]; rfl, rfl⟩, fun q => absurd hx q⟩, fun q => absurd hx q⟩⟩
  · obtain ⟨n, h0, hn, rfl⟩ := pos_nI hx
    refine isWord_loop C hr hx 6 0 n (by omega) hn ⟨?_, rfl⟩
    rw [wd_nI hn]; simp [h0]
theorem isWord6_loop (C : Cx p s m args meth c (AM K sz) G RX6 cX6_isWord 2) (hr : meth.sig.returnType = (some .boolean)) : ∀ (k n : Nat), n < 27 ^ k → n < 2 ^ 31 → φ (b2i (okF k n)) I → WI p l e s m args below meth c G d φ K N R L sz 2 15 [(1, .int (nI n))] I
  | 0, n, hk, hn, h => by
    have hz : n = 0 := by simpa using hk
    subst hz
    exact vX6_isWord_15 C hr ⟨fun _ => ⟨fun q => absurd nI_0 q, fun _ => h⟩, fun q => absurd ((nI_le0 (by decide)).mpr rfl) q⟩
  | k + 1, n, hk, hn, h => by
    refine vX6_isWord_15 C hr ⟨fun q => ?_, fun q => ?_⟩
    · have h0 := (nI_le0 hn).mp q
      subst h0
      exact ⟨fun q => absurd nI_0 q, fun _ => by rw [b2i_t (by simp [okF])] at h; exact h⟩
    · have h0 : ¬ n = 0 := fun z => q ((nI_le0 hn).mpr z)
      rw [nI_rem27 hn, nI_le0 (by omega), nI_div27 hn, nI_eq0 hn]
      refine ⟨fun q => ⟨fun _ => ?_, fun q => absurd q h0⟩, fun q => ?_⟩
      · rw [b2i_f (by simp [okF, h0, q])] at h; exact h
      · refine isWord6_loop C hr k (n / 27) (by rw [Nat.pow_succ] at hk; omega) (by omega) ?_
        have : okF (k + 1) n = okF k (n / 27) := okF_step h0 q
        rw [← this]; exact h
theorem tX6_isWord {x : Int32} : MtI l G yX6_isWord cX6_isWord 2 (some .boolean) d [.int x] K N I R L sz (fun r I' => r = b2i (wd x) ∧ I' = I) := by
  refine sX6_isWord (fun p e s m args below meth c C hr => ⟨fun q => ?_, fun q => ?_⟩)
  · refine ⟨?_, rfl⟩
    have hx : x ≤ 0 := by
      have h1 := Int32.lt_iff_toInt_lt.mp q
      rw [Int32.le_iff_toInt_le]
      have h2 : (1 : Int32).toInt = 1 := rfl
      have h3 : (0 : Int32).toInt = 0 := rfl
      omega
    rw [b2i_f (by simp [wd, hx])]
  · have hx : ¬ x ≤ 0 := fun z => q (by
      have h1 := Int32.le_iff_toInt_le.mp z
      rw [Int32.lt_iff_toInt_lt]
      have h2 : (1 : Int32).toInt = 1 := rfl
      have h3 : (0 : Int32).toInt = 0 := rfl
      omega)
    obtain ⟨n, h0, hn, rfl⟩ := pos_nI hx
    have hlt : nI n < 387420489 ↔ n < 387420489 := nI_ltI hn (b := 387420489) (by decide)
    refine ⟨fun q2 => ?_, fun q2 => ?_⟩
    · refine isWord6_loop C hr 6 n (hlt.mp q2) hn ⟨?_, rfl⟩
      rw [wd_nI hn]; simp [h0]
    · refine ⟨?_, rfl⟩
      rw [b2i_f]
      rw [wd_nI hn, Bool.and_eq_false_iff]
      refine Or.inr (Bool.eq_false_iff.mpr (fun z => q2 (hlt.mpr (okF_lt 6 n z))))
theorem tX5_isName {x : Int32} : MtI l G yX5_isName cX5_isName 1 (some .boolean) d [.int x] K N I R L sz (fun r I' => r = b2i (nmOk x) ∧ I' = I) := by
  refine sX5_isName ⟨fun q => ⟨?_, rfl⟩, fun q => ⟨fun q2 => ⟨?_, rfl⟩, fun q2 => ⟨?_, rfl⟩⟩⟩
  · rw [b2i_f (by simp [nmOk, q])]
  · rw [b2i_f (by simp [nmOk, q2])]
  · rw [b2i_t (by simp [nmOk, q, q2])]
theorem tX5_isPlain {x : Int32} : MtI l G yX5_isPlain cX5_isPlain 1 (some .boolean) (d + 1) [.int x] K N I R L sz (fun r I' => r = b2i (plOk x) ∧ I' = I) := by
  refine sX5_isPlain ⟨fun q => ⟨?_, rfl⟩, fun q => ⟨fun q2 => ⟨?_, rfl⟩, fun q2 => ⟨_, tX5_isWord, fun r I' h => ?_⟩⟩⟩
  · rw [b2i_t (by simp [plOk, q])]
  · rw [b2i_t (by simp [plOk, q2])]
  · obtain ⟨rfl, rfl⟩ := h
    refine ⟨fun z => ⟨?_, rfl⟩, fun z => ⟨?_, rfl⟩⟩
    · rw [b2i_eq0] at z; rw [b2i_f (by simp [plOk, q, q2, z])]
    · rw [b2i_ne0] at z; rw [b2i_t (by simp [plOk, z])]
end WRD

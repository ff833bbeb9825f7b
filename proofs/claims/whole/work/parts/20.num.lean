/-! numbers: letters, powers, words -/
theorem nI_lit (k : Nat) : (OfNat.ofNat k : Int32) = nI k := rfl
theorem nI_le0 {n : Nat} (h : n < 2 ^ 31) : nI n ≤ 0 ↔ n = 0 := (nI_leI h (b := 0) (by decide)).trans (by omega)
theorem nI_eq0 {n : Nat} (h : n < 2 ^ 31) : nI n = 0 ↔ n = 0 := nI_eq h (b := 0) (by decide)
theorem nI_6le {n : Nat} (h : n < 2 ^ 31) : (6 : Int32) ≤ nI n ↔ 6 ≤ n := nI_leI (a := 6) (by decide) h
theorem nI_rem27 {n : Nat} (h : n < 2 ^ 31) : nI n - nI n / 27 * 27 = nI (n % 27) := pk_rem (d := 27) h (by decide) (by decide)
theorem nI_div27 {n : Nat} (h : n < 2 ^ 31) : nI n / 27 = nI (n / 27) := pk_div (d := 27) h (by decide) (by decide)
/-- how many letters, with at most k -/
def nlF : Nat → Nat → Nat
  | 0, _ => 0
  | k + 1, n => if n = 0 then 0 else nlF k (n / 27) + 1
/-- all letters are there, at most k -/
def okF : Nat → Nat → Bool
  | 0, n => n == 0
  | k + 1, n => n == 0 || (n % 27 != 0 && okF k (n / 27))
theorem nlF_le : ∀ (k n : Nat), nlF k n ≤ k
  | 0, _ => Nat.le_refl _
  | k + 1, n => by
    unfold nlF
    have := nlF_le k (n / 27)
    split <;> omega
theorem okF_lt : ∀ (k n : Nat), okF k n = true → n < 27 ^ k
  | 0, n, h => by simp [okF] at h; simp [h]
  | k + 1, n, h => by
    simp only [okF, Bool.or_eq_true, beq_iff_eq, Bool.and_eq_true] at h
    rcases h with h | h
    · subst h; exact Nat.pow_pos (by decide)
    · have := okF_lt k (n / 27) h.2
      rw [Nat.pow_succ]; omega
theorem nlF_lt : ∀ (k n : Nat), n < 27 ^ k → n < 27 ^ (nlF k n)
  | 0, n, h => h
  | k + 1, n, h => by
    unfold nlF
    split
    · rename_i h0; subst h0; exact Nat.pow_pos (by decide)
    · have := nlF_lt k (n / 27) (by rw [Nat.pow_succ] at h; omega)
      rw [Nat.pow_succ]; omega
theorem nlF_mono : ∀ (k n : Nat), n < 27 ^ k → nlF (k + 1) n = nlF k n
  | 0, n, h => by
    have : n = 0 := by simpa using h
    simp [nlF, this]
  | k + 1, n, h => by
    rw [show nlF (k + 1 + 1) n = if n = 0 then 0 else nlF (k + 1) (n / 27) + 1 from rfl, nlF_mono k (n / 27) (by rw [Nat.pow_succ] at h; omega)]
    rfl
theorem pw_lt {k : Nat} (h : k ≤ 6) : 27 ^ k ≤ 387420489 := by
  rcases (show k = 0 ∨ k = 1 ∨ k = 2 ∨ k = 3 ∨ k = 4 ∨ k = 5 ∨ k = 6 by omega) with rfl | rfl | rfl | rfl | rfl | rfl | rfl <;> decide
section NUM
variable {p : Program} {l : Launch} {e : Env} {s : State} {m : MethodId} {args : Array Value} {below : List Frame} {meth : Method} {c : Code} {G : Gx} {d : Nat} {K N : TK} {I : TI} {R : TR} {L : TL} {sz : Nat} {φ : Int32 → TI → Prop}
theorem letters_loop (C : Cx p s m args meth c (AM K sz) G RX5 cX5_letters 3) (hr : meth.sig.returnType = (some .int)) : ∀ (k j n : Nat), k + j = 6 → n < 2 ^ 31 → φ (nI (j + nlF k n)) I → WI p l e s m args below meth c G d φ K N R L sz 3 4 [(1, .int (nI j)), (2, .int (nI n))] I
  | 0, j, n, hj, hn, h => by
    refine vX5_letters_4 C hr ⟨fun _ => h, fun _ => ⟨fun _ => h, fun q => absurd ((nI_6le (by omega)).mpr (by omega)) q⟩⟩
  | k + 1, j, n, hj, hn, h => by
    have h2 := h
    unfold nlF at h2
    refine vX5_letters_4 C hr ⟨fun q => ?_, fun q => ⟨fun q2 => absurd ((nI_6le (by omega)).mp q2) (by omega), fun _ => ?_⟩⟩
    · have := (nI_le0 hn).mp q
      rw [if_pos this] at h2; exact h2
    · have h0 : ¬ n = 0 := fun z => q ((nI_le0 hn).mpr z)
      rw [if_neg h0] at h2
      rw [nI_1, nI_div27 hn]
      exact letters_loop C hr k (j + 1) (n / 27) (by omega) (by omega) (by rw [show j + 1 + nlF k (n / 27) = j + (nlF k (n / 27) + 1) by omega]; exact h2)
/-- letters(w) -/
theorem tX5_letters {n : Nat} (hn : n < 2 ^ 31) : MtI l G yX5_letters cX5_letters 3 (some .int) d [.int (nI n)] K N I R L sz (fun r I' => r = nI (nlF 6 n) ∧ I' = I) :=
  sX5_letters (fun p e s m args below meth c C hr => letters_loop C hr 6 0 n (by omega) hn ⟨by rw [Nat.zero_add], rfl⟩)
theorem letters6_loop (C : Cx p s m args meth c (AM K sz) G RX6 cX6_letters 3) (hr : meth.sig.returnType = (some .int)) : ∀ (k j n : Nat), n < 27 ^ k → n < 2 ^ 31 → φ (nI (j + nlF k n)) I → WI p l e s m args below meth c G d φ K N R L sz 3 4 [(1, .int (nI j)), (2, .int (nI n))] I
  | 0, j, n, hk, hn, h => by
    have hz : n = 0 := by simpa using hk
    subst hz
    exact vX6_letters_4 C hr ⟨fun _ => h, fun q => absurd ((nI_le0 (by decide)).mpr rfl) q⟩
  | k + 1, j, n, hk, hn, h => by
    have h2 := h
    unfold nlF at h2
    refine vX6_letters_4 C hr ⟨fun q => ?_, fun q => ?_⟩
    · rw [if_pos ((nI_le0 hn).mp q)] at h2; exact h2
    · have h0 : ¬ n = 0 := fun z => q ((nI_le0 hn).mpr z)
      rw [if_neg h0] at h2
      rw [nI_1, nI_div27 hn]
      exact letters6_loop C hr k (j + 1) (n / 27) (by rw [Nat.pow_succ] at hk; omega) (by omega) (by rw [show j + 1 + nlF k (n / 27) = j + (nlF k (n / 27) + 1) by omega]; exact h2)
theorem tX6_letters {n : Nat} (hn : n < 27 ^ 6) : MtI l G yX6_letters cX6_letters 3 (some .int) d [.int (nI n)] K N I R L sz (fun r I' => r = nI (nlF 6 n) ∧ I' = I) :=
  sX6_letters (fun p e s m args below meth c C hr => letters6_loop C hr 6 0 n hn (by have := pw_lt (k := 6) (by decide); omega) ⟨by rw [Nat.zero_add], rfl⟩)
theorem power_loop (C : Cx p s m args meth c (AM K sz) G RX5 cX5_power 3) (hr : meth.sig.returnType = (some .int)) {n : Nat} (hn : n ≤ 6) : ∀ (k j v : Nat), k + j = n → φ (nI (v * 27 ^ k)) I → WI p l e s m args below meth c G d φ K N R L sz 3 4 [(0, .int (nI n)), (1, .int (nI v)), (2, .int (nI j))] I
  | 0, j, v, hj, h => by
    have : j = n := by omega
    subst this
    rw [Nat.pow_zero, Nat.mul_one] at h
    exact vX5_power_4 C hr ⟨fun _ => h, fun q => absurd ((nI_leI (by omega) (by omega)).mpr (Nat.le_refl _)) q⟩
  | k + 1, j, v, hj, h => by
    refine vX5_power_4 C hr ⟨fun q => absurd ((nI_leI (by omega) (by omega)).mp q) (by omega), fun _ => ⟨fun q => absurd ((nI_6le (by omega)).mp q) (by omega), fun _ => ?_⟩⟩
    rw [nI_1, show nI v * 27 = nI (v * 27) from pk_mul v 27]
    refine power_loop C hr hn k (j + 1) (v * 27) (by omega) ?_
    rw [show v * 27 * 27 ^ k = v * 27 ^ (k + 1) by rw [Nat.pow_succ, Nat.mul_assoc, Nat.mul_comm 27]]
    exact h
theorem tX5_power {n : Nat} (hn : n ≤ 6) : MtI l G yX5_power cX5_power 3 (some .int) d [.int (nI n)] K N I R L sz (fun r I' => r = nI (27 ^ n) ∧ I' = I) :=
  sX5_power (fun p e s m args below meth c C hr => power_loop C hr hn n 0 1 (by omega) ⟨by rw [Nat.one_mul], rfl⟩)
theorem power6_loop (C : Cx p s m args meth c (AM K sz) G RX6 cX6_power 3) (hr : meth.sig.returnType = (some .int)) {n : Nat} (hn : n ≤ 6) : ∀ (k j v : Nat), k + j = n → φ (nI (v * 27 ^ k)) I → WI p l e s m args below meth c G d φ K N R L sz 3 4 [(0, .int (nI n)), (1, .int (nI v)), (2, .int (nI j))] I
  | 0, j, v, hj, h => by
    have : j = n := by omega
    subst this
    rw [Nat.pow_zero, Nat.mul_one] at h
    exact vX6_power_4 C hr ⟨fun _ => h, fun q => absurd ((nI_leI (by omega) (by omega)).mpr (Nat.le_refl _)) q⟩
  | k + 1, j, v, hj, h => by
    refine vX6_power_4 C hr ⟨fun q => absurd ((nI_leI (by omega) (by omega)).mp q) (by omega), fun _ => ?_⟩
    rw [nI_1, show nI v * 27 = nI (v * 27) from pk_mul v 27]
    refine power6_loop C hr hn k (j + 1) (v * 27) (by omega) ?_
    rw [show v * 27 * 27 ^ k = v * 27 ^ (k + 1) by rw [Nat.pow_succ, Nat.mul_assoc, Nat.mul_comm 27]]
    exact h
theorem tX6_power {n : Nat} (hn : n ≤ 6) : MtI l G yX6_power cX6_power 3 (some .int) d [.int (nI n)] K N I R L sz (fun r I' => r = nI (27 ^ n) ∧ I' = I) :=
  sX6_power (fun p e s m args below meth c C hr => power6_loop C hr hn n 0 1 (by omega) ⟨by rw [Nat.one_mul], rfl⟩)
theorem wl_loop (C : Cx p s m args meth c (AM K sz) G RX5 cX5_withoutLast 4) (hr : meth.sig.returnType = (some .int)) {n : Nat} (hn : n ≤ 6) : ∀ (k j v : Nat), k + j = n → v < 2 ^ 31 → φ (nI (v / 27 ^ k)) I → WI p l e s m args below meth c G d φ K N R L sz 4 4 [(1, .int (nI n)), (2, .int (nI v)), (3, .int (nI j))] I
  | 0, j, v, hj, hv, h => by
    have : j = n := by omega
    subst this
    rw [Nat.pow_zero, Nat.div_one] at h
    exact vX5_withoutLast_4 C hr ⟨fun _ => h, fun q => absurd ((nI_leI (by omega) (by omega)).mpr (Nat.le_refl _)) q⟩
  | k + 1, j, v, hj, hv, h => by
    refine vX5_withoutLast_4 C hr ⟨fun q => absurd ((nI_leI (by omega) (by omega)).mp q) (by omega), fun _ => ⟨fun q => absurd ((nI_6le (by omega)).mp q) (by omega), fun _ => ?_⟩⟩
    rw [nI_1, nI_div27 hv]
    refine wl_loop C hr hn k (j + 1) (v / 27) (by omega) (by omega) ?_
    rw [Nat.div_div_eq_div_mul, Nat.mul_comm, ← Nat.pow_succ]
    exact h
theorem tX5_withoutLast {v n : Nat} (hv : v < 2 ^ 31) (hn : n ≤ 6) : MtI l G yX5_withoutLast cX5_withoutLast 4 (some .int) d [.int (nI v), .int (nI n)] K N I R L sz (fun r I' => r = nI (v / 27 ^ n) ∧ I' = I) :=
  sX5_withoutLast (fun p e s m args below meth c C hr => wl_loop C hr hn n 0 v (by omega) hv ⟨rfl, rfl⟩)
theorem lo_loop (C : Cx p s m args meth c (AM K sz) G RX5 cX5_lastOf 6) (hr : meth.sig.returnType = (some .int)) {n : Nat} (hn : n ≤ 6) : ∀ (k j a u v : Nat), k + j = n → v < 2 ^ 31 → φ (nI (a + u * (v % 27 ^ k))) I → WI p l e s m args below meth c G d φ K N R L sz 6 10 [(1, .int (nI n)), (2, .int (nI a)), (3, .int (nI u)), (4, .int (nI v)), (5, .int (nI j))] I
  | 0, j, a, u, v, hj, hv, h => by
    have : j = n := by omega
    subst this
    rw [Nat.pow_zero, Nat.mod_one, Nat.mul_zero, Nat.add_zero] at h
    exact vX5_lastOf_10 C hr ⟨fun _ => h, fun q => absurd ((nI_leI (by omega) (by omega)).mpr (Nat.le_refl _)) q⟩
  | k + 1, j, a, u, v, hj, hv, h => by
    refine vX5_lastOf_10 C hr ⟨fun q => absurd ((nI_leI (by omega) (by omega)).mp q) (by omega), fun _ => ⟨fun q => absurd ((nI_6le (by omega)).mp q) (by omega), fun _ => ?_⟩⟩
    rw [nI_1, nI_rem27 hv, nI_div27 hv, pk_mul, nI_add, show nI u * 27 = nI (u * 27) from pk_mul u 27]
    refine lo_loop C hr hn k (j + 1) _ _ _ (by omega) (by omega) ?_
    rw [show a + v % 27 * u + u * 27 * (v / 27 % 27 ^ k) = a + u * (v % 27 ^ (k + 1)) by
      rw [Nat.pow_succ, Nat.mul_comm (27 ^ k) 27, Nat.mod_mul, Nat.mul_add, Nat.mul_assoc, Nat.mul_comm (v % 27) u, Nat.add_assoc]]
    exact h
theorem tX5_lastOf {v n : Nat} (hv : v < 2 ^ 31) (hn : n ≤ 6) : MtI l G yX5_lastOf cX5_lastOf 6 (some .int) d [.int (nI v), .int (nI n)] K N I R L sz (fun r I' => r = nI (v % 27 ^ n) ∧ I' = I) :=
  sX5_lastOf (fun p e s m args below meth c C hr => lo_loop C hr hn n 0 0 1 v (by omega) hv ⟨by rw [Nat.zero_add, Nat.one_mul], rfl⟩)
end NUM

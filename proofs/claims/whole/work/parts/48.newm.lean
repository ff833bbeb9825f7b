/-! new CopyReplaceModel() -/
theorem upStep {α : Type} {f g F base : Nat → α} {q c : Nat} {v : α} (h : ∀ a, f a = if q < a ∧ a < q + c then F (a - q) else base a) (hc : 0 < c) (hg : g = va_up f (q + c) v) (hv : v = F c) : ∀ a, g a = if q < a ∧ a < q + (c + 1) then F (a - q) else base a := by
  intro a
  rw [hg]
  by_cases ha : a = q + c
  · subst ha
    rw [va_up_self, if_pos (by omega), hv, Nat.add_sub_cancel_left]
  · rw [va_up_ne _ _ ha, h a]
    by_cases h1 : q < a ∧ a < q + c
    · rw [if_pos h1, if_pos (by omega)]
    · rw [if_neg h1, if_neg (by omega)]
theorem rStep {f g : TR} {base : Nat → Option Nat} {q c : Nat} (h : ∀ k, f q k = if 4 ≤ k ∧ k < c then some (q + (k - 3)) else base k) (hc : 4 ≤ c) (hg : g = u2 f q c (some (q + (c - 3)))) : ∀ k, g q k = if 4 ≤ k ∧ k < c + 1 then some (q + (k - 3)) else base k := by
  intro k
  rw [hg, u2_eq]
  by_cases hk : k = c
  · subst hk; rw [if_pos ⟨rfl, rfl⟩, if_pos (by omega)]
  · rw [if_neg (fun z => hk z.2), h k]
    by_cases h1 : 4 ≤ k ∧ k < c
    · rw [if_pos h1, if_pos (by omega)]
    · rw [if_neg h1, if_neg (by omega)]
def kdF (c : Nat) : Nat := if c = 7 ∨ c = 8 then 21 else 20
def lnL : List Nat := [13, 13, 2600, 61, 61, 488, 61, 61, 101, 101, 101, 1010, 1010, 4530, 4530, 4530, 4530, 4530, 4530, 15, 15, 15, 15, 14]
def lnF (c : Nat) : Nat := lnL.getD (c - 1) 0
def fdF (c : Nat) : Nat := if c = 24 then 33 else c + 3
/-- the reference's shape: the array of place c (from 1) lies at q + c -/
def RefF (K N : TK) (R : TR) (q : Nat) : Prop := K q = 17 ∧ ∀ c, 0 < c → c < 25 → R q (fdF c) = some (q + c) ∧ K (q + c) = kdF c ∧ N (q + c) = lnF c
set_option maxHeartbeats 4000000 in
theorem tX6_init {l : Launch} {G : Gx} {d : Nat} {K N : TK} {I : TI} {R : TR} {L : TL} {q : Nat} (hK : K q = 17) (hI : I q = fun _ => 0) : MtAV l G yX6_init cX6_init 1 none (d + 1) 24 32935 [.ref q] K N I R L (q + 1) (fun K' N' I' R' sz' => RefF K' N' R' q ∧ (∀ a, q ≤ a → a < q + 25 → I' a = fun _ => 0) ∧ sz' = q + 25 ∧ FrB K N I R K' N' I' R' q) := by
  refine sX6_init (fun k0 ek0 n0 en0 i0 ei0 z0 ez0 => ?_)
  have hk0 := upStep (F := kdF) (base := K) (c := 1) (fun a => by rw [if_neg (by omega)]) (by decide) ek0 rfl
  have hn0 := upStep (F := lnF) (base := N) (c := 1) (fun a => by rw [if_neg (by omega)]) (by decide) en0 rfl
  have hi0 := upStep (F := fun _ _ => (0 : Int32)) (base := I) (c := 1) (fun a => by rw [if_neg (by omega)]) (by decide) ei0 rfl
  have kq0 : k0 q = 17 := by rw [hk0, if_neg (by omega)]; exact hK
  obtain rfl : z0 = q + 2 := by omega
  refine ⟨kq0, fun r0 er0 k1 ek1 n1 en1 i1 ei1 z1 ez1 => ?_⟩
  have hr0 := rStep (base := R q) (q := q) (c := 4) (fun k => by rw [if_neg (by omega)]) (by decide) er0
  have hk1 := upStep (c := 2) hk0 (by decide) ek1 rfl
  have hn1 := upStep (c := 2) hn0 (by decide) en1 rfl
  have hi1 := upStep (F := fun _ _ => (0 : Int32)) (c := 2) hi0 (by decide) ei1 rfl
  have kq1 : k1 q = 17 := by rw [hk1, if_neg (by omega)]; exact hK
  obtain rfl : z1 = q + 3 := by omega
  refine ⟨kq1, fun r1 er1 k2 ek2 n2 en2 i2 ei2 z2 ez2 => ?_⟩
  have hr1 := rStep (c := 5) hr0 (by decide) er1
  have hk2 := upStep (c := 3) hk1 (by decide) ek2 rfl
  have hn2 := upStep (c := 3) hn1 (by decide) en2 rfl
  have hi2 := upStep (F := fun _ _ => (0 : Int32)) (c := 3) hi1 (by decide) ei2 rfl
  have kq2 : k2 q = 17 := by rw [hk2, if_neg (by omega)]; exact hK
  obtain rfl : z2 = q + 4 := by omega
  refine ⟨kq2, fun r2 er2 k3 ek3 n3 en3 i3 ei3 z3 ez3 => ?_⟩
  have hr2 := rStep (c := 6) hr1 (by decide) er2
  have hk3 := upStep (c := 4) hk2 (by decide) ek3 rfl
  have hn3 := upStep (c := 4) hn2 (by decide) en3 rfl
  have hi3 := upStep (F := fun _ _ => (0 : Int32)) (c := 4) hi2 (by decide) ei3 rfl
  have kq3 : k3 q = 17 := by rw [hk3, if_neg (by omega)]; exact hK
  obtain rfl : z3 = q + 5 := by omega
  refine ⟨kq3, fun r3 er3 k4 ek4 n4 en4 i4 ei4 z4 ez4 => ?_⟩
  have hr3 := rStep (c := 7) hr2 (by decide) er3
  have hk4 := upStep (c := 5) hk3 (by decide) ek4 rfl
  have hn4 := upStep (c := 5) hn3 (by decide) en4 rfl
  have hi4 := upStep (F := fun _ _ => (0 : Int32)) (c := 5) hi3 (by decide) ei4 rfl
  have kq4 : k4 q = 17 := by rw [hk4, if_neg (by omega)]; exact hK
  obtain rfl : z4 = q + 6 := by omega
  refine ⟨kq4, fun r4 er4 k5 ek5 n5 en5 i5 ei5 z5 ez5 => ?_⟩
  have hr4 := rStep (c := 8) hr3 (by decide) er4
  have hk5 := upStep (c := 6) hk4 (by decide) ek5 rfl
  have hn5 := upStep (c := 6) hn4 (by decide) en5 rfl
  have hi5 := upStep (F := fun _ _ => (0 : Int32)) (c := 6) hi4 (by decide) ei5 rfl
  have kq5 : k5 q = 17 := by rw [hk5, if_neg (by omega)]; exact hK
  obtain rfl : z5 = q + 7 := by omega
  refine ⟨kq5, fun r5 er5 k6 ek6 n6 en6 i6 ei6 z6 ez6 => ?_⟩
  have hr5 := rStep (c := 9) hr4 (by decide) er5
  have hk6 := upStep (c := 7) hk5 (by decide) ek6 rfl
  have hn6 := upStep (c := 7) hn5 (by decide) en6 rfl
  have hi6 := upStep (F := fun _ _ => (0 : Int32)) (c := 7) hi5 (by decide) ei6 rfl
  have kq6 : k6 q = 17 := by rw [hk6, if_neg (by omega)]; exact hK
  obtain rfl : z6 = q + 8 := by omega
  refine ⟨kq6, fun r6 er6 k7 ek7 n7 en7 i7 ei7 z7 ez7 => ?_⟩
  have hr6 := rStep (c := 10) hr5 (by decide) er6
  have hk7 := upStep (c := 8) hk6 (by decide) ek7 rfl
  have hn7 := upStep (c := 8) hn6 (by decide) en7 rfl
  have hi7 := upStep (F := fun _ _ => (0 : Int32)) (c := 8) hi6 (by decide) ei7 rfl
  have kq7 : k7 q = 17 := by rw [hk7, if_neg (by omega)]; exact hK
  obtain rfl : z7 = q + 9 := by omega
  refine ⟨kq7, fun r7 er7 k8 ek8 n8 en8 i8 ei8 z8 ez8 => ?_⟩
  have hr7 := rStep (c := 11) hr6 (by decide) er7
  have hk8 := upStep (c := 9) hk7 (by decide) ek8 rfl
  have hn8 := upStep (c := 9) hn7 (by decide) en8 rfl
  have hi8 := upStep (F := fun _ _ => (0 : Int32)) (c := 9) hi7 (by decide) ei8 rfl
  have kq8 : k8 q = 17 := by rw [hk8, if_neg (by omega)]; exact hK
  obtain rfl : z8 = q + 10 := by omega
  refine ⟨kq8, fun r8 er8 k9 ek9 n9 en9 i9 ei9 z9 ez9 => ?_⟩
  have hr8 := rStep (c := 12) hr7 (by decide) er8
  have hk9 := upStep (c := 10) hk8 (by decide) ek9 rfl
  have hn9 := upStep (c := 10) hn8 (by decide) en9 rfl
  have hi9 := upStep (F := fun _ _ => (0 : Int32)) (c := 10) hi8 (by decide) ei9 rfl
  have kq9 : k9 q = 17 := by rw [hk9, if_neg (by omega)]; exact hK
  obtain rfl : z9 = q + 11 := by omega
  refine ⟨kq9, fun r9 er9 k10 ek10 n10 en10 i10 ei10 z10 ez10 => ?_⟩
  have hr9 := rStep (c := 13) hr8 (by decide) er9
  have hk10 := upStep (c := 11) hk9 (by decide) ek10 rfl
  have hn10 := upStep (c := 11) hn9 (by decide) en10 rfl
  have hi10 := upStep (F := fun _ _ => (0 : Int32)) (c := 11) hi9 (by decide) ei10 rfl
  have kq10 : k10 q = 17 := by rw [hk10, if_neg (by omega)]; exact hK
  obtain rfl : z10 = q + 12 := by omega
  refine ⟨kq10, fun r10 er10 k11 ek11 n11 en11 i11 ei11 z11 ez11 => ?_⟩
  have hr10 := rStep (c := 14) hr9 (by decide) er10
  have hk11 := upStep (c := 12) hk10 (by decide) ek11 rfl
  have hn11 := upStep (c := 12) hn10 (by decide) en11 rfl
  have hi11 := upStep (F := fun _ _ => (0 : Int32)) (c := 12) hi10 (by decide) ei11 rfl
  have kq11 : k11 q = 17 := by rw [hk11, if_neg (by omega)]; exact hK
  obtain rfl : z11 = q + 13 := by omega
  refine ⟨kq11, fun r11 er11 k12 ek12 n12 en12 i12 ei12 z12 ez12 => ?_⟩
  have hr11 := rStep (c := 15) hr10 (by decide) er11
  have hk12 := upStep (c := 13) hk11 (by decide) ek12 rfl
  have hn12 := upStep (c := 13) hn11 (by decide) en12 rfl
  have hi12 := upStep (F := fun _ _ => (0 : Int32)) (c := 13) hi11 (by decide) ei12 rfl
  have kq12 : k12 q = 17 := by rw [hk12, if_neg (by omega)]; exact hK
  obtain rfl : z12 = q + 14 := by omega
  refine ⟨kq12, fun r12 er12 k13 ek13 n13 en13 i13 ei13 z13 ez13 => ?_⟩
  have hr12 := rStep (c := 16) hr11 (by decide) er12
  have hk13 := upStep (c := 14) hk12 (by decide) ek13 rfl
  have hn13 := upStep (c := 14) hn12 (by decide) en13 rfl
  have hi13 := upStep (F := fun _ _ => (0 : Int32)) (c := 14) hi12 (by decide) ei13 rfl
  have kq13 : k13 q = 17 := by rw [hk13, if_neg (by omega)]; exact hK
  obtain rfl : z13 = q + 15 := by omega
  refine ⟨kq13, fun r13 er13 k14 ek14 n14 en14 i14 ei14 z14 ez14 => ?_⟩
  have hr13 := rStep (c := 17) hr12 (by decide) er13
  have hk14 := upStep (c := 15) hk13 (by decide) ek14 rfl
  have hn14 := upStep (c := 15) hn13 (by decide) en14 rfl
  have hi14 := upStep (F := fun _ _ => (0 : Int32)) (c := 15) hi13 (by decide) ei14 rfl
  have kq14 : k14 q = 17 := by rw [hk14, if_neg (by omega)]; exact hK
  obtain rfl : z14 = q + 16 := by omega
  refine ⟨kq14, fun r14 er14 k15 ek15 n15 en15 i15 ei15 z15 ez15 => ?_⟩
  have hr14 := rStep (c := 18) hr13 (by decide) er14
  have hk15 := upStep (c := 16) hk14 (by decide) ek15 rfl
  have hn15 := upStep (c := 16) hn14 (by decide) en15 rfl
  have hi15 := upStep (F := fun _ _ => (0 : Int32)) (c := 16) hi14 (by decide) ei15 rfl
  have kq15 : k15 q = 17 := by rw [hk15, if_neg (by omega)]; exact hK
  obtain rfl : z15 = q + 17 := by omega
  refine ⟨kq15, fun r15 er15 k16 ek16 n16 en16 i16 ei16 z16 ez16 => ?_⟩
  have hr15 := rStep (c := 19) hr14 (by decide) er15
  have hk16 := upStep (c := 17) hk15 (by decide) ek16 rfl
  have hn16 := upStep (c := 17) hn15 (by decide) en16 rfl
  have hi16 := upStep (F := fun _ _ => (0 : Int32)) (c := 17) hi15 (by decide) ei16 rfl
  have kq16 : k16 q = 17 := by rw [hk16, if_neg (by omega)]; exact hK
  obtain rfl : z16 = q + 18 := by omega
  refine ⟨kq16, fun r16 er16 k17 ek17 n17 en17 i17 ei17 z17 ez17 => ?_⟩
  have hr16 := rStep (c := 20) hr15 (by decide) er16
  have hk17 := upStep (c := 18) hk16 (by decide) ek17 rfl
  have hn17 := upStep (c := 18) hn16 (by decide) en17 rfl
  have hi17 := upStep (F := fun _ _ => (0 : Int32)) (c := 18) hi16 (by decide) ei17 rfl
  have kq17 : k17 q = 17 := by rw [hk17, if_neg (by omega)]; exact hK
  obtain rfl : z17 = q + 19 := by omega
  refine ⟨kq17, fun r17 er17 k18 ek18 n18 en18 i18 ei18 z18 ez18 => ?_⟩
  have hr17 := rStep (c := 21) hr16 (by decide) er17
  have hk18 := upStep (c := 19) hk17 (by decide) ek18 rfl
  have hn18 := upStep (c := 19) hn17 (by decide) en18 rfl
  have hi18 := upStep (F := fun _ _ => (0 : Int32)) (c := 19) hi17 (by decide) ei18 rfl
  have kq18 : k18 q = 17 := by rw [hk18, if_neg (by omega)]; exact hK
  obtain rfl : z18 = q + 20 := by omega
  refine ⟨kq18, fun r18 er18 k19 ek19 n19 en19 i19 ei19 z19 ez19 => ?_⟩
  have hr18 := rStep (c := 22) hr17 (by decide) er18
  have hk19 := upStep (c := 20) hk18 (by decide) ek19 rfl
  have hn19 := upStep (c := 20) hn18 (by decide) en19 rfl
  have hi19 := upStep (F := fun _ _ => (0 : Int32)) (c := 20) hi18 (by decide) ei19 rfl
  have kq19 : k19 q = 17 := by rw [hk19, if_neg (by omega)]; exact hK
  obtain rfl : z19 = q + 21 := by omega
  refine ⟨kq19, fun r19 er19 k20 ek20 n20 en20 i20 ei20 z20 ez20 => ?_⟩
  have hr19 := rStep (c := 23) hr18 (by decide) er19
  have hk20 := upStep (c := 21) hk19 (by decide) ek20 rfl
  have hn20 := upStep (c := 21) hn19 (by decide) en20 rfl
  have hi20 := upStep (F := fun _ _ => (0 : Int32)) (c := 21) hi19 (by decide) ei20 rfl
  have kq20 : k20 q = 17 := by rw [hk20, if_neg (by omega)]; exact hK
  obtain rfl : z20 = q + 22 := by omega
  refine ⟨kq20, fun r20 er20 k21 ek21 n21 en21 i21 ei21 z21 ez21 => ?_⟩
  have hr20 := rStep (c := 24) hr19 (by decide) er20
  have hk21 := upStep (c := 22) hk20 (by decide) ek21 rfl
  have hn21 := upStep (c := 22) hn20 (by decide) en21 rfl
  have hi21 := upStep (F := fun _ _ => (0 : Int32)) (c := 22) hi20 (by decide) ei21 rfl
  have kq21 : k21 q = 17 := by rw [hk21, if_neg (by omega)]; exact hK
  obtain rfl : z21 = q + 23 := by omega
  refine ⟨kq21, fun r21 er21 k22 ek22 n22 en22 i22 ei22 z22 ez22 => ?_⟩
  have hr21 := rStep (c := 25) hr20 (by decide) er21
  have hk22 := upStep (c := 23) hk21 (by decide) ek22 rfl
  have hn22 := upStep (c := 23) hn21 (by decide) en22 rfl
  have hi22 := upStep (F := fun _ _ => (0 : Int32)) (c := 23) hi21 (by decide) ei22 rfl
  have kq22 : k22 q = 17 := by rw [hk22, if_neg (by omega)]; exact hK
  obtain rfl : z22 = q + 24 := by omega
  refine ⟨kq22, fun r22 er22 k23 ek23 n23 en23 i23 ei23 z23 ez23 => ?_⟩
  have hr22 := rStep (c := 26) hr21 (by decide) er22
  have hk23 := upStep (c := 24) hk22 (by decide) ek23 rfl
  have hn23 := upStep (c := 24) hn22 (by decide) en23 rfl
  have hi23 := upStep (F := fun _ _ => (0 : Int32)) (c := 24) hi22 (by decide) ei23 rfl
  have kq23 : k23 q = 17 := by rw [hk23, if_neg (by omega)]; exact hK
  obtain rfl : z23 = q + 25 := by omega
  refine ⟨kq23, fun r23 er23 => ?_⟩
  refine ⟨⟨kq23, fun c h0 h1 => ⟨?_, by rw [hk23, if_pos (by omega), Nat.add_sub_cancel_left], by rw [hn23, if_pos (by omega), Nat.add_sub_cancel_left]⟩⟩, fun a h0 h1 => ?_, rfl, fun a ha => ⟨?_, ?_, ?_, ?_⟩⟩
  · unfold fdF
    rw [er23, u2_eq]
    by_cases hc : c = 24
    · subst hc; simp
    · rw [if_neg hc, if_neg (by omega), hr22, if_pos (by omega)]; congr 1
  · rw [hi23]
    by_cases hq : q < a ∧ a < q + 25
    · rw [if_pos hq]
    · rw [if_neg hq, show a = q by omega]; exact hI
  · rw [hk23, if_neg (by omega)]
  · rw [hn23, if_neg (by omega)]
  · rw [hi23, if_neg (by omega)]
  · rw [er23, u2_ne _ _ (by omega), er22, u2_ne _ _ (by omega), er21, u2_ne _ _ (by omega), er20, u2_ne _ _ (by omega), er19, u2_ne _ _ (by omega), er18, u2_ne _ _ (by omega), er17, u2_ne _ _ (by omega), er16, u2_ne _ _ (by omega), er15, u2_ne _ _ (by omega), er14, u2_ne _ _ (by omega), er13, u2_ne _ _ (by omega), er12, u2_ne _ _ (by omega), er11, u2_ne _ _ (by omega), er10, u2_ne _ _ (by omega), er9, u2_ne _ _ (by omega), er8, u2_ne _ _ (by omega), er7, u2_ne _ _ (by omega), er6, u2_ne _ _ (by omega), er5, u2_ne _ _ (by omega), er4, u2_ne _ _ (by omega), er3, u2_ne _ _ (by omega), er2, u2_ne _ _ (by omega), er1, u2_ne _ _ (by omega), er0, u2_ne _ _ (by omega)]

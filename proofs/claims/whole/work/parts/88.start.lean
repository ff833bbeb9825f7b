/-! the start: what is known of the classes; the first state -/
theorem iaJ : ∀ w ∈ u_ws RJx00060 TJx00060 6, w ∈ lw_tbl := by decide +kernel
theorem ibJ : ∀ w ∈ u_ws RJx00060 TJx00060 6, goodWord w = true := by decide +kernel
theorem igJ : ∀ w ∈ u_ws RJx00060 TJx00060 6, w ∈ gw := fun w h => gw_of (iaJ w h) (ibJ w h)
theorem inJ : Cond.instantiable RJx00060 6 ∈ gw := gw_of (w := Cond.instantiable RJx00060 6) (by decide +kernel) (by decide +kernel)
theorem inX0 : Cond.instantiable RX0 4 ∈ gw := gw_of (w := Cond.instantiable RX0 4) (by decide +kernel) (by decide +kernel)
theorem inX1 : Cond.instantiable RX1 7 ∈ gw := gw_of (w := Cond.instantiable RX1 7) (by decide +kernel) (by decide +kernel)
theorem inX2 : Cond.instantiable RX2 6 ∈ gw := gw_of (w := Cond.instantiable RX2 6) (by decide +kernel) (by decide +kernel)
theorem inX3 : Cond.instantiable RX3 5 ∈ gw := gw_of (w := Cond.instantiable RX3 5) (by decide +kernel) (by decide +kernel)
theorem inX4 : Cond.instantiable RX4 2 ∈ gw := gw_of (w := Cond.instantiable RX4 2) (by decide +kernel) (by decide +kernel)
theorem inX5 : Cond.instantiable RX5 13 ∈ gw := gw_of (w := Cond.instantiable RX5 13) (by decide +kernel) (by decide +kernel)
theorem inX6 : Cond.instantiable RX6 34 ∈ gw := gw_of (w := Cond.instantiable RX6 34) (by decide +kernel) (by decide +kernel)
theorem acI : Cond.arrayClass .int ∈ gw := gw_of (w := Cond.arrayClass .int) (by decide +kernel) (by decide +kernel)
theorem acZ : Cond.arrayClass .boolean ∈ gw := gw_of (w := Cond.arrayClass .boolean) (by decide +kernel) (by decide +kernel)
theorem acL : Cond.arrayClass .long ∈ gw := gw_of (w := Cond.arrayClass .long) (by decide +kernel) (by decide +kernel)
theorem aoIn : Cond.arrayOver (.object RX0) ∈ lw_tbl ∧ Cond.arrayOver (.object RX2) ∈ lw_tbl ∧ Cond.arrayOver (.object RX3) ∈ lw_tbl := by decide +kernel
theorem nwIn : ∀ w ∈ nws, w ∈ lw_tbl ∧ w.onTables = true := by decide +kernel
theorem arr_of {s : State} {args : Array Value} {ty : FieldType} (h : (Cond.arrayClass ty).before args s = true) : ∃ cA : ClassId, ArrOfT s cA ty ∧ s.vm.findClass ("[" ++ ty.toString) = some cA := by
  obtain ⟨c, k, comp, h1, h2, h3⟩ := Cond.arrayClass_spec h
  exact ⟨c, fun n z => ⟨fun k h => (by cases h), k, h2, comp, h3⟩, h1⟩
theorem arr_ov {s : State} {C : String} (h : va_AO C s) : ∃ cA : ClassId, ArrOfT s cA (.object C) ∧ va_RA s cA (.object C) := by
  obtain ⟨comp, c, k, h1, h2, h3, h4, h5⟩ := Cond.arrayOver_spec h
  exact ⟨c, fun n z => ⟨fun k h => (by cases h), k, h3, comp, h4⟩, k, comp, h3, h4, h1, h5⟩
theorem known {s : State} {args : Array Value} (hts : ∀ w ∈ gw, w.before args s = true) (hN : NW s) : ∃ G : Gx, va_K G.1 vwCl (tysG G) s := by
  obtain ⟨c0, i0, k0⟩ := u_known (C := RJx00060) (T := TJx00060) (N := 6) (n := 6) hts igJ (hts _ inJ)
  obtain ⟨c1, i1, k1⟩ := u_known (C := RX0) (T := TX0) (N := 4) (n := 4) hts igX0 (hts _ inX0)
  obtain ⟨c2, i2, k2⟩ := u_known (C := RX1) (T := TX1) (N := 7) (n := 7) hts igX1 (hts _ inX1)
  obtain ⟨c3, i3, k3⟩ := u_known (C := RX2) (T := TX2) (N := 6) (n := 6) hts igX2 (hts _ inX2)
  obtain ⟨c4, i4, k4⟩ := u_known (C := RX3) (T := TX3) (N := 5) (n := 5) hts igX3 (hts _ inX3)
  obtain ⟨c5, i5, k5⟩ := u_known (C := RX4) (T := TX4) (N := 2) (n := 2) hts igX4 (hts _ inX4)
  obtain ⟨c6, i6, k6⟩ := u_known (C := RX5) (T := TX5) (N := 13) (n := 13) hts igX5 (hts _ inX5)
  obtain ⟨c7, i7, k7⟩ := u_known (C := RX6) (T := TX6) (N := 34) (n := 34) hts igX6 (hts _ inX6)
  obtain ⟨a0, p0, q0⟩ := arr_of (hts _ acI)
  obtain ⟨a1, p1, q1⟩ := arr_of (hts _ acZ)
  obtain ⟨a2, p2, q2⟩ := arr_of (hts _ acL)
  obtain ⟨a3, p3, q3⟩ := arr_ov hN.2.1
  obtain ⟨a4, p4, q4⟩ := arr_ov hN.2.2.1
  obtain ⟨a5, p5, q5⟩ := arr_ov hN.2.2.2
  refine ⟨((fun k => if k = 0 then c0 else if k = 1 then c1 else if k = 2 then c2 else if k = 3 then c3 else if k = 4 then c4 else if k = 5 then c5 else if k = 6 then c6 else c7, fun k => if k = 0 then i0 else if k = 1 then i1 else if k = 2 then i2 else if k = 3 then i3 else if k = 4 then i4 else if k = 5 then i5 else if k = 6 then i6 else i7), fun k => if k = 0 then a0 else if k = 1 then a1 else if k = 2 then a2 else if k = 3 then a3 else if k = 4 then a4 else a5), ?_, ?_⟩
  · intro k q hq
    match k, hq with
    | 0, hq => cases hq; exact k0
    | 1, hq => cases hq; exact k1
    | 2, hq => cases hq; exact k2
    | 3, hq => cases hq; exact k3
    | 4, hq => cases hq; exact k4
    | 5, hq => cases hq; exact k5
    | 6, hq => cases hq; exact k6
    | 7, hq => cases hq; exact k7
    | k + 8, hq => simp [vwCl] at hq
  · intro k q hq
    match k, hq with
    | 0, hq => cases hq; exact ⟨p0, q0⟩
    | 1, hq => cases hq; exact ⟨p1, q1⟩
    | 2, hq => cases hq; exact ⟨p2, q2⟩
    | 3, hq => cases hq; exact ⟨p3, q3⟩
    | 4, hq => cases hq; exact ⟨p4, q4⟩
    | 5, hq => cases hq; exact ⟨p5, q5⟩
    | k + 6, hq => simp [tysG] at hq
theorem TW.of {s : State} {a0 : Array Value} (h : ∀ w ∈ oA, w.before a0 s = true) : TW s := fun w hw a => by
  have hW := State.WarmedH.refl s
  have hk : keepSt s s := fun _ _ h _ => h
  rcases oA_split w hw with q | q | q | q | q | q
  · exact face_mv hW q (h w hw)
  · exact cast_mv hW q (h w hw)
  · subst q; exact ls_mv hW hk (h _ hw)
  · subst q; exact ls_mv hW hk (h _ hw)
  · subst q; exact rs_mv hW hk (h _ tS_in.1) (h _ hw)
  · subst q; exact rs_mv hW hk (h _ tS_in.2.1) (h _ hw)
theorem inv0 {K N K1 N1 : TK} {I I1 : TI} {R R1 : TR} {o : Nat} (h : New0 K1 N1 I1 R1 o) (hlow : ∀ a, o ≤ a → a < o + 29 → K a = K1 a ∧ N a = N1 a ∧ I a = I1 a ∧ R a = R1 a) (hF : RefF K N R (o + 29)) (hz : ∀ a, o + 29 ≤ a → a < o + 54 → I a = fun _ => 0) (hw1 : K (o + 54) = 22) (hw2 : N (o + 54) = 1) : Inv K N I R (o + 55) o D0 [] [] 0 0 := by
  obtain ⟨n1, n2, n3, n4, n5, n6⟩ := h
  have hI : ∀ a, o ≤ a → a < o + 29 → I a = I1 a := fun a q1 q2 => (hlow a q1 q2).2.2.1
  have io : I o = va_up (fun _ => 0) 3 1 := (hI o (by omega) (by omega)).trans n2
  have i3 : I o 3 = 1 := by rw [io, va_up_self]
  have ik : ∀ k, k ≠ 3 → I o k = 0 := fun k hk => by rw [io, va_up_ne _ _ hk]
  refine ⟨fun _ => o + 20, fun _ => 0, fun _ => 0, ⟨?_, ?_, ?_, ?_, ?_, ?_⟩, ⟨?_, ik 10 (by decide), by simp, ListAt.nil, ik 11 (by decide), ik 12 (by decide)⟩, hF, ⟨?_, ?_, ?_, ?_, ?_⟩, ?_, wf0, hw1, hw2⟩
  · exact n1.mv (fun a q1 q2 => ⟨(hlow a q1 (by omega)).1, (hlow a q1 (by omega)).2.1⟩) (hlow o (by omega) (by omega)).2.2.2 (fun a q1 q2 => (hlow a (by omega) (by omega)).2.2.2)
  · exact ⟨i3, ik 4 (by decide), ik 5 (by decide), by simp [D0], by simp [D0], by simp [D0]⟩
  · intro t ht
    have ht0 : t = 0 := by simp [D0] at ht; exact ht
    subst ht0
    refine ⟨by rw [(hlow (o + 1) (by omega) (by omega)).2.2.2]; exact n3, n4.mv (fun k hk => ⟨(hlow _ (by omega) (by omega)).1, (hlow _ (by omega) (by omega)).2.1, (hlow _ (by omega) (by omega)).2.2.2⟩), ?_⟩
    exact n5.off (hI _ (by omega) (by omega)) (hI _ (by omega) (by omega))
  · intro s st hs; cases hs
  · intro p ph hp; cases hp
  · refine ⟨⟨rfl, Nat.le_refl _⟩, fun t h1 h2 => absurd h2 (by simp [D0]; omega), fun s h1 => absurd h1 (by simp [D0]), fun p h1 => absurd h1 (by simp [D0]), fun t t' h1 h2 => absurd h2 (by simp [D0]; omega), fun s s' h1 h2 => absurd h2 (by simp [D0]), fun p p' h1 h2 => absurd h2 (by simp [D0]), fun t s h1 h2 => absurd h2 (by simp [D0]), fun t p h1 h2 => absurd h2 (by simp [D0]), fun s p h1 h2 => absurd h1 (by simp [D0])⟩
  · exact n6.off (fun a q1 q2 => hI a (by omega) (by omega))
  · have hq := hz (o + 29) (by omega) (by omega)
    exact ⟨by rw [hq]; rfl, by rw [hq]; rfl, by rw [hq]; rfl, by simp [D0], by simp [D0], by simp [D0]⟩
  · intro j x hx; cases hx
  · intro t ht
    exact ⟨by rw [hz (o + 29 + 2) (by omega) (by omega)]; rfl, by simp [D0], fun j x hx => by cases hx⟩
  · refine ⟨fun s st hs => (by cases hs), fun s hs => ⟨by rw [hz (o + 29 + 5) (by omega) (by omega)]; rfl, by simp [phS, D0], fun j p hp => by simp [phS, D0] at hp⟩, by rw [hz (o + 29 + 5) (by omega) (by omega)]⟩
  · refine ⟨fun p ph hp => (by cases hp), fun p hp => ⟨by rw [hz (o + 29 + 11) (by omega) (by omega)]; rfl, by simp [toS, D0], fun j x hx => by simp [toS, D0] at hx⟩⟩
  · have hq := hz (o + 29) (by omega) (by omega)
    exact ⟨by rw [hq]; rfl, by simp, fun j x hx => (by cases hx), by rw [hq]; rfl, by simp, ListAt.nil, by rw [hq], by rw [hq]⟩

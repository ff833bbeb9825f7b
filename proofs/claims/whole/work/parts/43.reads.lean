/-! place, ring, count of the class -/
def itF (x : It) (w : Int32) : Int32 := if w = 0 then x.2.1 else if w = 1 then x.2.2.1 else if w = 2 then x.2.2.2.1 else if w = 3 then x.2.2.2.2.2 else if w = 4 then x.2.2.2.2.1 else -1
def rAt (res : List It) (i : Int32) : Option It := if hasB res.length i then res[i.toNatClampNeg]? else none
def fPlace (res : List It) (i w : Int32) : Int32 := match rAt res i with
  | none => -1
  | some x => itF x w
def fRing (ring : List Int32) (i : Int32) : Int32 := if hasB ring.length i then ring.getD i.toNatClampNeg 0 else -1
def fCount (D : Dt) (cp mt w : Int32) : Int32 := if w = 0 then nI D.1.length else if w = 1 then nI D.2.2.1.length else if w = 2 then nI D.2.2.2.length else if w = 3 then cp else if w = 4 then mt else -1
theorem out4 {w : Int32} (h : w.toInt < 0 ∨ 4 < w.toInt) : ¬ w = 0 ∧ ¬ w = 1 ∧ ¬ w = 2 ∧ ¬ w = 3 ∧ ¬ w = 4 := by
  refine ⟨fun z => ?_, fun z => ?_, fun z => ?_, fun z => ?_, fun z => ?_⟩ <;> subst z <;> revert h <;> decide
section READS
variable {l : Launch} {G : Gx} {d : Nat} {K N : TK} {I : TI} {R : TR} {L : TL} {sz : Nat} {o : Nat} {tx sa pa : Nat → Nat} {D : Dt} {res : List It} {ring : List Int32} {cp mt : Int32}
theorem tX5_place {i w : Int32} (hF : ClsF K N R o) (hr : ClsRun I o res ring cp mt) : MtI l G yX5_place cX5_place 3 (some .int) (d + 1) [.ref o, .int i, .int w] K N I R L sz (fun v I' => v = fPlace res i w ∧ I' = I) := by
  have hP : rowP K N R (o + 12) := hF.2.2.2.2.2.2.1.2
  have h3 := hr.1.2.1
  refine sX5_place ⟨hF.1, o + 12, hF.2.2.2.2.2.2.1.1, hP.1, _, tX1_has hP.1 hr.1.1, fun v I' hv => ?_⟩
  obtain ⟨rfl, rfl⟩ := hv
  refine ⟨fun q => ?_, fun q => ⟨?_, rfl⟩⟩
  · rw [b2i_ne0] at q
    obtain ⟨j, hj, rfl⟩ := hasB_spec (by omega) q
    have hj31 : j < 2 ^ 31 := by omega
    obtain ⟨x, hx⟩ : ∃ x, res[j]? = some x := ⟨_, List.getElem?_eq_getElem hj⟩
    have hA : rAt res (nI j) = some x := by unfold rAt; rw [if_pos q, nI_clamp hj31]; exact hx
    have hf : fPlace res (nI j) w = itF x w := by unfold fPlace; rw [hA]
    obtain ⟨⟨y1, y2, y3, y4, y5, y6⟩, yz⟩ := hr.1.2.2 j x hx
    have hin : vp_in (nI j) 300 := vp_in_nI (by omega) (by decide)
    obtain ⟨hK, ⟨p1, p2, p3⟩, ⟨p4, p5, p6⟩, ⟨p7, p8, p9⟩, ⟨q1, q2, q3⟩, ⟨q4, q5, q6⟩, ⟨q7, q8, q9⟩⟩ := hP
    rw [hf, nI_clamp hj31]
    refine ⟨fun z => ⟨?_, rfl⟩, fun z => ⟨_, p4, p5, by rw [p6]; exact hin, ?_, rfl⟩, fun z => ⟨_, p7, p8, by rw [p9]; exact hin, ?_, rfl⟩, fun z => ⟨_, q1, q2, by rw [q3]; exact hin, ?_, rfl⟩, fun z => ⟨_, q7, q8, by rw [q9]; exact hin, ?_⟩, fun z => ⟨_, q4, q5, by rw [q6]; exact hin, ?_, rfl⟩⟩
    · obtain ⟨z0, z1, z2, z3, z4⟩ := out4 z
      simp [itF, z0, z1, z2, z3, z4]
    · rw [y2, z]; rfl
    · rw [y3, z]; rfl
    · rw [y4, z]; rfl
    · rw [y6, z]
      rcases yz with yz | yz
      · exact ⟨fun _ => ⟨by rw [show itF x 3 = x.2.2.2.2.2 from rfl, yz], rfl⟩, fun z => absurd yz z⟩
      · exact ⟨fun z => absurd z (by rw [yz]; decide), fun _ => ⟨by rw [show itF x 3 = x.2.2.2.2.2 from rfl, yz], rfl⟩⟩
    · rw [y5, z]; rfl
  · rw [b2i_eq0] at q
    simp [fPlace, rAt, q]
theorem tX5_ring {i : Int32} (hF : ClsF K N R o) (hr : ClsRun I o res ring cp mt) : MtI l G yX5_ring cX5_ring 2 (some .int) d [.ref o, .int i] K N I R L sz (fun v I' => v = fRing ring i ∧ I' = I) := by
  obtain ⟨-, h1, h2, h3, -, -⟩ := hr
  refine sX5_ring ⟨fun q => ⟨?_, rfl⟩, fun q => ⟨hF.1, fun q2 => ⟨?_, rfl⟩, fun q2 => ⟨o + 19, hF.2.2.2.2.2.2.2.1, hF.2.2.2.2.2.2.2.2.1, fun q3 => ⟨?_, rfl⟩, fun q3 => ?_⟩⟩⟩
  · simp [fRing, hasB, q]
  · rw [h1] at q2; simp [fRing, hasB, q2]
  · exfalso
    obtain ⟨j, hj, rfl⟩ := nI_of q
    rw [h1, nI_leI (by omega) hj] at q2
    rw [hF.2.2.2.2.2.2.2.2.2, nI_leI (by decide) hj] at q3
    omega
  · obtain ⟨j, hj, rfl⟩ := nI_of q
    rw [h1, nI_leI (by omega) hj] at q2
    have hj2 : j < ring.length := by omega
    refine ⟨by rw [hF.2.2.2.2.2.2.2.2.2]; exact vp_in_nI (by omega) (by decide), ?_, rfl⟩
    rw [nI_clamp hj]
    have hb : hasB ring.length (nI j) = true := by rw [hasB_nI hj (by omega)]; simp [hj2]
    rw [fRing, if_pos hb, nI_clamp hj, h3 j _ (List.getElem?_eq_getElem hj2)]
    simp [List.getD_eq_getElem?_getD, List.getElem?_eq_getElem hj2]
theorem tX5_count {w : Int32} (hF : ClsF K N R o) (hC : ClsC I o D) (hr : ClsRun I o res ring cp mt) : MtI l G yX5_count cX5_count 2 (some .int) d [.ref o, .int w] K N I R L sz (fun v I' => v = fCount D cp mt w ∧ I' = I) := by
  obtain ⟨-, -, -, -, h4, h5⟩ := hr
  refine sX5_count ⟨fun q => ⟨?_, rfl⟩, fun q => ⟨hF.1, ?_, rfl⟩, fun q => ⟨hF.1, ?_, rfl⟩, fun q => ⟨hF.1, ?_, rfl⟩, fun q => ⟨hF.1, ?_, rfl⟩, fun q => ⟨hF.1, ?_, rfl⟩⟩
  · obtain ⟨z0, z1, z2, z3, z4⟩ := out4 q
    simp [fCount, z0, z1, z2, z3, z4]
  · rw [hC.1, nI_pred, q]; rfl
  · rw [hC.2.1, q]; rfl
  · rw [hC.2.2.1, q]; rfl
  · rw [h4, q]; rfl
  · rw [h5, q]; rfl
end READS

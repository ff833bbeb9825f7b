/-! the class: rows made of texts -/
def AftT (o : Nat) (tx : Nat → Nat) (nt : Nat) (op : List Nat) (n0 : Nat) (r : ResT) (I : TI) (R : TR) (v : Int32) (I' : TI) (R' : TR) : Prop := v = r.1 ∧ offT I I' o tx nt op ∧ offO R R' o n0 ∧ I' o 11 = r.2.2.1 ∧ I' o 12 = r.2.2.2.1 ∧ RingAt I' o r.2.2.2.2
def rowT (tx : Nat → Nat) (t dep : Nat) (q : Bool) (r : ResT) (I' : TI) : Prop := r.1 = 0 → RowIs I' (tx t + 1) (r.2.1.map (lf dep q))
section MAKE
variable {p : Program} {l : Launch} {e : Env} {s : State} {m : MethodId} {args : Array Value} {below : List Frame} {meth : Method} {c : Code} {G : Gx} {d : Nat} {K N : TK} {I : TI} {R : TR} {L : TL} {sz : Nat} {φ : Int32 → TI → TR → Prop} {o : Nat} {tx sa pa : Nat → Nat} {D : Dt}
def HAdd (l : Launch) (G : Gx) (K N : TK) (L : TL) (sz o : Nat) (tx sa pa : Nat → Nat) (D : Dt) (n : Nat) : Prop := ∀ (dd : Nat) (op : List Nat) (t s : Nat) (st : Stt) (q : Bool) (out : List It) (I : TI) (R : TR), 2 * n + 5 ≤ dd → n + op.length = 13 → (op ++ [t]).Nodup → (∀ u ∈ op ++ [t], u ≤ D.1.length) → ClsRep K N I R o sz tx sa pa D → openAt R o tx (op ++ [t]) → RingAt I o [] → D.2.2.1[s]? = some st → st.1 = true → RowIs I (tx t + 1) (out.map (lf op.length q)) → MtJ l G yX5_addCopy cX5_addCopy 7 (some .int) dd [.ref o, .ref (tx t + 1), .ref (sa s), .int (nI op.length), .int (b2i q)] K N I R L sz (fun v I' R' => AftT o tx D.1.length op (op.length + 1) (addR out (cpS D n (op ++ [t]) s (I o 11) (I o 12))) I R v I' R' ∧ rowT tx t op.length q (addR out (cpS D n (op ++ [t]) s (I o 11) (I o 12))) I')
def HMak (l : Launch) (G : Gx) (K N : TK) (L : TL) (sz o : Nat) (tx sa pa : Nat → Nat) (D : Dt) (n : Nat) : Prop := ∀ (dd : Nat) (op : List Nat) (t : Nat) (q : Bool) (I : TI) (R : TR), 2 * n + 6 ≤ dd → n + op.length = 13 → (op ++ [t]).Nodup → (∀ u ∈ op ++ [t], u ≤ D.1.length) → ClsRep K N I R o sz tx sa pa D → openAt R o tx op → RingAt I o [] → MtJ l G yX5_makeRow cX5_makeRow 8 (some .int) dd [.ref o, .ref (tx t), .int (nI op.length), .int (b2i q)] K N I R L sz (fun v I' R' => AftT o tx D.1.length op op.length (entS (cpS D n (op ++ [t])) t 0 (D.2.1 t) [] (I o 11) (I o 12)) I R v I' R' ∧ rowT tx t op.length q (entS (cpS D n (op ++ [t])) t 0 (D.2.1 t) [] (I o 11) (I o 12)) I')
theorem b2i_z01 (q : Bool) : z01 (b2i q) := b2i_01 q
theorem make_loop {R0 : TR} (C : Cx p s m args meth c (AM K sz) G RX5 cX5_makeRow 8) (hr : meth.sig.returnType = (some .int)) {dd n : Nat} {op : List Nat} {t : Nat} {q : Bool} (hA : HAdd l G K N L sz o tx sa pa D n) (hwf : WfD D) (hdd : 2 * n + 5 ≤ dd + 5) (hno : n + op.length = 13) (hnd : (op ++ [t]).Nodup) (hop : ∀ u ∈ op ++ [t], u ≤ D.1.length) :
    ∀ (es : List Int32) (i : Nat) (out : List It) (I : TI) (R : TR), (D.2.1 t).drop i = es → i ≤ (D.2.1 t).length → ClsRep K N I R o sz tx sa pa D → openAt R o tx (op ++ [t]) → RingAt I o [] → RowIs I (tx t + 1) (out.map (lf op.length q)) → (∀ v I' R', AftT o tx D.1.length op (op.length + 1) (entS (cpS D n (op ++ [t])) t i es out (I o 11) (I o 12)) I R v I' R' → rowT tx t op.length q (entS (cpS D n (op ++ [t])) t i es out (I o 11) (I o 12)) I' → φ v I' R') → WJ p l e s m args below meth c G (dd + 6) φ K N R0 L sz 8 33 [(0, .ref o), (1, .ref (tx t)), (2, .int (nI op.length)), (3, .int (b2i q)), (4, .int (nI i))] I R
  | [], i, out, I, R, hes, hi, h, ho, hg, hw, hφ => by
    have ht : t ≤ D.1.length := hop t (by simp)
    obtain ⟨b1, b2, b3⟩ := h.2.2.1 t ht
    have h200 := b3.2.2.2.1
    rw [List.length_map] at h200
    have hil : (D.2.1 t).length ≤ i := by simpa using hes
    refine vX5_makeRow_33 (d := dd + 5) C hr ⟨b2.1, fun _ => hφ 0 I R ⟨rfl, offT.rf, offO.rf, rfl, rfl, hg⟩ (fun _ => hw), fun z => absurd (by rw [b3.2.2.1, List.length_map]; exact nI_le hil (by omega)) z⟩
  | e' :: es, i, out, I, R, hes, hi, h, ho, hg, hw, hφ => by
    have ht : t ≤ D.1.length := hop t (by simp)
    have hl60 := h.2.1.2.2.2.2.1
    obtain ⟨b1, b2, b3⟩ := h.2.2.1 t ht
    have h200 := b3.2.2.2.1
    rw [List.length_map] at h200
    have hil : i < (D.2.1 t).length := by
      apply Nat.lt_of_not_le; intro z
      rw [List.drop_eq_nil_of_le z] at hes; cases hes
    have hgt : (D.2.1 t)[i]? = some e' ∧ (D.2.1 t).drop (i + 1) = es := by
      have := List.drop_eq_getElem_cons hil
      rw [hes] at this
      injection this with h1 h2
      exact ⟨by rw [List.getElem?_eq_getElem hil, h1], h2.symm⟩
    have hok : okE D e' := hwf.1 t e' (List.mem_of_getElem? hgt.1)
    have hlo := (h.2.2.2.2.2.tx_lo ht).1
    have hnt : t ∉ op := fun z => by
      have := List.nodup_append.mp hnd
      exact this.2.2 t z t (by simp) rfl
    have h300 := hw.2.1
    rw [List.length_map] at h300
    refine vX5_makeRow_33 (d := dd + 5) C hr ⟨b2.1, fun z => absurd z (by rw [b3.2.2.1, List.length_map]; exact nI_ge hil (by omega)), fun _ => ⟨_, tX3_entry b2 b3.2.2 (j := i) (x := cv e') (by rw [List.getElem?_map, hgt.1]; rfl), fun r4 I5 h4 => ?_⟩⟩
    obtain ⟨rfl, h4⟩ := h4
    obtain rfl := h4.symm
    refine ⟨h.1.1, _, tX5_statementOf h.1 h.2.1 h.2.2.2.1, fun r14 I15 h14 => ?_⟩
    obtain ⟨h14a, h14⟩ := h14
    obtain rfl := h14.symm
    have hadd : cpOf e' = none → ∃ φ25 : Int32 → TI → Prop, MtI l G yX1_addEntry cX1_addEntry 6 (some .boolean) (dd + 5) [.ref (tx t + 1), .int (cv e'), .int (I (tx t) 0), .int (nI i), .int (nI op.length), .int (b2i q)] K N I R L sz φ25 ∧ ∀ (r27 : Int32) (I28 : TI), φ25 r27 I28 → ((r27 = 0 → φ (-3) I28 R) ∧ (¬ r27 = 0 → WJ p l e s m args below meth c G (dd + 6) φ K N R0 L sz 8 33 [(0, .ref o), (1, .ref (tx t)), (2, .int (nI op.length)), (3, .int (b2i q)), (4, .int (nI i + 1))] I28 R)) := fun hc => by
      rw [entS_none hc] at hφ
      refine ⟨_, tX1_addEntry b2.2.2.1 hw (b2i_z01 q), fun r27 I28 h27 => ?_⟩
      rw [List.length_map] at h27
      rcases h27 with ⟨hn, rfl, hI⟩ | ⟨hn, rfl, hI⟩
      · refine ⟨fun z => absurd z (by decide), fun _ => ?_⟩
        rw [if_pos hn] at hφ
        rw [b3.1, ← lf_own] at hI
        have hrow : offRow I I28 (tx t + 1) := by rw [hI]; exact addI_off
        have hoff : offT I I28 o tx D.1.length op := hrow.tt ht hnt hlo
        have hoo : I28 o = I o := hrow o (by omega)
        have hnew : RowIs I28 (tx t + 1) ((out ++ [ownIt e' t i]).map (lf op.length q)) := by
          have := addI_row (x := lf op.length q (ownIt e' t i)) hw (by rw [List.length_map]; exact hn) (by rw [lf_own]; exact b2i_z01 q)
          rw [List.length_map, ← hI] at this
          rw [List.map_append]; exact this
        rw [nI_1]
        refine make_loop C hr hA hwf hdd hno hnd hop es (i + 1) _ I28 R hgt.2 (by omega) (h.offT hoff) ho ⟨by rw [hoo]; exact hg.1, hg.2.1, ListAt.nil⟩ hnew (fun v I' R' h1 h2 => ?_)
        rw [hoo] at h1 h2
        exact hφ v I' R' ⟨h1.1, hoff.tr h1.2.1, h1.2.2⟩ h2
      · refine ⟨fun _ => ?_, fun z => absurd rfl z⟩
        rw [if_neg (by omega)] at hφ
        rw [hI]
        exact hφ (-3) I R ⟨rfl, offT.rf, offO.rf, rfl, rfl, hg⟩ (fun z => absurd z (show ¬ (-3 : Int32) = 0 by decide))
    rcases ent_cls hl60 (sa := sa) hok with ⟨hc, hv⟩ | ⟨s', st, hc, hv, hst, hcp⟩
    · rcases hv with hv | ⟨s', st, hv, hst, hcp⟩
      · rw [hv] at h14a
        refine ⟨fun _ => ⟨tx t + 1, b2.2.1, b2.2.2.1.1, hadd hc⟩, fun b21 z => (by rw [h14a] at z; cases z)⟩
      · rw [hv] at h14a
        refine ⟨fun z => (by rw [h14a] at z; cases z), fun b21 z => ?_⟩
        rw [h14a] at z
        have z := Option.some.inj z
        subst z
        obtain ⟨c1, c2, c3⟩ := h.2.2.2.1 s' st hst
        refine ⟨c2.1, fun _ => ⟨tx t + 1, b2.2.1, b2.2.2.1.1, hadd hc⟩, fun z => absurd (by rw [c3.2.1, hcp]; rfl) z⟩
    · rw [hv] at h14a
      refine ⟨fun z => (by rw [h14a] at z; cases z), fun b21 z => ?_⟩
      rw [h14a] at z
      have z := Option.some.inj z
      subst z
      obtain ⟨c1, c2, c3⟩ := h.2.2.2.1 s' st hst
      refine ⟨c2.1, fun z => absurd z (by rw [c3.2.1, hcp]; decide), fun _ => ⟨tx t + 1, b2.2.1, _, hA (dd + 5) op t s' st q out I R hdd hno hnd hop h ho hg hst hcp hw, fun r51 I52 R53 h51 => ?_⟩⟩
      obtain ⟨⟨g1, g2, g3, g4, g5, g6⟩, g7⟩ := h51
      have hring := cpS_ring (D := D) n (op ++ [t]) s' (I o 11) (I o 12)
      rw [entS_some hc hring] at hφ
      generalize hrr : addR out (cpS D n (op ++ [t]) s' (I o 11) (I o 12)) = rr at *
      subst g1
      refine ⟨fun z => ?_, fun z => ?_⟩
      · rw [if_pos z] at hφ
        have hrg : rr.2.2.2.2 = [] := by
          rw [← hrr] at z ⊢
          unfold addR at z ⊢
          split at z
          · rename_i z1
            rw [if_pos z1]
            split <;> exact hring z1
          · rename_i z1
            exact absurd z z1
        rw [hrg] at g6
        rw [nI_1]
        refine make_loop C hr hA hwf hdd hno hnd hop es (i + 1) rr.2.1 I52 R53 hgt.2 (by omega) ((h.offT g2).offO g3) (g3.opn ho (by simp)) g6 (g7 z) (fun v I' R' h1 h2 => ?_)
        rw [g4, g5] at h1 h2
        exact hφ v I' R' ⟨h1.1, g2.tr h1.2.1, g3.tr h1.2.2.1, h1.2.2.2⟩ h2
      · rw [if_neg z] at hφ
        exact hφ _ I52 R53 ⟨rfl, g2, g3, g4, g5, g6⟩ g7
theorem mak_of_add {n : Nat} (hwf : WfD D) (hA : HAdd l G K N L sz o tx sa pa D n) : HMak l G K N L sz o tx sa pa D n := by
  intro dd op t q I R hdd hno hnd hop h ho hg
  obtain ⟨dd, rfl⟩ : ∃ d', dd = d' + 6 := ⟨dd - 6, by omega⟩
  have ht : t ≤ D.1.length := hop t (by simp)
  obtain ⟨b1, b2, b3⟩ := h.2.2.1 t ht
  have hlo := (h.2.2.2.2.2.tx_lo ht).1
  have h12 := h.2.1.2.2.2.1
  have hnt : t ∉ op := fun z => by
    have := List.nodup_append.mp hnd
    exact this.2.2 t z t (by simp) rfl
  have hl13 : op.length + 1 ≤ 13 := by
    have := nd_le 13 (op ++ [t]) hnd (fun u hu => by have := hop u hu; omega)
    simpa using this
  have f5 := h.1.2.2.2.2.1
  refine sX5_makeRow (d := dd + 5) (fun p e s m args below meth c C hr => ⟨fun z => absurd z (nI_pos (by omega)), fun _ => ⟨h.1.1, o + 4, f5.1, f5.2.1, fun _ => ⟨by rw [f5.2.2]; exact vp_in_nI (by omega) (by decide), b2.1, fun R7 e7 => ?_⟩, fun z => absurd (by rw [f5.2.2]; exact (nI_ltI (by omega) (by decide)).mpr (by omega)) z⟩⟩)
  rw [nI_clamp (by omega)] at e7
  have hO : offO R R7 o op.length := ⟨fun a ha => by rw [e7]; exact u2_ne _ _ ha, fun j hj => by rw [e7]; exact u2_nk _ _ (by omega)⟩
  have hop7 : openAt R7 o tx (op ++ [t]) := fun j u hu => by
    by_cases hj : j < op.length
    · rw [List.getElem?_append_left hj] at hu
      rw [hO.2 j hj]; exact ho j u hu
    · rw [List.getElem?_append_right (by omega)] at hu
      have hj0 : j = op.length := by
        have := (List.getElem?_eq_some_iff.mp hu).1
        simp at this; omega
      subst hj0
      simp at hu
      subst hu
      rw [e7]; exact u2_self _ _ _ _
  have h7 := h.offO hO
  obtain ⟨c1, c2, c3⟩ := h7.2.2.1 t ht
  refine ⟨tx t + 1, c2.2.1, c2.2.2.1.1, _, tX1_clear c2.2.2.1, fun I14 h14 => ?_⟩
  have hoff : offT I I14 o tx D.1.length op := h14.2.tt ht hnt hlo
  have hoo : I14 o = I o := h14.2 o (by omega)
  refine make_loop C hr hA hwf (by omega) hno hnd hop (D.2.1 t) 0 [] I14 R7 (by rw [List.drop_zero]) (Nat.zero_le _) (h7.offT hoff) hop7 ⟨by rw [hoo]; exact hg.1, hg.2.1, ListAt.nil⟩ h14.1 (fun v I' R' h1 h2 => ?_)
  rw [hoo] at h1 h2
  exact ⟨⟨h1.1, hoff.tr h1.2.1, hO.tr (h1.2.2.1.mono (by omega)), h1.2.2.2⟩, h2⟩
end MAKE

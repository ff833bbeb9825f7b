/-! the class: how its rows stand to the spec's; rings -/
def lf (dep : Nat) (q : Bool) (x : It) : It := (cv x.1, x.2.1, x.2.2.1, x.2.2.2.1, x.2.2.2.2.1 + nI dep, if q then 1 else x.2.2.2.2.2)
theorem lf_LF {D : Dt} (hl : D.2.2.1.length ≤ 60) (dep : Nat) (q : Bool) : LF D (lf dep q) := ⟨fun x h => cv_ge h, fun x hx h => hx.cv hl h, fun x c p h => by
  unfold lf putIt
  simp only [cv_ge h]⟩
theorem lf_up (dep : Nat) (q hid : Bool) (x : It) : lf dep q (upIt hid x) = lf (dep + 1) (q || hid) x := by
  unfold lf upIt
  have : x.2.2.2.2.1 + 1 + nI dep = x.2.2.2.2.1 + nI (dep + 1) := by
    rw [Nat.add_comm dep 1, ← nI_add, Int32.add_assoc]; rfl
  simp only [this]
  cases q <;> cases hid <;> rfl
theorem lf_own (dep : Nat) (q : Bool) (e : Int32) (t i : Nat) : lf dep q (ownIt e t i) = (cv e, nI t, nI i, 0, nI dep, b2i q) := by
  unfold lf ownIt b2i
  simp only [Int32.zero_add]
theorem lf_okI {D : Dt} (hl : D.2.2.1.length ≤ 60) {dep : Nat} {q : Bool} {x : It} (h : okR D x) : okI (lf dep q x) := fun h0 => by
  unfold lf at h0 ⊢
  simp only at h0 ⊢
  by_cases h1 : x.1 < -1
  · exact absurd (h.cv hl h1) (pos_ge h0)
  · rw [cv_ge h1] at h0 ⊢
    exact h.wd hl h0
theorem nd_le : ∀ (n : Nat) (l : List Nat), l.Nodup → (∀ u ∈ l, u < n) → l.length ≤ n
  | 0, [], _, _ => Nat.le_refl _
  | 0, x :: l, _, h => absurd (h x List.mem_cons_self) (by omega)
  | n + 1, l, hd, h => by
    have h1 := nd_le n (l.erase n) (hd.erase n) (fun u hu => by
      have h2 := (List.Nodup.mem_erase_iff hd).mp hu
      have := h u h2.2
      omega)
    have h2 := List.le_length_erase (a := n) (l := l)
    omega
def RingAt (I : TI) (o : Nat) (ring : List Int32) : Prop := I o 10 = nI ring.length ∧ ring.length ≤ 13 ∧ ListAt (I (o + 19)) ring
def offG (I I' : TI) (o : Nat) : Prop := (∀ a, a ≠ o → a ≠ o + 19 → I' a = I a) ∧ ∀ k, k ≠ 10 → I' o k = I o k
theorem offG.rf {I : TI} {o : Nat} : offG I I o := ⟨fun _ _ _ => rfl, fun _ _ => rfl⟩
theorem offG.tr {I I' I'' : TI} {o : Nat} (h : offG I I' o) (h2 : offG I' I'' o) : offG I I'' o := ⟨fun a q1 q2 => (h2.1 a q1 q2).trans (h.1 a q1 q2), fun k hk => (h2.2 k hk).trans (h.2 k hk)⟩
/-- the open texts -/
def openAt (R : TR) (o : Nat) (tx : Nat → Nat) (op : List Nat) : Prop := ∀ (j u : Nat), op[j]? = some u → R (o + 4) j = some (tx u)
section RING
variable {p : Program} {l : Launch} {e : Env} {s : State} {m : MethodId} {args : Array Value} {below : List Frame} {meth : Method} {c : Code} {G : Gx} {d : Nat} {K N : TK} {I : TI} {R : TR} {L : TL} {sz : Nat} {φ : Int32 → TI → Prop} {o : Nat} {tx sa pa : Nat → Nat} {D : Dt}
theorem ClsRep.offG {I I' : TI} (h : ClsRep K N I R o sz tx sa pa D) (hm : offG I I' o) : ClsRep K N I' R o sz tx sa pa D := by
  obtain ⟨a1, a2, a3, a4, a5, a6⟩ := id h
  refine h.keepI (hm.2 _ (by decide)) (hm.2 _ (by decide)) (hm.2 _ (by decide)) (fun t ht => ?_) (fun s hs => ?_) (fun p hp k hk => ?_)
  · have := (a6.tx_lo ht).1
    exact ⟨hm.1 _ (by omega) (by omega), hm.1 _ (by omega) (by omega)⟩
  · have := a6.s_lo hs
    exact hm.1 _ (by omega) (by omega)
  · have := a6.p_lo hp
    exact hm.1 _ (by omega) (by omega)
theorem tX5_keepRingName {u : Nat} {ring : List Int32} (h : ClsRep K N I R o sz tx sa pa D) (hu : u ≤ D.1.length) (hg : RingAt I o ring) (hl : ring.length < 13) : MtV l G yX5_keepRingName cX5_keepRingName 2 none d [.ref o, .ref (tx u)] K N I R L sz (fun I' => offG I I' o ∧ RingAt I' o (ring ++ [nameOf D u])) := by
  obtain ⟨f1, f2, f3, f4, f5, f6, f7, f8, f9, f10⟩ := h.1
  obtain ⟨-, b2, b3⟩ := h.2.2.1 u hu
  refine sX5_keepRingName ⟨f1, o + 19, f8, f9, fun z => absurd z (by rw [f10, hg.1]; exact nI_ge hl (by decide)), fun _ => ⟨b2.1, by rw [f10, hg.1]; exact vp_in_nI hl (by decide), fun I7 e7 I8 e8 => ?_⟩⟩
  have h7 : I7 o 10 = nI ring.length := by rw [e7, u2_ne _ _ (by omega), hg.1]
  rw [h7, nI_1] at e8
  rw [hg.1, nI_clamp (by omega), b3.2.1] at e7
  refine ⟨⟨fun a q1 q2 => by rw [e8, u2_ne _ _ q1, e7, u2_ne _ _ q2], fun k hk => by rw [e8, u2_nk _ _ hk, e7, u2_ne _ _ (by omega)]⟩, by rw [e8, u2_self]; simp, by simp; omega, ?_⟩
  rw [e8, u2_ne _ _ (by omega), e7, u2_at]
  exact hg.2.2.push
def finR (D : Dt) (t : Nat) (acc : List Int32) (l : List Nat) : List Int32 := if acc = [] then (l.dropWhile (fun u => u != t)).map (nameOf D) else acc ++ l.map (nameOf D)
theorem closes_loop (C : Cx p s m args meth c (AM K sz) G RX5 cX5_closesRing 5) (hr : meth.sig.returnType = (some .boolean)) {t : Nat} {op : List Nat} (ht : t ≤ D.1.length) (hop : ∀ u ∈ op, u ≤ D.1.length) (ho : openAt R o tx op) (h13 : op.length ≤ 13) (h1 : 0 < op.length) :
    ∀ (k j : Nat) (acc : List Int32) (I : TI), k + j = op.length → acc.length ≤ j → ClsRep K N I R o sz tx sa pa D → RingAt I o acc → (∀ I', offG I I' o → RingAt I' o (finR D t acc (op.drop j)) → φ (b2i (decide (0 < (finR D t acc (op.drop j)).length))) I') → WI p l e s m args below meth c G (d + 1) φ K N R L sz 5 2 [(0, .ref o), (1, .ref (tx t)), (2, .int (nI (op.length - 1))), (3, .int (nI j))] I
  | 0, j, acc, I, hk, ha, h, hg, hφ => by
    have hj : j = op.length := by omega
    have hfin : finR D t acc (op.drop j) = acc := by
      rw [hj, List.drop_length]; unfold finR
      split
      · rename_i z; rw [z]; rfl
      · simp
    rw [hfin] at hφ
    have hv := hφ I offG.rf hg
    have hlt : nI (op.length - 1) < nI j := (nI_ltI (by omega) (by omega)).mpr (by omega)
    have hle : I o 10 ≤ 0 ↔ acc.length = 0 := by rw [hg.1]; exact nI_le0 (by have := hg.2.1; omega)
    refine vX5_closesRing_2 C hr ⟨fun _ => ⟨h.1.1, fun z => ?_, fun z => ?_⟩, fun z => absurd hlt z⟩
    · rw [hle] at z
      rw [b2i_f (by simp [z])] at hv; exact hv
    · rw [hle] at z
      rw [b2i_t (by simp; omega)] at hv; exact hv
  | k + 1, j, acc, I, hk, ha, h, hg, hφ => by
    have hj : j < op.length := by omega
    have hjm : op[j] ∈ op := List.getElem_mem hj
    have hju := hop _ hjm
    obtain ⟨f1, f2, f3, f4, f5, f6, f7, f8, f9, f10⟩ := h.1
    have hlt : ¬ nI (op.length - 1) < nI j := by rw [nI_ltI (by omega) (by omega)]; omega
    have hd := List.drop_eq_getElem_cons hj
    rw [hd] at hφ
    have hle : I o 10 ≤ 0 ↔ acc.length = 0 := by rw [hg.1]; exact nI_le0 (by have := hg.2.1; omega)
    have hpush : (acc = [] → op[j] = t) → ∀ I', offG I I' o → RingAt I' o (acc ++ [nameOf D op[j]]) → WI p l e s m args below meth c G (d + 1) φ K N R L sz 5 2 [(0, .ref o), (1, .ref (tx t)), (2, .int (nI (op.length - 1))), (3, .int (nI j + 1))] I' := fun hq I' hI hR => by
      rw [nI_1]
      refine closes_loop C hr ht hop ho h13 h1 k (j + 1) _ I' (by omega) (by simp; omega) (h.offG hI) hR (fun I2 hI2 => ?_)
      have hfin : finR D t (acc ++ [nameOf D op[j]]) (op.drop (j + 1)) = finR D t acc (op[j] :: op.drop (j + 1)) := by
        unfold finR
        rw [if_neg (by simp)]
        by_cases hac : acc = []
        · rw [if_pos hac, hac]
          have := hq hac
          simp [this]
        · rw [if_neg hac, List.map_cons, List.append_assoc]; rfl
      rw [hfin]
      exact hφ I2 (hI.tr hI2)
    refine vX5_closesRing_2 C hr ⟨fun z => absurd z hlt, fun _ => ⟨h.1.1, o + 4, f5.1, f5.2.1, fun z => absurd z (by rw [f5.2.2]; exact nI_ge (by omega) (by decide)), fun _ => ⟨by rw [f5.2.2]; exact vp_in_nI (by omega) (by decide), tx op[j], ?_, fun z => ⟨_, tX5_keepRingName h hju hg (by omega), fun I12 h12 => ?_⟩, fun z => ⟨fun z2 => ?_, fun z2 => ⟨_, tX5_keepRingName h hju hg (by omega), fun I12 h12 => ?_⟩⟩⟩⟩⟩
    · rw [nI_clamp (by omega)]; exact ho j _ (List.getElem?_eq_getElem hj)
    · refine hpush (fun _ => ?_) I12 h12.1 h12.2
      by_cases hq : op[j] = t
      · exact hq
      · have := h.2.2.2.2.2.tt hju ht hq
        omega
    · rw [hle] at z2
      have hac : acc = [] := List.eq_nil_of_length_eq_zero z2
      rw [nI_1]
      refine closes_loop C hr ht hop ho h13 h1 k (j + 1) acc I (by omega) (by omega) h hg (fun I2 hI2 => ?_)
      have hfin : finR D t acc (op.drop (j + 1)) = finR D t acc (op[j] :: op.drop (j + 1)) := by
        unfold finR
        rw [if_pos hac, if_pos hac]
        have hne : ¬ op[j] = t := fun q => z (by rw [q])
        rw [List.dropWhile_cons_of_pos (by simp [hne])]
      rw [hfin]
      exact hφ I2 hI2
    · rw [hle] at z2
      exact hpush (fun q => absurd (by rw [q]; rfl) z2) I12 h12.1 h12.2
theorem tX5_closesRing {t : Nat} {op : List Nat} (h : ClsRep K N I R o sz tx sa pa D) (h0 : I o 10 = 0) (ht : t ≤ D.1.length) (hop : ∀ u ∈ op, u ≤ D.1.length) (ho : openAt R o tx op) (h13 : op.length ≤ 13) (h1 : 0 < op.length) : MtI l G yX5_closesRing cX5_closesRing 5 (some .boolean) (d + 1) [.ref o, .ref (tx t), .int (nI (op.length - 1))] K N I R L sz (fun v I' => offG I I' o ∧ RingAt I' o (ringS D op t) ∧ v = b2i (decide (t ∈ op))) := by
  refine sX5_closesRing (fun p e s m args below meth c C hr => ?_)
  refine closes_loop C hr ht hop ho h13 h1 op.length 0 [] I (by omega) (by simp) h ⟨h0, by simp, ListAt.nil⟩ (fun I' hI hR => ?_)
  rw [List.drop_zero] at hR ⊢
  have hf : finR D t [] op = ringS D op t := by unfold finR ringS; rw [if_pos rfl]
  rw [hf] at hR ⊢
  refine ⟨hI, hR, ?_⟩
  congr 1
  rw [decide_eq_decide]
  unfold ringS
  rw [List.length_map]
  clear ho h13 h1 hR hf hop
  induction op with
  | nil => simp
  | cons u op ih =>
    by_cases hu : u = t
    · subst hu; simp
    · simp only [List.mem_cons, show ¬ t = u from fun z => hu z.symm, false_or, ← ih]
      rw [List.dropWhile_cons_of_pos (by simp [hu])]
end RING

section
variable {xl : Int32} {xt : Nat → Int32} {cf cw ct : Int32} {ck ch co ctw ctp : Nat → Int32} {nd ns : Int32} {nl np nsh : Nat → Int32} {us : Int32} {p8 : Nat → SVt} {ks : Int32} {p2 : Nat → SVt} {zs : Int32} {zw zp zd : Nat → Int32}
variable {mf mw mt : Int32} {msort mh mfi mse mby moff slot : Nat → Int32} {acts keeps ml : Int32} {mtx : Nat → Int32} {seens : Int32} {sw sp st : Nat → Int32} {idl : Int32}
variable {fa wa tr : Int32} {tW tP ow ki ho la nu : Nat → Int32}
theorem chrI {n d i : Nat} {tx : Nat → Nat} (h : TxR n tx xl xt) : (chr n tx i).toInt = (d : Int) ↔ isC n tx d i := by
  unfold chr
  by_cases q : i < n
  · have hc := (h.2.2 i q).2
    rw [if_pos q, nI_toInt (by omega)]
    exact ⟨fun z => ⟨q, by omega⟩, fun z => by have := z.2; omega⟩
  · rw [if_neg q, show (-1 : Int32).toInt = -1 by decide]
    exact ⟨fun z => by omega, fun z => absurd z.1 q⟩
theorem itemP_V {n i j : Nat} {tx : Nat → Nat} {c c' : Cty} (h : TxR n tx xl xt) (hc : CtyV c) (e : itemP n tx c i = some (c', j)) : CtyV c' ∧ i < j ∧ j ≤ n := by
  unfold itemP at e
  split at e
  · split at e
    · cases e
    · next v0 v1 v2 j0 h0 =>
      have hl := num3P_lt h h0
      split at e
      · cases e
      · next c0 h2 =>
        cases e
        exact ⟨famP_V hc hl.2.2.1 h2, by omega, by omega⟩
  · split at e
    · split at e
      · cases e
      · next v0 v1 j0 h0 =>
        have hl := num2P_lt h h0
        split at e
        · cases e
        · next c0 h2 =>
          cases e
          exact ⟨walP_V hc h2, by omega, by omega⟩
    · split at e
      · split at e
        · cases e
        · next v0 v1 j0 h0 =>
          have hl := num2P_lt h h0
          split at e
          · cases e
          · next c0 h2 =>
            cases e
            exact ⟨treP_V hc h2, by omega, by omega⟩
      · cases e
theorem readItem_C {n i : Nat} {tx : Nat → Nat} {c : Cty} {post : Int32 → Int32 → (Nat → Int32) → Int32 → Int32 → Int32 → (Nat → Int32) → (Nat → Int32) → (Nat → Int32) → (Nat → Int32) → (Nat → Int32) → (Nat → Int32) → Prop} (h : TxR n tx xl xt) (hi : i < n) (hV : CtyV c) (hc : CtC c fa wa tr tW tP ow ki ho la)
    (h1 : ∀ c' j, itemP n tx c i = some (c', j) → ∀ nu' fa' wa' tr' tW' tP' ow' ki' ho' la', CtC c' fa' wa' tr' tW' tP' ow' ki' ho' la' → post 1 (nI j) nu' fa' wa' tr' tW' tP' ow' ki' ho' la')
    (h0 : itemP n tx c i = none → ∀ a nu' fa' wa' tr' tW' tP' ow' ki' ho' la', post 0 a nu' fa' wa' tr' tW' tP' ow' ki' ho' la') : P_X4_readItem xl (nI i) xt nu fa wa tr tW tP ow ki ho la post := by
  have hn := h.1
  unfold P_X4_readItem
  refine here_C h (by omega) ?_
  have k1 : (chr n tx i).toInt = 102 ↔ isC n tx 102 i := chrI (d := 102) h
  have k2 : (chr n tx i).toInt = 116 ↔ isC n tx 116 i := chrI (d := 116) h
  have k3 : (chr n tx i).toInt = 119 ↔ isC n tx 119 i := chrI (d := 119) h
  rw [k1, k2, k3, nI_1, show (0 : Int32).toNatClampNeg = 0 from rfl, show (1 : Int32).toNatClampNeg = 1 from rfl, show (2 : Int32).toNatClampNeg = 2 from rfl]
  have o0 : vp_in 0 3 := ni_out (n := 0) (by omega) (by omega)
  have o1 : vp_in 1 3 := ni_out (n := 1) (by omega) (by omega)
  have o2 : vp_in 2 3 := ni_out (n := 2) (by omega) (by omega)
  refine ⟨fun q => ?_, fun q => ?_, fun q => ?_, fun q => ?_⟩
  · refine h0 ?_ _ _ _ _ _ _ _ _ _ _ _
    unfold itemP
    rw [if_neg (fun z => q (Or.inl z)), if_neg (fun z => q (Or.inr (Or.inr z))), if_neg (fun z => q (Or.inr (Or.inl z)))]
  · refine nums3_C h (by omega) (fun v0 v1 v2 j e nu' e0 e1 e2 => ⟨fun z => absurd z (by decide), fun _ => ⟨o0, o1, o2, ?_⟩⟩) (fun e a nu' => ⟨fun _ => ?_, fun z => absurd rfl z⟩)
    · have hl := num3P_lt h e
      rw [e0, e1, e2]
      refine addFamily_C hV hc hl.1 hl.2.1 hl.2.2.1 (fun c' ec fa' ki' ho' la' hc' => ⟨fun z => absurd z (by decide), fun _ => ?_⟩) (fun ec fa' ki' ho' la' => ⟨fun _ => ?_, fun z => absurd rfl z⟩)
      · exact h1 c' j (by unfold itemP; rw [if_pos q, e]; dsimp only; rw [ec]) _ _ _ _ _ _ _ _ _ _ hc'
      · exact h0 (by unfold itemP; rw [if_pos q, e]; dsimp only; rw [ec]) _ _ _ _ _ _ _ _ _ _ _
    · exact h0 (by unfold itemP; rw [if_pos q, e]) _ _ _ _ _ _ _ _ _ _ _
  · have n1 : ¬ isC n tx 102 i := fun z => by have h5 := z.2; have h6 := q.2; omega
    have n2 : ¬ isC n tx 119 i := fun z => by have h5 := z.2; have h6 := q.2; omega
    refine nums2_C h (by omega) (fun v0 v1 j e nu' e0 e1 => ⟨fun z => absurd z (by decide), fun _ => ⟨o0, o1, ?_⟩⟩) (fun e a nu' => ⟨fun _ => ?_, fun z => absurd rfl z⟩)
    · have hl := num2P_lt h e
      rw [e0, e1]
      refine addTree_C hV hc hl.1 hl.2.1 (fun c' ec tr' tW' tP' hc' => ⟨fun z => absurd z (by decide), fun _ => ?_⟩) (fun ec tr' tW' tP' => ⟨fun _ => ?_, fun z => absurd rfl z⟩)
      · exact h1 c' j (by unfold itemP; rw [if_neg n1, if_neg n2, if_pos q, e]; dsimp only; rw [ec]) _ _ _ _ _ _ _ _ _ _ hc'
      · exact h0 (by unfold itemP; rw [if_neg n1, if_neg n2, if_pos q, e]; dsimp only; rw [ec]) _ _ _ _ _ _ _ _ _ _ _
    · exact h0 (by unfold itemP; rw [if_neg n1, if_neg n2, if_pos q, e]) _ _ _ _ _ _ _ _ _ _ _
  · have n1 : ¬ isC n tx 102 i := fun z => by have h5 := z.2; have h6 := q.2; omega
    refine nums2_C h (by omega) (fun v0 v1 j e nu' e0 e1 => ⟨fun z => absurd z (by decide), fun _ => ⟨o0, o1, ?_⟩⟩) (fun e a nu' => ⟨fun _ => ?_, fun z => absurd rfl z⟩)
    · have hl := num2P_lt h e
      rw [e0, e1]
      refine addWall_C hV hc hl.1 hl.2.1 (fun c' ec wa' ow' hc' => ⟨fun z => absurd z (by decide), fun _ => ?_⟩) (fun ec wa' ow' => ⟨fun _ => ?_, fun z => absurd rfl z⟩)
      · exact h1 c' j (by unfold itemP; rw [if_neg n1, if_pos q, e]; dsimp only; rw [ec]) _ _ _ _ _ _ _ _ _ _ hc'
      · exact h0 (by unfold itemP; rw [if_neg n1, if_pos q, e]; dsimp only; rw [ec]) _ _ _ _ _ _ _ _ _ _ _
    · exact h0 (by unfold itemP; rw [if_neg n1, if_pos q, e]) _ _ _ _ _ _ _ _ _ _ _
def parP (n : Nat) (tx : Nat → Nat) : Nat → Cty → Nat → Option Nat × Cty
  | 0, c, _ => (none, c)
  | k + 1, c, i => if n ≤ i then (none, c) else match itemP n tx c i with
    | none => (some i, c)
    | some (c', j) => parP n tx k c' j
def cty0 : Cty := (0, 0, 0, (fun _ => 0), (fun _ => 0), (fun _ => 0), (fun _ => 0), (fun _ => 0), (fun _ => 0), (fun _ => 0))
theorem cty0_V : CtyV cty0 := ⟨by omega, by omega, by omega, fun w hw => by omega, fun f hf => by omega, fun t ht => by omega⟩
theorem readInto_C {n : Nat} {tx : Nat → Nat} {pl : Int32} {post : Int32 → Int32 → Int32 → Int32 → Int32 → (Nat → Int32) → (Nat → Int32) → (Nat → Int32) → (Nat → Int32) → (Nat → Int32) → (Nat → Int32) → (Nat → Int32) → Prop} (h : TxR n tx xl xt)
    (h1 : ∀ b c', parP n tx 201 cty0 0 = (some b, c') → ∀ fa' wa' tr' a nu' tW' tP' ow' ki' ho' la', post (nI b) fa' wa' tr' a nu' tW' tP' ow' ki' ho' la')
    (h0 : ∀ c', parP n tx 201 cty0 0 = (none, c') → CtyV c' → ∀ fa' wa' tr' a nu' tW' tP' ow' ki' ho' la', CtC c' fa' wa' tr' tW' tP' ow' ki' ho' la' → post (-4) fa' wa' tr' a nu' tW' tP' ow' ki' ho' la') : P_X4_readInto fa wa tr xl pl xt nu tW tP ow ki ho la post := by
  have hn := h.1
  have hxl := h.2.1
  unfold P_X4_readInto P_X1_clear
  generalize hR : parP n tx 201 cty0 0 = R at h1 h0
  refine ⟨201, ?_⟩
  have key : ∀ k x i c fa wa tr nu tW tP ow ki ho la, n ≤ i + k → x ≤ i → i ≤ 200 → CtyV c → CtC c fa wa tr tW tP ow ki ho la → parP n tx (k + 1) c i = R → P_X4_readInto_L11 xl xt post (k + 1) (nI x) fa wa tr (nI i) nu tW tP ow ki ho la := by
    intro k
    induction k with
    | zero =>
      intro x i c fa wa tr nu tW tP ow ki ho la hk hx hi hV hc hp
      rw [P_X4_readInto_L11]
      rw [parP, if_pos (by omega)] at hp
      refine ⟨fun _ => h0 c hp.symm hV _ _ _ _ _ _ _ _ _ _ _ hc, fun _ => ⟨fun _ => h0 c hp.symm hV _ _ _ _ _ _ _ _ _ _ _ hc, fun q => absurd (by rw [hxl]; exact nI_le (by omega) (by omega)) q⟩⟩
    | succ k ih =>
      intro x i c fa wa tr nu tW tP ow ki ho la hk hx hi hV hc hp
      rw [P_X4_readInto_L11]
      by_cases q : n ≤ i
      · rw [parP, if_pos q] at hp
        refine ⟨fun _ => h0 c hp.symm hV _ _ _ _ _ _ _ _ _ _ _ hc, fun _ => ⟨fun _ => h0 c hp.symm hV _ _ _ _ _ _ _ _ _ _ _ hc, fun q => absurd (by rw [hxl]; exact nI_le (by omega) (by omega)) q⟩⟩
      · rw [parP, if_neg q] at hp
        refine ⟨fun z => absurd z (nI_ge (a := x) (b := 200) (by omega) (by omega)), fun _ => ⟨fun z => absurd z (by rw [hxl]; exact nI_ge (by omega) (by omega)), fun _ => ?_⟩⟩
        refine readItem_C h (by omega) hV hc (fun c' j e nu' fa' wa' tr' tW' tP' ow' ki' ho' la' hc' => ⟨fun _ => ?_, fun z => absurd z (by decide)⟩) (fun e a nu' fa' wa' tr' tW' tP' ow' ki' ho' la' => ⟨fun z => absurd rfl z, fun _ => ?_⟩)
        · have hh := itemP_V h hV e
          rw [e] at hp
          dsimp only at hp
          rw [nI_1]
          exact ih (x + 1) j c' _ _ _ _ _ _ _ _ _ _ (by omega) (by omega) (by omega) hh.1 hc' hp
        · rw [e] at hp
          exact h1 i c hp.symm _ _ _ _ _ _ _ _ _ _ _
  exact key 200 0 0 cty0 0 0 0 nu tW tP ow ki ho la (by omega) (by omega) (by omega) cty0_V ⟨rfl, rfl, rfl, fun w hw => by omega, fun f hf => by omega, fun t ht => by omega⟩ hR
end

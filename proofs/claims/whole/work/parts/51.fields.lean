section
variable {xl : Int32} {xt : Nat → Int32} {cf cw ct : Int32} {ck ch co ctw ctp : Nat → Int32} {nd ns : Int32} {nl np nsh : Nat → Int32} {us : Int32} {p8 : Nat → SVt} {ks : Int32} {p2 : Nat → SVt} {zs : Int32} {zw zp zd : Nat → Int32}
variable {mf mw mt : Int32} {msort mh mfi mse mby moff slot : Nat → Int32} {acts keeps ml : Int32} {mtx : Nat → Int32} {seens : Int32} {sw sp st : Nat → Int32} {idl : Int32}
def num3P (n : Nat) (tx : Nat → Nat) (i : Nat) : Option (Nat × Nat × Nat × Nat) := match fldP n tx 44 i with
  | none => none
  | some (v0, j0) => match fldP n tx 44 j0 with
    | none => none
    | some (v1, j1) => match fldP n tx 59 j1 with
      | none => none
      | some (v2, j2) => some (v0, v1, v2, j2)
def num2P (n : Nat) (tx : Nat → Nat) (i : Nat) : Option (Nat × Nat × Nat) := match fldP n tx 44 i with
  | none => none
  | some (v0, j0) => match fldP n tx 59 j0 with
    | none => none
    | some (v1, j1) => some (v0, v1, j1)
theorem num3P_lt {n i v0 v1 v2 j : Nat} {tx : Nat → Nat} (h : TxR n tx xl xt) (e : num3P n tx i = some (v0, v1, v2, j)) : v0 ≤ 99 ∧ v1 ≤ 99 ∧ v2 ≤ 99 ∧ i < j ∧ j ≤ n := by
  unfold num3P at e
  split at e
  · cases e
  · next a b h0 =>
    split at e
    · cases e
    · next c d h1 =>
      split at e
      · cases e
      · next f g h2 =>
        cases e
        have := fldP_lt h h0
        have := fldP_lt h h1
        have := fldP_lt h h2
        omega
theorem num2P_lt {n i v0 v1 j : Nat} {tx : Nat → Nat} (h : TxR n tx xl xt) (e : num2P n tx i = some (v0, v1, j)) : v0 ≤ 99 ∧ v1 ≤ 99 ∧ i < j ∧ j ≤ n := by
  unfold num2P at e
  split at e
  · cases e
  · next a b h0 =>
    split at e
    · cases e
    · next c d h1 =>
      cases e
      have := fldP_lt h h0
      have := fldP_lt h h1
      omega
theorem fld_C {n i m k d g : Nat} {tx : Nat → Nat} {nu : Nat → Int32} {post : Int32 → Int32 → (Nat → Int32) → Prop} (h : TxR n tx xl xt) (hi : i ≤ 300) (hk : k < m) (hm : m ≤ 3) (hd : d = if k + 1 < m then 44 else 59) (h1 : ∀ v j, fldP n tx d i = some (v, j) → P_X4_readNumbers_L2 xl xt post g (nI m) (nI (k + 1)) (nI j) (upd nu k (nI v))) (h0 : fldP n tx d i = none → ∀ a nu', post 0 a nu') : P_X4_readNumbers_L2 xl xt post (g + 1) (nI m) (nI k) (nI i) nu := by
  rw [P_X4_readNumbers_L2, cl (by omega)]
  refine ⟨fun q => absurd q (nI_ge (by omega) (by omega)), fun _ => ⟨fun q => absurd q (nI_ge (a := k) (b := 3) (by omega) (by omega)), fun _ => ?_⟩⟩
  refine number_C h (by omega) (fun v j e => ⟨ni_out (by omega) (by omega), ni_out (by omega) (by omega), ?_⟩) (fun e => ⟨ni_out (by omega) (by omega), ni_out (by omega) (by omega), ?_⟩)
  · have hj := numP_lt h e
    rw [pk_us]
    refine ⟨fun z => absurd z (ne_m4 (by omega)), fun _ => ?_⟩
    refine here_C h (by omega) ?_
    unfold P_X4_readNumbers_b55
    rw [nI_1, nI_1, nI_leI (by omega) (by omega), show (59 : Int32) = nI 59 from rfl, show (44 : Int32) = nI 44 from rfl, chr_c h (by omega), chr_c h (by omega)]
    have f1 : isC n tx d j → fldP n tx d i = some (v, j + 1) := fun q => by unfold fldP; rw [e]; dsimp only; rw [if_pos q]
    have f0 : ¬ isC n tx d j → fldP n tx d i = none := fun q => by unfold fldP; rw [e]; dsimp only; rw [if_neg q]
    refine ⟨fun q => ?_, fun q => ?_⟩
    · rw [if_neg (by omega)] at hd
      subst hd
      exact ⟨fun r => h1 v (j + 1) (f1 r), fun r => h0 (f0 r) _ _⟩
    · rw [if_pos (by omega)] at hd
      subst hd
      exact ⟨fun r => h1 v (j + 1) (f1 r), fun r => h0 (f0 r) _ _⟩
  · rw [pk_us]
    exact ⟨fun _ => h0 (by unfold fldP; rw [e]) _ _, fun z => absurd rfl z⟩
theorem end_C {m j g : Nat} {nu : Nat → Int32} {post : Int32 → Int32 → (Nat → Int32) → Prop} (hm : m ≤ 3) (hp : post 1 (nI j) nu) : P_X4_readNumbers_L2 xl xt post (g + 1) (nI m) (nI m) (nI j) nu := by
  rw [P_X4_readNumbers_L2]
  exact ⟨fun _ => hp, fun q => absurd (Int32.le_refl _) q⟩
theorem nums3_C {n i : Nat} {tx : Nat → Nat} {nu : Nat → Int32} {post : Int32 → Int32 → (Nat → Int32) → Prop} (h : TxR n tx xl xt) (hi : i ≤ 300) (h1 : ∀ v0 v1 v2 j, num3P n tx i = some (v0, v1, v2, j) → ∀ nu', nu' 0 = nI v0 → nu' 1 = nI v1 → nu' 2 = nI v2 → post 1 (nI j) nu') (h0 : num3P n tx i = none → ∀ a nu', post 0 a nu') : P_X4_readNumbers 3 xl (nI i) nu xt post := by
  unfold P_X4_readNumbers
  refine ⟨4, ?_⟩
  refine fld_C (m := 3) (k := 0) (d := 44) h hi (by omega) (by omega) (by simp) (fun v0 j0 e0 => ?_) (fun e0 => h0 (by unfold num3P; rw [e0]))
  have l0 := fldP_lt h e0
  have hn := h.1
  refine fld_C (m := 3) (k := 1) (d := 44) h (by omega) (by omega) (by omega) (by simp) (fun v1 j1 e1 => ?_) (fun e1 => h0 (by unfold num3P; rw [e0]; dsimp only; rw [e1]))
  have l1 := fldP_lt h e1
  refine fld_C (m := 3) (k := 2) (d := 59) h (by omega) (by omega) (by omega) (by simp) (fun v2 j2 e2 => ?_) (fun e2 => h0 (by unfold num3P; rw [e0]; dsimp only; rw [e1]; dsimp only; rw [e2]))
  refine end_C (m := 3) (by omega) (h1 v0 v1 v2 j2 (by unfold num3P; rw [e0]; dsimp only; rw [e1]; dsimp only; rw [e2]) _ ?_ ?_ ?_)
  · rw [pk_un (by omega), pk_un (by omega), pk_us]
  · rw [pk_un (by omega), pk_us]
  · rw [pk_us]
theorem nums2_C {n i : Nat} {tx : Nat → Nat} {nu : Nat → Int32} {post : Int32 → Int32 → (Nat → Int32) → Prop} (h : TxR n tx xl xt) (hi : i ≤ 300) (h1 : ∀ v0 v1 j, num2P n tx i = some (v0, v1, j) → ∀ nu', nu' 0 = nI v0 → nu' 1 = nI v1 → post 1 (nI j) nu') (h0 : num2P n tx i = none → ∀ a nu', post 0 a nu') : P_X4_readNumbers 2 xl (nI i) nu xt post := by
  unfold P_X4_readNumbers
  refine ⟨3, ?_⟩
  refine fld_C (m := 2) (k := 0) (d := 44) h hi (by omega) (by omega) (by simp) (fun v0 j0 e0 => ?_) (fun e0 => h0 (by unfold num2P; rw [e0]))
  have l0 := fldP_lt h e0
  have hn := h.1
  refine fld_C (m := 2) (k := 1) (d := 59) h (by omega) (by omega) (by omega) (by simp) (fun v1 j1 e1 => ?_) (fun e1 => h0 (by unfold num2P; rw [e0]; dsimp only; rw [e1]))
  refine end_C (m := 2) (by omega) (h1 v0 v1 j1 (by unfold num2P; rw [e0]; dsimp only; rw [e1]) _ ?_ ?_)
  · rw [pk_un (by omega), pk_us]
  · rw [pk_us]
/-! the reference's fields -/
theorem more_w {x1 x2 a : Int32} {post : Int32 → Int32 → Int32 → Prop} (hp : post 0 (a + 1) 1) : P_X9_more x1 x2 ml a 1 mtx post := by
  unfold P_X9_more P_X9_more_b17 P_X9_more_b22
  exact ⟨fun _ => ⟨zb1, fun z => absurd z (by decide), fun _ => hp⟩, fun z => absurd z (by decide)⟩
theorem isC_D {n d j : Nat} {tx : Nat → Nat} (hd : d = 44 ∨ d = 59) (h : isC n tx d j) : ¬ isD n tx j := by
  intro z
  have h1 := h.2
  have h2 := z.2.1
  have h3 := z.2.2
  omega
theorem nm_M {n i : Nat} {tx : Nat → Nat} {x2 y2 : Int32} {post : Int32 → Int32 → Int32 → Int32 → Prop} (h : TxR n tx ml mtx) (hi : i ≤ 1000) (h1 : ∀ v j, fldP n tx 44 i = some (v, j) → InR (nI v) 0 x2 → P_X9_number 0 y2 ml (nI j) 0 mtx (fun r a w => post (nI v) r a w)) (h0 : (∀ v j, fldP n tx 44 i = some (v, j) → ¬ InR (nI v) 0 x2) → ∀ r a, post r 0 a 1) : P_X9_number 0 x2 ml (nI i) 0 mtx (fun r a w => P_X9_more 0 y2 ml a w mtx (fun r' a' w' => post r r' a' w')) := by
  refine number_M h hi (fun v j e hd hr => ?_) (fun hno a => ?_)
  · have hj := numP_lt h e
    have hn := h.1
    unfold P_X9_more P_X9_more_b17 P_X9_more_b22
    refine ⟨fun z => absurd rfl z, fun _ => ?_⟩
    refine next_M h (by omega) ?_
    rw [show (44 : Int32) = nI 44 from rfl, chr_c h (by omega), nI_1]
    refine ⟨fun q => ⟨zb0, fun _ => h1 v (j + 1) (by unfold fldP; rw [e]; dsimp only; rw [if_pos q]) hr, fun z => absurd rfl z⟩, fun q => ⟨zb1, fun z => absurd z (by decide), fun _ => h0 (fun v' j' e' => ?_) _ _⟩⟩
    unfold fldP at e'
    rw [e] at e'
    dsimp only at e'
    rw [if_neg q] at e'
    cases e'
  · refine more_w (h0 (fun v' j' e' hr => ?_) _ _)
    unfold fldP at e'
    cases en : numP n tx i with
    | none => rw [en] at e'; cases e'
    | some p =>
      obtain ⟨v, j⟩ := p
      rw [en] at e'
      dsimp only at e'
      split at e'
      · next q =>
        cases e'
        rcases hno _ _ en with hx | hx
        · exact isC_D (Or.inl rfl) q hx
        · exact hx hr
      · cases e'
end

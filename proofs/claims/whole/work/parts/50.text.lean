section
variable {xl : Int32} {xt : Nat → Int32} {cf cw ct : Int32} {ck ch co ctw ctp : Nat → Int32} {nd ns : Int32} {nl np nsh : Nat → Int32} {us : Int32} {p8 : Nat → SVt} {ks : Int32} {p2 : Nat → SVt} {zs : Int32} {zw zp zd : Nat → Int32}
variable {mf mw mt : Int32} {msort mh mfi mse mby moff slot : Nat → Int32} {acts keeps ml : Int32} {mtx : Nat → Int32} {seens : Int32} {sw sp st : Nat → Int32} {idl : Int32}
/-! the text, figures and numbers -/
def TxR (n : Nat) (tx : Nat → Nat) (xl : Int32) (xt : Nat → Int32) : Prop := n ≤ 200 ∧ xl = nI n ∧ ∀ i, i < n → xt i = nI (tx i) ∧ tx i ≤ 126
def chr (n : Nat) (tx : Nat → Nat) (i : Nat) : Int32 := if i < n then nI (tx i) else -1
abbrev isD (n : Nat) (tx : Nat → Nat) (i : Nat) : Prop := i < n ∧ 48 ≤ tx i ∧ tx i ≤ 57
abbrev isC (n : Nat) (tx : Nat → Nat) (d i : Nat) : Prop := i < n ∧ tx i = d
def numP (n : Nat) (tx : Nat → Nat) (i : Nat) : Option (Nat × Nat) :=
  if isD n tx i then (if isD n tx (i + 1) then some (10 * (tx i - 48) + (tx (i + 1) - 48), i + 2) else some (tx i - 48, i + 1)) else none
/-- a number and the sign behind it -/
def fldP (n : Nat) (tx : Nat → Nat) (d i : Nat) : Option (Nat × Nat) := match numP n tx i with
  | none => none
  | some (v, j) => if isC n tx d j then some (v, j + 1) else none
theorem RText_out (h : RText xl xt ml mtx) : ∃ (n : Nat) (tx : Nat → Nat), TxR n tx xl xt ∧ TxR n tx ml mtx := by
  obtain ⟨n, hn, h1, h2, h3⟩ := h
  refine ⟨n, fun i => (xt i).toNatClampNeg, ⟨hn, h1, fun i hi => ?_⟩, ⟨hn, h2, fun i hi => ?_⟩⟩
  · obtain ⟨c, hc1, hc2, e1, e2⟩ := h3 i hi
    dsimp only
    rw [e1, cl (by omega)]; exact ⟨rfl, hc2⟩
  · obtain ⟨c, hc1, hc2, e1, e2⟩ := h3 i hi
    dsimp only
    rw [e1, cl (by omega)]; exact ⟨e2, hc2⟩
theorem chr_d {n : Nat} {tx : Nat → Nat} (h : TxR n tx xl xt) (i : Nat) : InR (chr n tx i) 48 57 ↔ isD n tx i := by
  unfold chr
  by_cases q : i < n
  · have hc := (h.2.2 i q).2
    rw [if_pos q]
    constructor
    · rintro ⟨h1, h2⟩
      have h1 := (nI_leI (a := 48) (b := tx i) (by omega) (by omega)).mp h1
      have h2 := (nI_leI (a := tx i) (b := 57) (by omega) (by omega)).mp h2
      exact ⟨q, h1, h2⟩
    · rintro ⟨-, h1, h2⟩
      exact ⟨nI_le (a := 48) h1 (by omega), nI_le (b := 57) h2 (by omega)⟩
  · rw [if_neg q]
    exact ⟨fun z => absurd z.1 (by decide), fun z => absurd z.1 q⟩
theorem chr_c {n d : Nat} {tx : Nat → Nat} (h : TxR n tx xl xt) (hd : d < 2 ^ 31) (i : Nat) : chr n tx i = nI d ↔ isC n tx d i := by
  unfold chr
  by_cases q : i < n
  · have hc := (h.2.2 i q).2
    rw [if_pos q, nI_eq (by omega) hd]
    exact ⟨fun z => ⟨q, z⟩, fun z => z.2⟩
  · rw [if_neg q]
    refine ⟨fun z => ?_, fun z => absurd z.1 q⟩
    have := congrArg Int32.toInt z
    rw [nI_toInt hd, show (-1 : Int32).toInt = -1 by decide] at this
    omega
theorem here_C {n i : Nat} {tx : Nat → Nat} {post : Int32 → Prop} (h : TxR n tx xl xt) (hi : i < 2 ^ 31) (hp : post (chr n tx i)) : P_X4_letterHere xl (nI i) xt post := by
  obtain ⟨hn, e, ht⟩ := h
  unfold P_X4_letterHere
  unfold chr at hp
  rw [e, cl hi, nI_leI (by omega) hi]
  refine ⟨fun q => ?_, fun q => ⟨fun r => absurd ((nI_leI (a := 200) (b := i) (by omega) hi).mp r) (by omega), fun _ => ⟨ni_out (by omega) (by omega), ?_⟩⟩⟩
  · rw [if_neg (by omega)] at hp; exact hp
  · rw [if_pos (by omega)] at hp; rw [(ht i (by omega)).1]; exact hp
theorem next_M {n i : Nat} {tx : Nat → Nat} {post : Int32 → Prop} (h : TxR n tx ml mtx) (hi : i < 2 ^ 31) (hp : post (chr n tx i)) : P_X9_next ml (nI i) mtx post := by
  obtain ⟨hn, e, ht⟩ := h
  unfold P_X9_next
  unfold chr at hp
  rw [e, cl hi, nI_leI (by omega) hi]
  refine ⟨fun q => ?_, fun q => ⟨ni_out (by omega) (by omega), ?_⟩⟩
  · rw [if_neg (by omega)] at hp; exact hp
  · rw [if_pos (by omega)] at hp; rw [(ht i (by omega)).1]; exact hp
theorem chr_in {n i : Nat} {tx : Nat → Nat} (q : isD n tx i) : chr n tx i = nI (tx i) := by unfold chr; rw [if_pos q.1]
theorem number_C {n i : Nat} {tx : Nat → Nat} {post : Int32 → Int32 → Prop} (h : TxR n tx xl xt) (hi : i ≤ 1000) (h1 : ∀ v j, numP n tx i = some (v, j) → post (nI v) (nI j)) (h0 : numP n tx i = none → post (-4) (nI i)) : P_X4_readNumber xl (nI i) xt post := by
  unfold P_X4_readNumber
  refine here_C h (by omega) ?_
  by_cases q : isD n tx i
  · refine within_1 ((chr_d h i).mpr q) ⟨fun _ => ?_, fun z => absurd z (by decide)⟩
    refine here_C h (by omega) ?_
    rw [nI_1]
    refine here_C h (by omega) ?_
    have e48 : nI (tx i) - 48 = nI (tx i - 48) := pk_sub (b := 48) q.2.1
    rw [chr_in q, e48]
    by_cases r : isD n tx (i + 1)
    · refine within_1 ((chr_d h (i + 1)).mpr r) ⟨fun z => absurd z (by decide), fun _ => ?_⟩
      refine here_C h (by omega) ?_
      rw [chr_in r, nI_1, show (10 : Int32) = nI 10 from rfl, pk_mul, na]
      have e49 : nI (10 * (tx i - 48) + tx (i + 1)) - 48 = nI (10 * (tx i - 48) + tx (i + 1) - 48) := pk_sub (b := 48) (by have := r.2.1; omega)
      have e50 : 10 * (tx i - 48) + tx (i + 1) - 48 = 10 * (tx i - 48) + (tx (i + 1) - 48) := by have := r.2.1; omega
      rw [e49, e50]
      exact h1 _ _ (by unfold numP; rw [if_pos q, if_pos r])
    · refine within_0 (fun z => r ((chr_d h (i + 1)).mp z)) ⟨fun _ => ?_, fun z => absurd rfl z⟩
      exact h1 _ _ (by unfold numP; rw [if_pos q, if_neg r])
  · refine within_0 (fun z => q ((chr_d h i).mp z)) ⟨fun z => absurd rfl z, fun _ => ?_⟩
    exact h0 (by unfold numP; rw [if_neg q])
theorem numP_lt {n i v j : Nat} {tx : Nat → Nat} (h : TxR n tx xl xt) (e : numP n tx i = some (v, j)) : v ≤ 99 ∧ i < j ∧ j ≤ i + 2 ∧ j ≤ n := by
  unfold numP at e
  split at e
  · next q =>
    split at e
    · next r =>
      cases e
      have h1 := q.2.1; have h2 := q.2.2; have h3 := r.2.1; have h4 := r.2.2; have h5 := r.1
      omega
    · cases e
      have h1 := q.2.1; have h2 := q.2.2; have h5 := q.1
      omega
  · cases e
theorem fldP_lt {n d i v j : Nat} {tx : Nat → Nat} (h : TxR n tx xl xt) (e : fldP n tx d i = some (v, j)) : v ≤ 99 ∧ i < j ∧ j ≤ n := by
  unfold fldP at e
  split at e
  · cases e
  · next v' j' hv =>
    have := numP_lt h hv
    split at e
    · next q => cases e; have := q.1; omega
    · cases e
theorem number_M {n i : Nat} {tx : Nat → Nat} {x2 : Int32} {post : Int32 → Int32 → Int32 → Prop} (h : TxR n tx ml mtx) (hi : i ≤ 1000) (h1 : ∀ v j, numP n tx i = some (v, j) → ¬ isD n tx j → InR (nI v) 0 x2 → post (nI v) (nI j) 0) (h0 : (∀ v j, numP n tx i = some (v, j) → isD n tx j ∨ ¬ InR (nI v) 0 x2) → ∀ a, post 0 a 1) : P_X9_number 0 x2 ml (nI i) 0 mtx post := by
  have wrong : ∀ x a, (∀ a, post 0 a 1) → P_X9_number_b88 ml mtx post x a 0 := by
    intro x a hw
    unfold P_X9_number_b88 P_X9_number_b93
    exact ⟨zb1, fun z => absurd z (by decide), fun _ => hw a⟩
  have done : ∀ v c j, numP n tx i = some (v, j) → ¬ isD n tx j → 1 ≤ c → c ≤ 2 → P_X9_number_b57 ml mtx post 0 x2 (nI v) (nI c) (nI j) 0 := by
    intro v c j e hd hc1 hc2
    unfold P_X9_number_b57
    rw [ni_e0 (by omega)]
    refine ⟨fun z => absurd rfl z, fun _ => ⟨fun z => by omega, fun _ => ⟨fun z => absurd ((nI_ltI (a := 2) (b := c) (by omega) (by omega)).mp z) (by omega), fun _ => ?_⟩⟩⟩
    by_cases q : InR (nI v) 0 x2
    · refine in_1 q ⟨fun _ => ?_, fun z => absurd z (by decide)⟩
      unfold P_X9_number_b93
      exact ⟨zb0, fun _ => h1 v j e hd q, fun z => absurd rfl z⟩
    · refine in_0 q ⟨fun z => absurd rfl z, fun _ => ?_⟩
      refine wrong _ _ (h0 (fun v' j' e' => ?_))
      rw [e] at e'; cases e'
      exact Or.inr q
  have step : ∀ c j x g, c < 3 → j ≤ 1010 → isD n tx j → P_X9_number_L5 ml mtx post g 0 x2 (10 * x + nI (tx j) - 48) (nI (c + 1)) (nI (j + 1)) 0 → P_X9_number_L5 ml mtx post (g + 1) 0 x2 x (nI c) (nI j) 0 := by
    intro c j x g hc hj q hh
    rw [P_X9_number_L5]
    refine next_M h (by omega) ?_
    refine in_y ((chr_d h j).mpr q) (by decide +kernel) (by decide +kernel) ⟨fun z => absurd z (by decide), fun _ => ⟨fun z => absurd z (nI_ge (a := c) (b := 3) hc (by omega)), fun _ => ?_⟩⟩
    refine next_M h (by omega) ?_
    rw [chr_in q, nI_1, nI_1]
    exact hh
  have stop : ∀ c j x g, j ≤ 1010 → ¬ isD n tx j → P_X9_number_b57 ml mtx post 0 x2 x (nI c) (nI j) 0 → P_X9_number_L5 ml mtx post (g + 1) 0 x2 x (nI c) (nI j) 0 := by
    intro c j x g hj q hh
    rw [P_X9_number_L5]
    refine next_M h (by omega) ?_
    exact in_n (fun z => q ((chr_d h j).mp z)) (by decide +kernel) (by decide +kernel) ⟨fun _ => hh, fun z => absurd rfl z⟩
  unfold P_X9_number
  refine ⟨4, ?_⟩
  by_cases q0 : isD n tx i
  · refine step 0 i 0 3 (by omega) (by omega) q0 ?_
    have v0 : (10 : Int32) * 0 + nI (tx i) - 48 = nI (tx i - 48) := by
      rw [show (10 : Int32) * 0 + nI (tx i) = nI (tx i) by rw [show (10 : Int32) * 0 = nI 0 from rfl, na, Nat.zero_add]]
      exact pk_sub (b := 48) q0.2.1
    rw [v0]
    by_cases q1 : isD n tx (i + 1)
    · refine step 1 (i + 1) _ 2 (by omega) (by omega) q1 ?_
      have v1 : (10 : Int32) * nI (tx i - 48) + nI (tx (i + 1)) - 48 = nI (10 * (tx i - 48) + (tx (i + 1) - 48)) := by
        rw [show (10 : Int32) = nI 10 from rfl, pk_mul, na]
        have e49 : nI (10 * (tx i - 48) + tx (i + 1)) - 48 = nI (10 * (tx i - 48) + tx (i + 1) - 48) := pk_sub (b := 48) (by have := q1.2.1; omega)
        rw [e49]
        congr 1
        have := q1.2.1; omega
      rw [v1]
      have en : numP n tx i = some (10 * (tx i - 48) + (tx (i + 1) - 48), i + 2) := by unfold numP; rw [if_pos q0, if_pos q1]
      by_cases q2 : isD n tx (i + 2)
      · refine step 2 (i + 2) _ 1 (by omega) (by omega) q2 ?_
        rw [P_X9_number_L5]
        refine next_M h (by omega) ?_
        have hw : ∀ x a, P_X9_number_b57 ml mtx post 0 x2 x (nI 3) a 0 := by
          intro x a
          unfold P_X9_number_b57
          refine ⟨fun z => absurd rfl z, fun _ => ⟨fun z => absurd z (by decide), fun _ => ⟨fun _ => ?_, fun z => absurd (by decide) z⟩⟩⟩
          refine wrong _ _ (h0 (fun v' j' e' => ?_))
          rw [en] at e'; cases e'
          exact Or.inl q2
        by_cases q3 : isD n tx (i + 2 + 1)
        · exact in_y ((chr_d h (i + 2 + 1)).mpr q3) (by decide +kernel) (by decide +kernel) ⟨fun z => absurd z (by decide), fun _ => ⟨fun _ => hw _ _, fun z => absurd (by decide) z⟩⟩
        · exact in_n (fun z => q3 ((chr_d h (i + 2 + 1)).mp z)) (by decide +kernel) (by decide +kernel) ⟨fun _ => hw _ _, fun z => absurd rfl z⟩
      · exact stop 2 (i + 2) _ 1 (by omega) q2 (done _ 2 _ en q2 (by omega) (by omega))
    · have en : numP n tx i = some (tx i - 48, i + 1) := by unfold numP; rw [if_pos q0, if_neg q1]
      exact stop 1 (i + 1) _ 2 (by omega) q1 (done _ 1 _ en q1 (by omega) (by omega))
  · refine stop 0 i 0 3 (by omega) q0 ?_
    unfold P_X9_number_b57
    refine ⟨fun z => absurd rfl z, fun _ => ⟨fun _ => ?_, fun z => absurd rfl z⟩⟩
    refine wrong _ _ (h0 (fun v' j' e' => ?_))
    unfold numP at e'
    rw [if_neg q0] at e'
    cases e'
end

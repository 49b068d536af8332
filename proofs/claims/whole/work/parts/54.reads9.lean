section
variable {xl : Int32} {xt : Nat → Int32} {cf cw ct : Int32} {ck ch co ctw ctp : Nat → Int32} {nd ns : Int32} {nl np nsh : Nat → Int32} {us : Int32} {p8 : Nat → SVt} {ks : Int32} {p2 : Nat → SVt} {zs : Int32} {zw zp zd : Nat → Int32}
variable {mf mw mt : Int32} {msort mh mfi mse mby moff slot : Nat → Int32} {acts keeps ml : Int32} {mtx : Nat → Int32} {seens : Int32} {sw sp st : Nat → Int32} {idl : Int32}
variable {nf nw nt : Int32} {so nh n1 n2 nb no : Nat → Int32}
/-! the reference reads -/
def CtM (c : Cty) (nf nw nt : Int32) (so nh n1 n2 nb no sl : Nat → Int32) : Prop := match c with
  | (F, W, T, kd, hr, ld, A, B, tw, tp) => nf = nI F ∧ nw = nI W ∧ nt = nI T ∧ (∀ w, w < W → n1 w = nI (A w) ∧ n2 w = nI (B w)) ∧ (∀ f, f < F → so f = nI (kd f) ∧ nh f = nI (hr f) ∧ sl (385 + f) = nI (ld f)) ∧ (∀ t, t < T → nb t = nI (tw t) ∧ no t = tp t) ∧ ∀ k, 6 ≤ k → k < 35 → sl (385 + k) = 0
theorem last_M {n i : Nat} {tx : Nat → Nat} {x2 : Int32} {post : Int32 → Int32 → Int32 → Prop} (h : TxR n tx ml mtx) (hi : i ≤ 1000) (h1 : ∀ v j, fldP n tx 59 i = some (v, j + 1) → isC n tx 59 j → InR (nI v) 0 x2 → post (nI v) (nI j) 0) (h2 : fldP n tx 59 i = none → ∀ v j, j ≤ i + 2 → InR (nI v) 0 x2 → ¬ isC n tx 59 j → post (nI v) (nI j) 0) (h0 : (∀ v j, fldP n tx 59 i = some (v, j) → ¬ InR (nI v) 0 x2) → ∀ a, post 0 a 1) : P_X9_number 0 x2 ml (nI i) 0 mtx post := by
  refine number_M h hi (fun v j e hd hr => ?_) (fun hno a => h0 (fun v' j' e' hr => ?_) a)
  · have hl := numP_lt h e
    by_cases q : isC n tx 59 j
    · exact h1 v j (by unfold fldP; rw [e]; dsimp only; rw [if_pos q]) q hr
    · exact h2 (by unfold fldP; rw [e]; dsimp only; rw [if_neg q]) v j (by omega) hr q
  · unfold fldP at e'
    cases en : numP n tx i with
    | none => rw [en] at e'; cases e'
    | some p =>
      obtain ⟨v, j⟩ := p
      rw [en] at e'
      dsimp only at e'
      by_cases q : isC n tx 59 j
      · rw [if_pos q] at e'
        have e3 := Option.some.inj e'
        have e4 := (Prod.mk.inj e3).1
        rcases hno v j en with hx | hx
        · exact isC_D (Or.inr rfl) q hx
        · rw [e4] at hx; exact hx hr
      · rw [if_neg q] at e'; cases e'
theorem manyTold_M {F W f : Nat} {A B : Nat → Nat} {post : Int32 → Prop} (hV : OwV F W A B) (hO : OwM W A B nw n1 n2) (hf : f < F) (hp : post (nI (cnt A B f W))) : P_X9_manyTold (nI f) nw n1 n2 post := by
  have hF := hV.1
  have hW := hV.2.1
  have key : ∀ k i, i + k = W → P_X9_manyTold_L4 nw n1 n2 post (k + 1) (nI f) (nI (cnt A B f i)) (nI i) := by
    intro k
    induction k with
    | zero =>
      intro i hi
      rw [P_X9_manyTold_L4, hO.1]
      refine ⟨fun _ => ?_, fun q => absurd (nI_le (by omega) (by omega)) q⟩
      rw [show i = W by omega]; exact hp
    | succ k ih =>
      intro i hi
      rw [P_X9_manyTold_L4]
      obtain ⟨a1, a2, a3⟩ := hV.2.2 i (by omega)
      have nx := ih (i + 1) (by omega)
      rw [cnt] at nx
      unfold P_X9_manyTold_b33 P_X9_manyTold_b38
      refine ⟨fun q => absurd q (by rw [hO.1]; exact nI_ge (by omega) (by omega)), fun _ => ⟨ni_out (by omega) (by omega), ?_⟩⟩
      rw [cl (by omega), (hO.2 i (by omega)).1, (hO.2 i (by omega)).2, nI_eq (by omega) (by omega), nI_eq (by omega) (by omega), nI_1, nI_1, Int32.add_zero]
      refine ⟨fun q => ?_, fun q => ⟨ni_out (by omega) (by omega), fun r => ?_, fun r => ?_⟩⟩
      · rw [if_pos (Or.inl q)] at nx; exact nx
      · rw [if_neg (by omega)] at nx; exact nx
      · rw [if_pos (Or.inr r)] at nx; exact nx
  unfold P_X9_manyTold
  exact ⟨W + 1, key W 0 (by omega)⟩
/-- what a told item may lead to: Q takes families .. trees, the place, whether it is wrong, and the rows -/
abbrev QM : Type := Int32 → Int32 → Int32 → Int32 → Int32 → (Nat → Int32) → (Nat → Int32) → (Nat → Int32) → (Nat → Int32) → (Nat → Int32) → (Nat → Int32) → (Nat → Int32) → Prop
def QOk (n : Nat) (tx : Nat → Nat) (slot0 : Nat → Int32) (Q : QM) (r : Option (Cty × Nat)) : Prop :=
  (∀ c' j, r = some (c', j + 1) → isC n tx 59 j → ∀ nf nw nt so nh sl n1 n2 nb no, CtM c' nf nw nt so nh n1 n2 nb no sl → (∀ k, k < 385 → sl k = slot0 k) → Q nf nw nt (nI j) 0 so nh sl n1 n2 nb no) ∧
  (r = none → (∀ a nf nw nt so nh sl n1 n2 nb no, (∀ k, k < 385 → sl k = slot0 k) → Q nf nw nt a 1 so nh sl n1 n2 nb no) ∧ ∀ j nf nw nt so nh sl n1 n2 nb no, j ≤ 1000 → ¬ isC n tx 59 j → (∀ k, k < 385 → sl k = slot0 k) → Q nf nw nt (nI j) 0 so nh sl n1 n2 nb no)
theorem InR_v {v N : Nat} (hN : N < 2 ^ 31) (hv : v < 2 ^ 31) : InR (nI v) 0 (nI N) ↔ v ≤ N := by
  refine ⟨fun z => (nI_leI hv hN).mp z.2, fun z => ⟨nI_pos' hv, nI_le z hN⟩⟩
def itF (n : Nat) (tx : Nat → Nat) (c : Cty) (i : Nat) : Option (Cty × Nat) := match num3P n tx i with
  | none => none
  | some (v0, v1, v2, j) => match famP c v0 v1 v2 with
    | none => none
    | some c' => some (c', j)
def itW (n : Nat) (tx : Nat → Nat) (c : Cty) (i : Nat) : Option (Cty × Nat) := match num2P n tx i with
  | none => none
  | some (v0, v1, j) => match walP c v0 v1 with
    | none => none
    | some c' => some (c', j)
def itT (n : Nat) (tx : Nat → Nat) (c : Cty) (i : Nat) : Option (Cty × Nat) := match num2P n tx i with
  | none => none
  | some (v0, v1, j) => match treP c v0 v1 with
    | none => none
    | some c' => some (c', j)
theorem itemP_it {n i : Nat} {tx : Nat → Nat} {c : Cty} : itemP n tx c i = if isC n tx 102 i then itF n tx c (i + 1) else if isC n tx 119 i then itW n tx c (i + 1) else if isC n tx 116 i then itT n tx c (i + 1) else none := rfl
theorem itF_0 {n i : Nat} {tx : Nat → Nat} {c : Cty} (h : ∀ v0 j0 v1 j1 v2 j2, fldP n tx 44 i = some (v0, j0) → fldP n tx 44 j0 = some (v1, j1) → fldP n tx 59 j1 = some (v2, j2) → famP c v0 v1 v2 = none) : itF n tx c i = none := by
  unfold itF num3P
  cases e0 : fldP n tx 44 i with
  | none => rfl
  | some p0 =>
    obtain ⟨v0, j0⟩ := p0
    dsimp only
    cases e1 : fldP n tx 44 j0 with
    | none => rfl
    | some p1 =>
      obtain ⟨v1, j1⟩ := p1
      dsimp only
      cases e2 : fldP n tx 59 j1 with
      | none => rfl
      | some p2 =>
        obtain ⟨v2, j2⟩ := p2
        dsimp only
        rw [h v0 j0 v1 j1 v2 j2 e0 e1 e2]
theorem itF_1 {n i v0 j0 v1 j1 v2 j2 : Nat} {tx : Nat → Nat} {c c' : Cty} (e0 : fldP n tx 44 i = some (v0, j0)) (e1 : fldP n tx 44 j0 = some (v1, j1)) (e2 : fldP n tx 59 j1 = some (v2, j2)) (e : famP c v0 v1 v2 = some c') : itF n tx c i = some (c', j2) := by
  unfold itF num3P
  rw [e0]; dsimp only; rw [e1]; dsimp only; rw [e2]; dsimp only; rw [e]
theorem famP_no {c : Cty} {v0 v1 v2 : Nat} (h : ¬ (c.1 < 6 ∧ v0 ≤ 4 ∧ v1 ≤ 12)) : famP c v0 v1 v2 = none := by
  obtain ⟨F, W, T, kd, hr, ld, A, B, tw, tp⟩ := c
  exact if_neg h
theorem itemF_M {n i : Nat} {tx : Nat → Nat} {c : Cty} {slot0 : Nat → Int32} {Q : QM} (h : TxR n tx ml mtx) (hi : i ≤ 250) (hV : CtyV c) (hc : CtM c nf nw nt so nh n1 n2 nb no slot) (hs : ∀ k, k < 385 → slot k = slot0 k) (hQ : QOk n tx slot0 Q (itF n tx c i)) {y1 : Int32} (hy : (y1 = 0 ∧ c.1 < 6) ∨ (y1 = 1 ∧ c.1 = 6)) : P_X9_item_b21 ml mtx Q y1 nf nw nt (nI i) 0 so nh slot n1 n2 nb no := by
  obtain ⟨hQ1, hQ0⟩ := hQ
  have hn := h.1
  unfold P_X9_item_b21
  rcases hy with ⟨rfl, hF⟩ | ⟨rfl, hF⟩
  · refine ⟨zb0, fun _ => ?_, fun z => absurd rfl z⟩
    unfold P_X9_item_b41 P_X9_item_b77
    have bad : (∀ v0 j0 v1 j1 v2 j2, fldP n tx 44 i = some (v0, j0) → fldP n tx 44 j0 = some (v1, j1) → fldP n tx 59 j1 = some (v2, j2) → famP c v0 v1 v2 = none) → ∀ (P : Prop) a, (¬ (1 : Int32) = 0 → Q nf nw nt a 1 so nh slot n1 n2 nb no) ∧ ((1 : Int32) = 0 → P) := fun hno P a => ⟨fun _ => (hQ0 (itF_0 hno)).1 _ _ _ _ _ _ _ _ _ _ _ hs, fun z => absurd z (by decide)⟩
    refine nm_M (x2 := 4) (y2 := 12) (post := fun r r' a' w' => P_X9_more 0 99 ml a' w' mtx (fun r54 a54 w54 => (¬ w54 = 0 → Q nf nw nt a54 w54 so nh slot n1 n2 nb no) ∧ (w54 = 0 → P_X9_lives 385 r r' r54 nf so nh slot (fun nf' so' nh' slot' => Q nf' nw nt a54 w54 so' nh' slot' n1 n2 nb no)))) h (by omega) (fun v0 j0 e0 r0 => ?_) (fun hno r a => more_w (bad (fun v0 j0 v1 j1 v2 j2 e0 e1 e2 => famP_no (fun z => hno v0 j0 e0 ((InR_v (N := 4) (by omega) (by omega)).mpr z.2.1))) _ _))
    have l0 := fldP_lt h e0
    have q0 := (InR_v (N := 4) (by omega) (by omega)).mp r0
    refine nm_M (x2 := 12) (y2 := 99) (post := fun r' r54 a54 w54 => (¬ w54 = 0 → Q nf nw nt a54 w54 so nh slot n1 n2 nb no) ∧ (w54 = 0 → P_X9_lives 385 (nI v0) r' r54 nf so nh slot (fun nf' so' nh' slot' => Q nf' nw nt a54 w54 so' nh' slot' n1 n2 nb no))) h (by omega) (fun v1 j1 e1 r1 => ?_) (fun hno r a => bad (fun v0' j0' v1 j1 v2 j2 e0' e1 e2 => famP_no (fun z => ?_)) _ _)
    · have l1 := fldP_lt h e1
      have q1 := (InR_v (N := 12) (by omega) (by omega)).mp r1
      obtain ⟨F, W, T, kd, hr, ld, A, B, tw, tp⟩ := c
      obtain ⟨g1, g2, g3, g4, g5, g6⟩ := hV
      obtain ⟨c1, c2, c3, c4, c5, c6, c7⟩ := hc
      have hF : F < 6 := hF
      have lv : ∀ v2 (P : Int32 → (Nat → Int32) → (Nat → Int32) → (Nat → Int32) → Prop), P (nI (F + 1)) (upd so F (nI v0)) (upd nh F (nI v1)) (upd slot (385 + F) (nI v2)) → P_X9_lives 385 (nI v0) (nI v1) (nI v2) nf so nh slot P := by
        intro v2 P hP
        unfold P_X9_lives
        have e385 : (385 : Int32) + nI F = nI (385 + F) := by rw [show (385 : Int32) = nI 385 from rfl, na]
        rw [c1, e385, nI_1, cl (by omega), cl (by omega)]
        exact ⟨ni_out (by omega) (by omega), ni_out (by omega) (by omega), ni_out (by omega) (by omega), hP⟩
      refine last_M h (by omega) (fun v2 j2 e2 hc59 r2 => ⟨fun z => absurd rfl z, fun _ => lv v2 _ ?_⟩) (fun e2 v2 j2 hj2 r2 hc59 => ⟨fun z => absurd rfl z, fun _ => ?_⟩) (fun hno a => bad (fun v0' j0' v1' j1' v2 j2 e0' e1' e2 => ?_) _ _)
      · have l2 := fldP_lt h e2
        have ef : famP (F, W, T, kd, hr, ld, A, B, tw, tp) v0 v1 v2 = some (F + 1, W, T, va_up kd F v0, va_up hr F v1, va_up ld F v2, A, B, tw, tp) := if_pos ⟨hF, q0, q1⟩
        refine hQ1 _ j2 (itF_1 e0 e1 e2 ef) hc59 _ _ _ _ _ _ _ _ _ _ ⟨rfl, c2, c3, c4, fun f hf => ?_, c6, fun k hk1 hk2 => by rw [pk_un (by omega)]; exact c7 k hk1 hk2⟩ (fun k hk => by rw [pk_un (by omega)]; exact hs k hk)
        simp only [va_up]
        by_cases ef2 : f = F
        · subst ef2; rw [pk_us, pk_us, pk_us, if_pos rfl, if_pos rfl, if_pos rfl]; exact ⟨rfl, rfl, rfl⟩
        · rw [pk_un ef2, pk_un ef2, pk_un (by omega), if_neg ef2, if_neg ef2, if_neg ef2]; exact c5 f (by omega)
      · refine lv v2 _ ?_
        refine (hQ0 (itF_0 (fun v0' j0' v1' j1' v2' j2' e0' e1' e2' => ?_))).2 j2 _ _ _ _ _ _ _ _ _ _ (by omega) hc59 (fun k hk => by rw [pk_un (by omega)]; exact hs k hk)
        rw [e0] at e0'
        have x0 := (Prod.mk.inj (Option.some.inj e0')).2
        rw [← x0, e1] at e1'
        have x1 := (Prod.mk.inj (Option.some.inj e1')).2
        rw [← x1, e2] at e2'
        cases e2'
      · have l2 := fldP_lt h e2
        rw [e0] at e0'
        have x0 := (Prod.mk.inj (Option.some.inj e0')).2
        rw [← x0, e1] at e1'
        have x1 := (Prod.mk.inj (Option.some.inj e1')).2
        rw [← x1] at e2
        exact absurd ((InR_v (N := 99) (by omega) (by omega)).mpr l2.1) (hno v2 j2 e2)
    · rw [e0] at e0'
      have x0 := (Prod.mk.inj (Option.some.inj e0')).2
      rw [← x0] at e1
      exact hno v1 j1 e1 ((InR_v (N := 12) (by omega) (by omega)).mpr z.2.2)
  · refine ⟨zb1, fun z => absurd z (by decide), fun _ => ?_⟩
    unfold P_X9_item_b41 P_X9_item_b77
    refine more_w (more_w ⟨fun _ => (hQ0 (itF_0 (fun v0 j0 v1 j1 v2 j2 e0 e1 e2 => famP_no (fun z => by omega)))).1 _ _ _ _ _ _ _ _ _ _ _ hs, fun z => absurd z (by decide)⟩)
end

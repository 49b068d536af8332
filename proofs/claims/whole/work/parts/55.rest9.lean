section
variable {xl : Int32} {xt : Nat → Int32} {cf cw ct : Int32} {ck ch co ctw ctp : Nat → Int32} {nd ns : Int32} {nl np nsh : Nat → Int32} {us : Int32} {p8 : Nat → SVt} {ks : Int32} {p2 : Nat → SVt} {zs : Int32} {zw zp zd : Nat → Int32}
variable {mf mw mt : Int32} {msort mh mfi mse mby moff slot : Nat → Int32} {acts keeps ml : Int32} {mtx : Nat → Int32} {seens : Int32} {sw sp st : Nat → Int32} {idl : Int32}
variable {nf nw nt : Int32} {so nh n1 n2 nb no : Nat → Int32}
/-! the reference reads walls, trees, the whole text -/
theorem CtM_n {c : Cty} (hc : CtM c nf nw nt so nh n1 n2 nb no slot) : nf = nI c.1 ∧ nw = nI c.2.1 ∧ nt = nI c.2.2.1 := by
  obtain ⟨F, W, T, kd, hr, ld, A, B, tw, tp⟩ := c
  exact ⟨hc.1, hc.2.1, hc.2.2.1⟩
theorem CtyV_n {c : Cty} (h : CtyV c) : c.1 ≤ 6 ∧ c.2.1 ≤ 8 ∧ c.2.2.1 ≤ 6 := by
  obtain ⟨F, W, T, kd, hr, ld, A, B, tw, tp⟩ := c
  exact ⟨h.1, h.2.1, h.2.2.1⟩
theorem itW_0 {n i : Nat} {tx : Nat → Nat} {c : Cty} (h : ∀ v0 j0 v1 j1, fldP n tx 44 i = some (v0, j0) → fldP n tx 59 j0 = some (v1, j1) → walP c v0 v1 = none) : itW n tx c i = none := by
  unfold itW num2P
  cases e0 : fldP n tx 44 i with
  | none => rfl
  | some p0 =>
    obtain ⟨v0, j0⟩ := p0
    dsimp only
    cases e1 : fldP n tx 59 j0 with
    | none => rfl
    | some p1 =>
      obtain ⟨v1, j1⟩ := p1
      dsimp only
      rw [h v0 j0 v1 j1 e0 e1]
theorem itW_1 {n i v0 j0 v1 j1 : Nat} {tx : Nat → Nat} {c c' : Cty} (e0 : fldP n tx 44 i = some (v0, j0)) (e1 : fldP n tx 59 j0 = some (v1, j1)) (e : walP c v0 v1 = some c') : itW n tx c i = some (c', j1) := by
  unfold itW num2P
  rw [e0]; dsimp only; rw [e1]; dsimp only; rw [e]
theorem itT_0 {n i : Nat} {tx : Nat → Nat} {c : Cty} (h : ∀ v0 j0 v1 j1, fldP n tx 44 i = some (v0, j0) → fldP n tx 59 j0 = some (v1, j1) → treP c v0 v1 = none) : itT n tx c i = none := by
  unfold itT num2P
  cases e0 : fldP n tx 44 i with
  | none => rfl
  | some p0 =>
    obtain ⟨v0, j0⟩ := p0
    dsimp only
    cases e1 : fldP n tx 59 j0 with
    | none => rfl
    | some p1 =>
      obtain ⟨v1, j1⟩ := p1
      dsimp only
      rw [h v0 j0 v1 j1 e0 e1]
theorem itT_1 {n i v0 j0 v1 j1 : Nat} {tx : Nat → Nat} {c c' : Cty} (e0 : fldP n tx 44 i = some (v0, j0)) (e1 : fldP n tx 59 j0 = some (v1, j1)) (e : treP c v0 v1 = some c') : itT n tx c i = some (c', j1) := by
  unfold itT num2P
  rw [e0]; dsimp only; rw [e1]; dsimp only; rw [e]
theorem walP_no {c : Cty} {v0 v1 : Nat} (h : ¬ (c.2.1 < 8 ∧ v0 < c.1 ∧ v1 < c.1)) : walP c v0 v1 = none := by
  obtain ⟨F, W, T, kd, hr, ld, A, B, tw, tp⟩ := c
  exact if_neg (fun z => h ⟨z.1, z.2.1, z.2.2.1⟩)
theorem treP_no {c : Cty} {v0 v1 : Nat} (h : ¬ (c.2.2.1 < 6 ∧ v0 < c.2.1 ∧ v1 ≤ 40)) : treP c v0 v1 = none := by
  obtain ⟨F, W, T, kd, hr, ld, A, B, tw, tp⟩ := c
  exact if_neg h
theorem wal_M {c : Cty} {v0 v1 : Nat} {a : Int32} {Q : QM} (hV : CtyV c) (hc : CtM c nf nw nt so nh n1 n2 nb no slot) (hv0 : v0 < c.1) (hv1 : v1 < c.1) (hW : c.2.1 < 8)
    (bad : walP c v0 v1 = none → P_X9_item_b170 ml mtx Q (nI v0) (nI v1) nf nw nt a 0 so nh slot n1 n2 nb no)
    (good : ∀ c', walP c v0 v1 = some c' → ∀ nw' n1' n2', CtM c' nf nw' nt so nh n1' n2' nb no slot → Q nf nw' nt a 0 so nh slot n1' n2' nb no) :
    (nI v0 = nI v1 → P_X9_item_b170 ml mtx Q (nI v0) (nI v1) nf nw nt a 0 so nh slot n1 n2 nb no) ∧ (¬ nI v0 = nI v1 → P_X9_manyTold (nI v0) nw n1 n2 (fun r154 => (r154 = 4 → P_X9_item_b170 ml mtx Q (nI v0) (nI v1) nf nw nt a 0 so nh slot n1 n2 nb no) ∧ (¬ r154 = 4 → P_X9_manyTold (nI v1) nw n1 n2 (fun r163 => (¬ r163 = 4 → P_X9_item_b175 ml mtx Q (nI v0) (nI v1) 0 nf nw nt a 0 so nh slot n1 n2 nb no) ∧ (r163 = 4 → P_X9_item_b170 ml mtx Q (nI v0) (nI v1) nf nw nt a 0 so nh slot n1 n2 nb no))))) := by
  obtain ⟨F, W, T, kd, hr, ld, A, B, tw, tp⟩ := c
  obtain ⟨g1, g2, g3, g4, g5, g6⟩ := hV
  obtain ⟨c1, c2, c3, c4, c5, c6, c7⟩ := hc
  have hv0 : v0 < F := hv0
  have hv1 : v1 < F := hv1
  have hW : W < 8 := hW
  unfold walP at bad good
  dsimp only at bad good
  have hVo : OwV F W A B := ⟨g1, by omega, g4⟩
  have hO : OwM W A B nw n1 n2 := ⟨c2, c4⟩
  have k0 := (g5 v0 hv0).2.2.2
  have k1 := (g5 v1 hv1).2.2.2
  have nq : ¬ (W < 8 ∧ v0 < F ∧ v1 < F ∧ v0 ≠ v1 ∧ cnt A B v0 W < 4 ∧ cnt A B v1 W < 4) → P_X9_item_b170 ml mtx Q (nI v0) (nI v1) nf nw nt a 0 so nh slot n1 n2 nb no := fun z => bad (if_neg z)
  refine ⟨fun q => nq (fun z => z.2.2.2.1 ((nI_eq (by omega) (by omega)).mp q)), fun q => ?_⟩
  refine manyTold_M hVo hO hv0 ⟨fun r => nq (fun z => ?_), fun r => ?_⟩
  · have := (nI_eq (a := cnt A B v0 W) (b := 4) (by omega) (by omega)).mp r
    omega
  · have r' : ¬ cnt A B v0 W = 4 := fun z => r (by rw [z]; rfl)
    refine manyTold_M hVo hO hv1 ⟨fun u => ?_, fun u => nq (fun z => ?_)⟩
    · have u' : ¬ cnt A B v1 W = 4 := fun z => u (by rw [z]; rfl)
      have q' : v0 ≠ v1 := fun z => q (by rw [z])
      unfold P_X9_item_b175 P_X9_stands P_X9_item_b191
      refine ⟨zb0, fun z => absurd rfl z, fun _ => ?_⟩
      rw [c2, nI_1, cl (by omega)]
      refine ⟨ni_out (by omega) (by omega), ni_out (by omega) (by omega), ?_⟩
      refine good _ (if_pos ⟨hW, hv0, hv1, q', by omega, by omega⟩) _ _ _ ⟨c1, rfl, c3, fun w hw => ?_, c5, c6, c7⟩
      simp only [va_up]
      by_cases ew : w = W
      · subst ew; rw [pk_us, pk_us, if_pos rfl, if_pos rfl]; exact ⟨rfl, rfl⟩
      · rw [pk_un ew, pk_un ew, if_neg ew, if_neg ew]; exact c4 w (by omega)
    · have := (nI_eq (a := cnt A B v1 W) (b := 4) (by omega) (by omega)).mp u
      omega
theorem itemW_M {n i : Nat} {tx : Nat → Nat} {c : Cty} {slot0 : Nat → Int32} {Q : QM} (h : TxR n tx ml mtx) (hi : i ≤ 250) (hV : CtyV c) (hc : CtM c nf nw nt so nh n1 n2 nb no slot) (hs : ∀ k, k < 385 → slot k = slot0 k) (hQ : QOk n tx slot0 Q (itW n tx c i)) {y1 : Int32} (hy : (y1 = 0 ∧ c.2.1 < 8) ∨ (y1 = 1 ∧ c.2.1 = 8)) : P_X9_item_b101 ml mtx Q y1 nf nw nt (nI i) 0 so nh slot n1 n2 nb no := by
  obtain ⟨hQ1, hQ0⟩ := hQ
  have hn := h.1
  obtain ⟨b1, b2, b3⟩ := CtyV_n hV
  obtain ⟨d1, d2, d3⟩ := CtM_n hc
  have bad : itW n tx c i = none → ∀ x y a w, P_X9_item_b170 ml mtx Q x y nf nw nt a w so nh slot n1 n2 nb no := fun e x y a w => by
    unfold P_X9_item_b170 P_X9_item_b175 P_X9_item_b191
    exact ⟨zb1, fun _ => (hQ0 e).1 _ _ _ _ _ _ _ _ _ _ _ hs, fun z => absurd z (by decide)⟩
  unfold P_X9_item_b101
  rcases hy with ⟨rfl, hW⟩ | ⟨rfl, hW⟩
  · refine ⟨zb0, fun _ => ?_, fun z => absurd rfl z⟩
    unfold P_X9_item_b126
    have key := nm_M (x2 := nf - 1) (y2 := nf - 1) (post := fun r r' a' w' => (¬ w' = 0 → P_X9_item_b170 ml mtx Q r r' nf nw nt a' w' so nh slot n1 n2 nb no) ∧ (w' = 0 → (r = r' → P_X9_item_b170 ml mtx Q r r' nf nw nt a' w' so nh slot n1 n2 nb no) ∧ (¬ r = r' → P_X9_manyTold r nw n1 n2 (fun r154 => (r154 = 4 → P_X9_item_b170 ml mtx Q r r' nf nw nt a' w' so nh slot n1 n2 nb no) ∧ (¬ r154 = 4 → P_X9_manyTold r' nw n1 n2 (fun r163 => (¬ r163 = 4 → P_X9_item_b175 ml mtx Q r r' 0 nf nw nt a' w' so nh slot n1 n2 nb no) ∧ (r163 = 4 → P_X9_item_b170 ml mtx Q r r' nf nw nt a' w' so nh slot n1 n2 nb no))))))) h (i := i) (by omega)
    refine key (fun v0 j0 e0 r0 => ?_) (fun hno r a => ⟨fun _ => bad (itW_0 (fun v0 j0 v1 j1 e0 e1 => walP_no (fun z => hno v0 j0 e0 ?_))) _ _ _ _, fun z => absurd z (by decide)⟩)
    · have l0 := fldP_lt h e0
      have q0 : v0 < c.1 := by rw [d1] at r0; exact (vInR l0.1 (by omega)).mp r0
      refine last_M (x2 := nf - 1) h (by omega) (fun v1 j1 e1 hc59 r1 => ⟨fun z => absurd rfl z, fun _ => ?_⟩) (fun e1 v1 j1 hj1 r1 hc59 => ⟨fun z => absurd rfl z, fun _ => ?_⟩) (fun hno a => ⟨fun _ => bad (itW_0 (fun v0' j0' v1 j1 e0' e1 => walP_no (fun z => ?_))) _ _ _ _, fun z => absurd z (by decide)⟩)
      · have l1 := fldP_lt h e1
        have q1 : v1 < c.1 := by rw [d1] at r1; exact (vInR l1.1 (by omega)).mp r1
        refine wal_M hV hc q0 q1 hW (fun e => bad (itW_0 (fun v0' j0' v1' j1' e0' e1' => ?_)) _ _ _ _) (fun c' e nw' n1' n2' hc' => hQ1 c' j1 (itW_1 e0 e1 e) hc59 _ _ _ _ _ _ _ _ _ _ hc' hs)
        rw [e0] at e0'
        have x0 := Prod.mk.inj (Option.some.inj e0')
        rw [← x0.2, e1] at e1'
        have x1 := Prod.mk.inj (Option.some.inj e1')
        rw [← x0.1, ← x1.1]
        exact e
      · have none' : itW n tx c i = none := itW_0 (fun v0' j0' v1' j1' e0' e1' => by
          rw [e0] at e0'
          have x0 := Prod.mk.inj (Option.some.inj e0')
          rw [← x0.2, e1] at e1'
          cases e1')
        obtain ⟨k, hk, ek⟩ := InR_n (N := c.1) (by omega) (by rw [d1] at r1; exact r1)
        rw [ek]
        exact wal_M hV hc q0 hk hW (fun _ => bad none' _ _ _ _) (fun c' e nw' n1' n2' hc' => (hQ0 none').2 j1 _ _ _ _ _ _ _ _ _ _ (by omega) hc59 hs)
      · rw [e0] at e0'
        have x0 := Prod.mk.inj (Option.some.inj e0')
        rw [← x0.2] at e1
        have l1 := fldP_lt h e1
        refine hno v1 j1 e1 ?_
        rw [d1]
        exact (vInR l1.1 (by omega)).mpr z.2.2
    · rw [d1]
      exact (vInR (fldP_lt h e0).1 (by omega)).mpr z.2.1
  · refine ⟨zb1, fun z => absurd z (by decide), fun _ => ?_⟩
    unfold P_X9_item_b126
    refine more_w ⟨fun _ => bad (itW_0 (fun v0 j0 v1 j1 e0 e1 => walP_no (fun z => by omega))) _ _ _ _, fun z => absurd z (by decide)⟩
theorem itemT_M {n i : Nat} {tx : Nat → Nat} {c : Cty} {slot0 : Nat → Int32} {Q : QM} (h : TxR n tx ml mtx) (hi : i ≤ 250) (hV : CtyV c) (hc : CtM c nf nw nt so nh n1 n2 nb no slot) (hs : ∀ k, k < 385 → slot k = slot0 k) (hQ : QOk n tx slot0 Q (itT n tx c i)) {y1 : Int32} (hy : (y1 = 0 ∧ c.2.2.1 < 6) ∨ (y1 = 1 ∧ c.2.2.1 = 6)) : P_X9_item_b215 ml mtx Q y1 nf nw nt (nI i) 0 so nh slot n1 n2 nb no := by
  obtain ⟨hQ1, hQ0⟩ := hQ
  have hn := h.1
  obtain ⟨b1, b2, b3⟩ := CtyV_n hV
  obtain ⟨d1, d2, d3⟩ := CtM_n hc
  have gr : c.2.2.1 < 6 → ∀ v0 v1 (P : Int32 → (Nat → Int32) → (Nat → Int32) → Prop), P (nI (c.2.2.1 + 1)) (upd nb c.2.2.1 (nI v0)) (upd no c.2.2.1 (nI v1 - 20)) → P_X9_grows (nI v0) (nI v1) nt nb no P := by
    intro hT v0 v1 P hP
    unfold P_X9_grows
    rw [d3, nI_1, cl (by omega)]
    exact ⟨ni_out (by omega) (by omega), ni_out (by omega) (by omega), hP⟩
  unfold P_X9_item_b215
  rcases hy with ⟨rfl, hT⟩ | ⟨rfl, hT⟩
  · refine ⟨zb0, fun _ => ?_, fun z => absurd rfl z⟩
    unfold P_X9_item_b240 P_X9_item_b262
    have key := nm_M (x2 := nw - 1) (y2 := 40) (post := fun r r' a' w' => (¬ w' = 0 → Q nf nw nt a' w' so nh slot n1 n2 nb no) ∧ (w' = 0 → P_X9_grows r r' nt nb no (fun nt' nb' no' => Q nf nw nt' a' w' so nh slot n1 n2 nb' no'))) h (i := i) (by omega)
    refine key (fun v0 j0 e0 r0 => ?_) (fun hno r a => ⟨fun _ => (hQ0 (itT_0 (fun v0 j0 v1 j1 e0 e1 => treP_no (fun z => hno v0 j0 e0 ?_)))).1 _ _ _ _ _ _ _ _ _ _ _ hs, fun z => absurd z (by decide)⟩)
    · have l0 := fldP_lt h e0
      have q0 : v0 < c.2.1 := by rw [d2] at r0; exact (vInR l0.1 (by omega)).mp r0
      refine last_M (x2 := 40) h (by omega) (fun v1 j1 e1 hc59 r1 => ⟨fun z => absurd rfl z, fun _ => gr hT _ _ _ ?_⟩) (fun e1 v1 j1 hj1 r1 hc59 => ⟨fun z => absurd rfl z, fun _ => gr hT _ _ _ ?_⟩) (fun hno a => ⟨fun _ => (hQ0 (itT_0 (fun v0' j0' v1 j1 e0' e1 => treP_no (fun z => ?_)))).1 _ _ _ _ _ _ _ _ _ _ _ hs, fun z => absurd z (by decide)⟩)
      · have l1 := fldP_lt h e1
        have q1 : v1 ≤ 40 := (InR_v (N := 40) (by omega) (by omega)).mp r1
        obtain ⟨F, W, T, kd, hr, ld, A, B, tw, tp⟩ := c
        obtain ⟨c1, c2, c3, c4, c5, c6, c7⟩ := hc
        have et : treP (F, W, T, kd, hr, ld, A, B, tw, tp) v0 v1 = some (F, W, T + 1, kd, hr, ld, A, B, va_up tw T v0, va_up tp T (nI v1 - 20)) := if_pos ⟨hT, q0, q1⟩
        refine hQ1 _ j1 (itT_1 e0 e1 et) hc59 _ _ _ _ _ _ _ _ _ _ ⟨c1, c2, rfl, c4, c5, fun t ht => ?_, c7⟩ hs
        simp only [va_up]
        by_cases ew : t = T
        · subst ew; rw [pk_us, pk_us, if_pos rfl, if_pos rfl]; exact ⟨rfl, rfl⟩
        · rw [pk_un ew, pk_un ew, if_neg ew, if_neg ew]; exact c6 t (by omega)
      · refine (hQ0 (itT_0 (fun v0' j0' v1' j1' e0' e1' => ?_))).2 j1 _ _ _ _ _ _ _ _ _ _ (by omega) hc59 hs
        rw [e0] at e0'
        have x0 := Prod.mk.inj (Option.some.inj e0')
        rw [← x0.2, e1] at e1'
        cases e1'
      · rw [e0] at e0'
        have x0 := Prod.mk.inj (Option.some.inj e0')
        rw [← x0.2] at e1
        have l1 := fldP_lt h e1
        exact hno v1 j1 e1 ((InR_v (N := 40) (by omega) (by omega)).mpr z.2.2)
    · rw [d2]
      exact (vInR (fldP_lt h e0).1 (by omega)).mpr z.2.1
  · refine ⟨zb1, fun z => absurd z (by decide), fun _ => ?_⟩
    unfold P_X9_item_b240 P_X9_item_b262
    refine more_w ⟨fun _ => (hQ0 (itT_0 (fun v0 j0 v1 j1 e0 e1 => treP_no (fun z => by omega)))).1 _ _ _ _ _ _ _ _ _ _ _ hs, fun z => absurd z (by decide)⟩
theorem item_M {n i : Nat} {tx : Nat → Nat} {c : Cty} {slot0 : Nat → Int32} {Q : QM} (h : TxR n tx ml mtx) (hi : i < n) (hV : CtyV c) (hc : CtM c nf nw nt so nh n1 n2 nb no slot) (hs : ∀ k, k < 385 → slot k = slot0 k) (hQ : QOk n tx slot0 Q (itemP n tx c i)) : P_X9_item (chr n tx i) nf nw nt ml (nI (i + 1)) 0 mtx so nh slot n1 n2 nb no Q := by
  have hn := h.1
  obtain ⟨b1, b2, b3⟩ := CtyV_n hV
  obtain ⟨d1, d2, d3⟩ := CtM_n hc
  have k1 : chr n tx i = 102 ↔ isC n tx 102 i := chr_c (d := 102) h (by omega) i
  have k2 : chr n tx i = 116 ↔ isC n tx 116 i := chr_c (d := 116) h (by omega) i
  have k3 : chr n tx i = 119 ↔ isC n tx 119 i := chr_c (d := 119) h (by omega) i
  rw [itemP_it] at hQ
  unfold P_X9_item
  rw [k1, k2, k3]
  refine ⟨fun q => ⟨fun r => ⟨fun u => ?_, fun u => ?_⟩, fun r => ?_⟩, fun q => ?_⟩
  · rw [if_neg q, if_neg r, if_neg u] at hQ
    exact (hQ.2 rfl).1 _ _ _ _ _ _ _ _ _ _ _ hs
  · rw [if_neg q, if_neg r, if_pos u] at hQ
    refine ⟨fun z => itemT_M h (by omega) hV hc hs hQ (Or.inl ⟨rfl, ?_⟩), fun z => itemT_M h (by omega) hV hc hs hQ (Or.inr ⟨rfl, ?_⟩)⟩
    · have : ¬ c.2.2.1 = 6 := fun e => z (by rw [d3, e]; rfl)
      omega
    · rw [d3] at z
      exact (nI_eq (a := c.2.2.1) (b := 6) (by omega) (by omega)).mp z
  · rw [if_neg q, if_pos r] at hQ
    refine ⟨fun z => itemW_M h (by omega) hV hc hs hQ (Or.inl ⟨rfl, ?_⟩), fun z => itemW_M h (by omega) hV hc hs hQ (Or.inr ⟨rfl, ?_⟩)⟩
    · have : ¬ c.2.1 = 8 := fun e => z (by rw [d2, e]; rfl)
      omega
    · rw [d2] at z
      exact (nI_eq (a := c.2.1) (b := 8) (by omega) (by omega)).mp z
  · rw [if_pos q] at hQ
    refine ⟨fun z => itemF_M h (by omega) hV hc hs hQ (Or.inl ⟨rfl, ?_⟩), fun z => itemF_M h (by omega) hV hc hs hQ (Or.inr ⟨rfl, ?_⟩)⟩
    · have : ¬ c.1 = 6 := fun e => z (by rw [d1, e]; rfl)
      omega
    · rw [d1] at z
      exact (nI_eq (a := c.1) (b := 6) (by omega) (by omega)).mp z
theorem reads_M {n : Nat} {tx : Nat → Nat} {a0 bg0 w0 : Int32} {post : Int32 → Int32 → Int32 → Int32 → Int32 → Int32 → Int32 → (Nat → Int32) → (Nat → Int32) → (Nat → Int32) → (Nat → Int32) → (Nat → Int32) → (Nat → Int32) → (Nat → Int32) → Prop} (h : TxR n tx ml mtx)
    (h1 : ∀ b c', parP n tx 201 cty0 0 = (some b, c') → ∀ nf' nw' nt' a' w' sl' so' nh' n1' n2' nb' no', (∀ k, k < 385 → sl' k = slot k) → post 0 nf' nw' nt' a' (nI b) w' sl' so' nh' n1' n2' nb' no')
    (h0 : ∀ c', parP n tx 201 cty0 0 = (none, c') → CtyV c' → ∀ nf' nw' nt' a' b' w' sl' so' nh' n1' n2' nb' no', CtM c' nf' nw' nt' so' nh' n1' n2' nb' no' sl' → (∀ k, k < 385 → sl' k = slot k) → post 1 nf' nw' nt' a' b' w' sl' so' nh' n1' n2' nb' no') : P_X9_reads nf nw nt ml a0 bg0 w0 slot mtx so nh n1 n2 nb no post := by
  have hn := h.1
  have hml := h.2.1
  generalize hR : parP n tx 201 cty0 0 = R at h1 h0
  have wrong : ∀ g nf nw nt a b sl so nh n1 n2 nb no, post 0 nf nw nt a b 1 sl so nh n1 n2 nb no → P_X9_reads_L50 ml mtx post (g + 1) nf nw nt a b 1 sl so nh n1 n2 nb no := by
    intro g nf nw nt a b sl so nh n1 n2 nb no hp
    rw [P_X9_reads_L50]
    unfold P_X9_reads_b134
    exact ⟨fun _ => ⟨fun _ => hp, fun z => absurd z (by decide)⟩, fun _ => ⟨fun _ => ⟨fun _ => hp, fun z => absurd z (by decide)⟩, fun z => absurd z (by decide)⟩⟩
  have key : ∀ k i c nf nw nt bg sl so nh n1 n2 nb no, n ≤ i + k → i ≤ 200 → CtyV c → CtM c nf nw nt so nh n1 n2 nb no sl → (∀ j, j < 385 → sl j = slot j) → parP n tx (k + 1) c i = R → P_X9_reads_L50 ml mtx post (k + 2) nf nw nt (nI i) bg 0 sl so nh n1 n2 nb no := by
    intro k
    induction k with
    | zero =>
      intro i c nf nw nt bg sl so nh n1 n2 nb no hk hi hV hc hs hp
      rw [P_X9_reads_L50]
      rw [parP, if_pos (by omega)] at hp
      refine ⟨fun _ => ?_, fun q => absurd (by rw [hml]; exact nI_le (by omega) (by omega)) q⟩
      unfold P_X9_reads_b134
      exact ⟨fun z => absurd rfl z, fun _ => h0 c hp.symm hV _ _ _ _ _ _ _ _ _ _ _ _ _ hc hs⟩
    | succ k ih =>
      intro i c nf nw nt bg sl so nh n1 n2 nb no hk hi hV hc hs hp
      rw [P_X9_reads_L50]
      by_cases q : n ≤ i
      · rw [parP, if_pos q] at hp
        refine ⟨fun _ => ?_, fun z => absurd (by rw [hml]; exact nI_le (by omega) (by omega)) z⟩
        unfold P_X9_reads_b134
        exact ⟨fun z => absurd rfl z, fun _ => h0 c hp.symm hV _ _ _ _ _ _ _ _ _ _ _ _ _ hc hs⟩
      · rw [parP, if_neg q] at hp
        refine ⟨fun z => absurd z (by rw [hml]; exact nI_ge (by omega) (by omega)), fun _ => ⟨fun z => absurd rfl z, fun _ => ?_⟩⟩
        refine next_M h (by omega) ?_
        rw [nI_1]
        refine item_M h (by omega) hV hc (slot0 := slot) hs ⟨fun c' j e hc59 nf' nw' nt' so' nh' sl' n1' n2' nb' no' hc' hs' => ?_, fun e => ⟨fun a nf' nw' nt' so' nh' sl' n1' n2' nb' no' hs' => ?_, fun j nf' nw' nt' so' nh' sl' n1' n2' nb' no' hj hc59 hs' => ?_⟩⟩
        · have hh := itemP_V h hV e
          rw [e] at hp
          dsimp only at hp
          refine ⟨fun z => absurd rfl z, fun _ => ?_⟩
          refine next_M h (by omega) ?_
          rw [show (59 : Int32) = nI 59 from rfl, chr_c h (by omega)]
          refine ⟨fun _ => ?_, fun z => absurd hc59 z⟩
          unfold P_X9_reads_b118
          rw [nI_1]
          exact ⟨zb0, ih (j + 1) c' _ _ _ _ _ _ _ _ _ _ _ (by omega) (by omega) hh.1 hc' hs' hp⟩
        · rw [e] at hp
          refine ⟨fun _ => ?_, fun z => absurd z (by decide)⟩
          unfold P_X9_reads_b113 P_X9_reads_b118
          exact ⟨zb1, wrong _ _ _ _ _ _ _ _ _ _ _ _ _ (h1 i c hp.symm _ _ _ _ _ _ _ _ _ _ _ _ hs')⟩
        · rw [e] at hp
          refine ⟨fun z => absurd rfl z, fun _ => ?_⟩
          refine next_M h (by omega) ?_
          rw [show (59 : Int32) = nI 59 from rfl, chr_c h (by omega)]
          refine ⟨fun z => absurd z hc59, fun _ => ?_⟩
          unfold P_X9_reads_b113 P_X9_reads_b118
          exact ⟨zb1, wrong _ _ _ _ _ _ _ _ _ _ _ _ _ (h1 i c hp.symm _ _ _ _ _ _ _ _ _ _ _ _ hs')⟩
  have key17 : ∀ g x sl, x + g = 35 → (∀ k, k < 385 → sl k = slot k) → (∀ k, k < x → sl (385 + k) = 0) → P_X9_reads_L17 ml mtx post (g + 1) (nI x) 0 0 0 a0 bg0 w0 sl so nh n1 n2 nb no := by
    intro g
    induction g with
    | zero =>
      intro x sl hx h2 h3
      rw [P_X9_reads_L17]
      have e : x = 35 := by omega
      subst e
      exact ⟨fun _ => ⟨202, key 200 0 cty0 0 0 0 bg0 sl so nh n1 n2 nb no (by omega) (by omega) cty0_V ⟨rfl, rfl, rfl, fun w hw => by omega, fun f hf => by omega, fun t ht => by omega, fun k _ hk => h3 k hk⟩ h2 hR⟩, fun q => absurd (by decide) q⟩
    | succ g ih =>
      intro x sl hx h2 h3
      rw [P_X9_reads_L17]
      refine ⟨fun q => absurd q (by rw [show (35 : Int32) = nI 35 from rfl]; exact nI_ge (by omega) (by omega)), fun _ => ?_⟩
      rw [show (385 : Int32) = nI 385 from rfl, na, nI_1, cl (by omega)]
      refine ⟨ni_out (by omega) (by omega), ih (x + 1) _ (by omega) (fun k hk => ?_) (fun k hk => ?_)⟩
      · rw [pk_un (by omega)]; exact h2 k hk
      · by_cases e : k = x
        · subst e; rw [pk_us]
        · rw [pk_un (by omega)]; exact h3 k (by omega)
  unfold P_X9_reads
  exact ⟨36, key17 35 0 slot (by omega) (fun _ _ => rfl) (fun k hk => by omega)⟩
end

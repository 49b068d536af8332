section
variable {xl : Int32} {xt : Nat → Int32} {cf cw ct : Int32} {ck ch co ctw ctp : Nat → Int32} {nd ns : Int32} {nl np nsh : Nat → Int32} {us : Int32} {p8 : Nat → SVt} {ks : Int32} {p2 : Nat → SVt} {zs : Int32} {zw zp zd : Nat → Int32}
variable {mf mw mt : Int32} {msort mh mfi mse mby moff slot : Nat → Int32} {acts keeps ml : Int32} {mtx : Nat → Int32} {seens : Int32} {sw sp st : Nat → Int32} {idl : Int32}
variable {fd fs : Int32} {fl fp fsh fdi d1 d2 : Nat → Int32}
/-! what was seen -/
def SeV (W z : Nat) (gw gd : Nat → Nat) : Prop := z ≤ 6 ∧ ∀ i, i < z → gw i < W ∧ 1 ≤ gd i ∧ gd i ≤ 30
def SeC (z : Nat) (gw gd : Nat → Nat) (gp : Nat → Int32) (zs : Int32) (zw zp zd : Nat → Int32) : Prop := zs = nI z ∧ ∀ i, i < z → zw i = nI (gw i) ∧ zp i = gp i ∧ zd i = nI (gd i)
theorem RSe_out {W : Nat} (hW : W ≤ 9) (h : RSe W zs zw zp zd seens sw sp st) : ∃ (z : Nat) (gw gd : Nat → Nat) (gp : Nat → Int32), SeV W z gw gd ∧ SeC z gw gd gp zs zw zp zd ∧ SeC z gw gd gp seens sw sp st := by
  obtain ⟨z, hz, h1, h2, h3⟩ := h
  refine ⟨z, fun i => (zw i).toNatClampNeg, fun i => (zd i).toNatClampNeg, zp, ⟨hz, fun i hi => ?_⟩, ⟨h1, fun i hi => ?_⟩, ⟨h2, fun i hi => ?_⟩⟩
  · obtain ⟨⟨w, hw, e1, e2⟩, e3, t, ht1, ht2, e4, e5⟩ := h3 i hi
    dsimp only
    rw [e1, e4, cl (by omega), cl (by omega)]; exact ⟨hw, ht1, ht2⟩
  · obtain ⟨⟨w, hw, e1, e2⟩, e3, t, ht1, ht2, e4, e5⟩ := h3 i hi
    dsimp only
    rw [e1, e4, cl (by omega), cl (by omega)]; exact ⟨rfl, rfl, rfl⟩
  · obtain ⟨⟨w, hw, e1, e2⟩, e3, t, ht1, ht2, e4, e5⟩ := h3 i hi
    dsimp only
    rw [e1, e4, cl (by omega), cl (by omega)]; exact ⟨e2, e3.symm, e5⟩
abbrev SeeP (W : Nat) (kd A B : Nat → Nat) (z : Nat) (gw gd : Nat → Nat) (gp : Nat → Int32) (S : St) : Prop := ∀ i, i < z → (dayN W kd A B (gd i) S).2.2.2.1 (gw i) = gp i
theorem lastDay_C {W z : Nat} {gw gd : Nat → Nat} {gp : Nat → Int32} {post : Int32 → Prop} (hV : SeV W z gw gd) (hC : SeC z gw gd gp zs zw zp zd) (hp : ∀ L, L ≤ 30 → (∀ i, i < z → gd i ≤ L) → post (nI L)) : P_X5_lastDay zs zd post := by
  obtain ⟨hz, hg⟩ := hV
  obtain ⟨rfl, hc⟩ := hC
  unfold P_X5_lastDay
  refine ⟨z + 1, ?_⟩
  have key : ∀ k i L, i + k = z → L ≤ 30 → (∀ j, j < i → gd j ≤ L) → P_X5_lastDay_L4 (nI z) zd post (k + 1) (nI L) (nI i) := by
    intro k
    induction k with
    | zero =>
      intro i L hi hL h
      rw [P_X5_lastDay_L4]
      have e : i = z := by omega
      subst e
      exact ⟨fun _ => hp L hL h, fun q => absurd (nI_le (Nat.le_refl _) (by omega)) q⟩
    | succ k ih =>
      intro i L hi hL h
      rw [P_X5_lastDay_L4]
      obtain ⟨-, g1, g2⟩ := hg i (by omega)
      refine ⟨fun q => absurd q (nI_ge (by omega) (by omega)), fun _ => ⟨ni_out (by omega) (by omega), ?_⟩⟩
      rw [cl (by omega), (hc i (by omega)).2.2, nI_1]
      by_cases q : L < gd i
      · rw [if_pos ((ni_lt (by omega) (by omega)).mpr q)]
        refine ih (i + 1) _ (by omega) g2 (fun j hj => ?_)
        by_cases e : j = i
        · subst e; omega
        · have := h j (by omega); omega
      · rw [if_neg (fun z => q ((ni_lt (by omega) (by omega)).mp z))]
        refine ih (i + 1) _ (by omega) hL (fun j hj => ?_)
        by_cases e : j = i
        · subst e; omega
        · exact h j (by omega)
  exact key z 0 0 (by omega) (by omega) (fun j hj => by omega)
theorem areSo_C {W z d : Nat} {gw gd : Nat → Nat} {gp pl : Nat → Int32} {post : Int32 → Prop} (hW : W ≤ 9) (hd : d < 2 ^ 31) (hV : SeV W z gw gd) (hC : SeC z gw gd gp zs zw zp zd) (hpl : ∀ w, w < 9 → np w = pl w) (h1 : (∀ i, i < z → gd i = d → pl (gw i) = gp i) → post 1) (h0 : (∃ i, i < z ∧ gd i = d ∧ pl (gw i) ≠ gp i) → post 0) : P_X5_areSoOn (nI d) zs zd zw np zp post := by
  obtain ⟨hz, hg⟩ := hV
  obtain ⟨rfl, hc⟩ := hC
  unfold P_X5_areSoOn
  refine ⟨z + 1, ?_⟩
  have key : ∀ k i, i + k = z → (∀ j, j < i → gd j = d → pl (gw j) = gp j) → P_X5_areSoOn_L2 (nI z) zd zw np zp post (k + 1) (nI d) (nI i) := by
    intro k
    induction k with
    | zero =>
      intro i hi h
      rw [P_X5_areSoOn_L2]
      have e : i = z := by omega
      subst e
      exact ⟨fun _ => h1 h, fun q => absurd (nI_le (Nat.le_refl _) (by omega)) q⟩
    | succ k ih =>
      intro i hi h
      rw [P_X5_areSoOn_L2]
      obtain ⟨g0, g1, g2⟩ := hg i (by omega)
      obtain ⟨c1, c2, c3⟩ := hc i (by omega)
      unfold P_X5_areSoOn_b42
      refine ⟨fun q => absurd q (nI_ge (by omega) (by omega)), fun _ => ⟨ni_out (by omega) (by omega), ?_⟩⟩
      rw [cl (by omega), c1, c2, c3, cl (by omega), nI_eq (by omega) hd, nI_1, hpl _ (by omega)]
      refine ⟨fun q => ih (i + 1) (by omega) (fun j hj e => ?_), fun q => ⟨ni_out (by omega) (by omega), ni_out (by omega) (by omega), ni_out (by omega) (by omega), fun r => ih (i + 1) (by omega) (fun j hj e => ?_), fun r => h0 ⟨i, by omega, q, r⟩⟩⟩
      · by_cases ej : j = i
        · subst ej; exact absurd e q
        · exact h j (by omega) e
      · by_cases ej : j = i
        · subst ej; exact r
        · exact h j (by omega) e
  exact key z 0 (by omega) (fun j hj => by omega)
theorem comeTrue_C {F W z : Nat} {kd A B gw gd : Nat → Nat} {gp : Nat → Int32} {S : St} {post : Int32 → Int32 → (Nat → Int32) → (Nat → Int32) → (Nat → Int32) → Prop} (hV : CoV F W kd A B) (hKC : CoC F W kd A B cw co ck) (hL : LdV F S) (hSC : StC F S nd ns nl np nsh) (hZV : SeV W z gw gd) (hZ : SeC z gw gd gp zs zw zp zd)
    (h1 : SeeP W kd A B z gw gd gp S → ∀ d di l p, post 1 d di l p) (h0 : ¬ SeeP W kd A B z gw gd gp S → ∀ d di l p, post 0 d di l p) : P_X5_comeTrue zs zd nd ns cw co fdi nsh ck nl np zw zp post := by
  unfold P_X5_comeTrue
  refine lastDay_C hZV hZ (fun L hL30 hlast => ⟨L + 1, ?_⟩)
  have key : ∀ k i d l p di, i + k = L → StC F (dayN W kd A B i S) d ns l p nsh → (∀ j, j < z → gd j ≤ i → (dayN W kd A B (gd j) S).2.2.2.1 (gw j) = gp j) → P_X5_comeTrue_L8 zs zd ns cw co nsh ck zw zp post (k + 1) (nI L) (nI (i + 1)) d di l p := by
    intro k
    induction k with
    | zero =>
      intro i d l p di hi hs h
      rw [P_X5_comeTrue_L8]
      refine ⟨fun _ => h1 (fun j hj => h j hj (by have := hlast j hj; omega)) _ _ _ _, fun q => absurd ((ni_lt (by omega) (by omega)).mpr (by omega)) q⟩
    | succ k ih =>
      intro i d l p di hi hs h
      rw [P_X5_comeTrue_L8]
      refine ⟨fun q => absurd ((ni_lt (by omega) (by omega)).mp q) (by omega), fun _ => ?_⟩
      refine goDay_C hV hKC (dayN_LdV hV hL i) hs (fun di' l' p' hs' => ?_)
      refine areSo_C (W := W) (pl := (dayN W kd A B (i + 1) S).2.2.2.1) hV.2.1 (by omega) hZV hZ (fun w hw => (hs'.2.2.2 w hw).1) (fun q => ⟨fun _ => ?_, fun z => absurd z (by decide)⟩) (fun q => ⟨fun z => absurd rfl z, fun _ => ?_⟩)
      · rw [nI_1]
        refine ih (i + 1) _ _ _ _ (by omega) hs' (fun j hj hd => ?_)
        by_cases e : gd j = i + 1
        · rw [e]; exact q j hj e
        · exact h j hj (by omega)
      · obtain ⟨j, hj, e, hne⟩ := q
        exact h0 (fun hall => hne (by rw [← e]; exact hall j hj)) _ _ _ _
  exact key L 0 nd nl np fdi (by omega) hSC (fun j hj hd => by have := (hZV.2 j hj).2.1; omega)
theorem isSo_M {F W z : Nat} {kd A B gw gd : Nat → Nat} {gp : Nat → Int32} {S : St} {post : Int32 → (Nat → Int32) → (Nat → Int32) → (Nat → Int32) → Prop} (hV : CoV F W kd A B) (hKM : CoM F W kd A B mw mfi mse msort) (hI : idl = 0) (hL : LdV F S) (hSM : StM F 385 S slot) (hZV : SeV W z gw gd) (hZ : SeC z gw gd gp seens sw sp st)
    (h1 : SeeP W kd A B z gw gd gp S → ∀ a b sl, (∀ j, j < 385 → sl j = slot j) → post 1 a b sl) (h0 : ¬ SeeP W kd A B z gw gd gp S → ∀ a b sl, (∀ j, j < 385 → sl j = slot j) → post 0 a b sl) : P_X9_isSo mw seens idl mfi d1 mse d2 slot msort st sw sp post := by
  have hW := hV.2.1
  obtain ⟨hz, hg⟩ := hZV
  obtain ⟨rfl, hc⟩ := hZ
  unfold P_X9_isSo
  refine ⟨31, ?_⟩
  rw [hI]
  have key : ∀ k i x e1 e2 sl, i + k = 30 → StM F 385 (dayN W kd A B i S) sl → (∀ j, j < 385 → sl j = slot j) → ((x = 1 ∧ ∀ j, j < z → gd j ≤ i → (dayN W kd A B (gd j) S).2.2.2.1 (gw j) = gp j) ∨ (x = 0 ∧ ¬ SeeP W kd A B z gw gd gp S)) → P_X9_isSo_L6 mw (nI z) 0 mfi mse msort st sw sp post (k + 1) x (nI (dayG W kd A B i S)) (nI (i + 1)) e1 e2 sl := by
    intro k
    induction k with
    | zero =>
      intro i x e1 e2 sl hi hs hfar hx
      rw [P_X9_isSo_L6]
      have e : i = 30 := by omega
      subst e
      refine ⟨fun _ => ?_, fun q => absurd (by decide) q⟩
      rcases hx with ⟨rfl, hx⟩ | ⟨rfl, hx⟩
      · exact ⟨zb1, h1 (fun j hj => hx j hj (hg j hj).2.2) _ _ _ hfar⟩
      · exact ⟨zb0, h0 hx _ _ _ hfar⟩
    | succ k ih =>
      intro i x e1 e2 sl hi hs hfar hx
      rw [P_X9_isSo_L6]
      refine ⟨fun q => absurd ((nI_ltI (a := 30) (b := i + 1) (by omega) (by omega)).mp q) (by omega), fun _ => ?_⟩
      refine passes_M (b := 385) hV hKM (by omega) (dayN_LdV hV hL i) hs (fun e1' e2' sl' hs' hf' => ⟨z + 1, ?_⟩)
      rw [na]
      have hfar' : ∀ j, j < 385 → sl' j = slot j := fun j hj => (hf' j (by omega)).trans (hfar j hj)
      have hG := dayG_le (W := W) (kd := kd) (A := A) (B := B) (S := S) (i + 1)
      have hGW : (i + 1) * W ≤ 30 * 9 := Nat.mul_le_mul (by omega) hW
      have inner : ∀ k2 j x, j + k2 = z → ((x = 1 ∧ ∀ j', j' < z → (gd j' ≤ i ∨ (gd j' = i + 1 ∧ j' < j)) → (dayN W kd A B (gd j') S).2.2.2.1 (gw j') = gp j') ∨ (x = 0 ∧ ¬ SeeP W kd A B z gw gd gp S)) → P_X9_isSo_L25 mw (nI z) 0 mfi mse msort st sw sp (P_X9_isSo_L6 mw (nI z) 0 mfi mse msort st sw sp post (k + 1)) post (k2 + 1) x (nI (dayG W kd A B (i + 1) S)) (nI (i + 1)) (nI j) e1' e2' sl' := by
        intro k2
        induction k2 with
        | zero =>
          intro j x hj hx
          rw [P_X9_isSo_L25]
          have e : j = z := by omega
          subst e
          refine ⟨fun _ => ?_, fun q => absurd (nI_le (Nat.le_refl _) (by omega)) q⟩
          rw [nI_1]
          refine ih (i + 1) x _ _ _ (by omega) hs' hfar' ?_
          rcases hx with ⟨rfl, hx⟩ | hx
          · exact Or.inl ⟨rfl, fun j' hj' hd => hx j' hj' (by omega)⟩
          · exact Or.inr hx
        | succ k2 ih2 =>
          intro j x hj hx
          rw [P_X9_isSo_L25]
          obtain ⟨g0, g1, g2⟩ := hg j (by omega)
          obtain ⟨c1, c2, c3⟩ := hc j (by omega)
          unfold P_X9_isSo_b83 P_X9_isSo_b79 P_X9_isSo_b84
          have e391 : (391 : Int32) + nI (gw j) = nI (385 + 6 + gw j) := by rw [show (391 : Int32) = nI (385 + 6) from rfl, na]
          refine ⟨fun q => absurd q (nI_ge (by omega) (by omega)), fun _ => ?_⟩
          rw [nI_1 j, cl (by omega), c1, c2, c3, e391, cl (by omega), nI_eq (by omega) (by omega), (hs'.2.2.2 _ (by omega)).1]
          rcases hx with ⟨rfl, hx⟩ | ⟨rfl, hx⟩
          · refine ⟨fun z => absurd z (by decide), fun _ => ⟨fun q => absurd q (nI_pos (by omega)), fun _ => ⟨ni_out (by omega) (by omega), fun q => ?_, fun q => ⟨ni_out (by omega) (by omega), ni_out (by omega) (by omega), ni_out (by omega) (by omega), fun r => ?_, fun r => ?_⟩⟩⟩⟩
            · refine ih2 (j + 1) 1 (by omega) (Or.inl ⟨rfl, fun j' hj' hd => ?_⟩)
              by_cases e : j' = j
              · subst e
                rcases hd with hd | hd
                · exact hx j' hj' (Or.inl hd)
                · exact absurd hd.1 q
              · exact hx j' hj' (by omega)
            · refine ih2 (j + 1) 0 (by omega) (Or.inr ⟨rfl, fun hall => r ?_⟩)
              have := hall j (by omega)
              rw [q] at this; exact this
            · refine ih2 (j + 1) 1 (by omega) (Or.inl ⟨rfl, fun j' hj' hd => ?_⟩)
              by_cases e : j' = j
              · subst e; rw [q]; exact r
              · exact hx j' hj' (by omega)
          · exact ⟨fun _ => ih2 (j + 1) 0 (by omega) (Or.inr ⟨rfl, hx⟩), fun z => absurd rfl z⟩
      refine inner z 0 x (by omega) ?_
      rcases hx with ⟨rfl, hx⟩ | hx
      · exact Or.inl ⟨rfl, fun j' hj' hd => hx j' hj' (by omega)⟩
      · exact Or.inr hx
  exact key 30 0 1 d1 d2 slot (by omega) hSM (fun _ _ => rfl) (Or.inl ⟨rfl, fun j hj hd => by have := (hg j hj).2.1; omega⟩)
def orB (c : Nat → Bool) (b0 : Int32) : Nat → Int32
  | 0 => b0
  | f + 1 => if c f = true then orB c b0 f ||| (1 <<< (nI f &&& 31)) else orB c b0 f
def turnS (f : Nat) (S : St) : St := (S.1, S.2.1 ^^^ (1 <<< (nI f &&& 31)), S.2.2)
def seeB (W : Nat) (kd A B : Nat → Nat) (z : Nat) (gw gd : Nat → Nat) (gp : Nat → Int32) (S : St) : Bool := decide (SeeP W kd A B z gw gd gp S)
def whoV (F W : Nat) (kd A B : Nat → Nat) (z : Nat) (gw gd : Nat → Nat) (gp : Nat → Int32) (S : St) : Int32 := orB (fun f => seeB W kd A B z gw gd gp (turnS f S)) (if seeB W kd A B z gw gd gp S = true then 64 else 0) F
theorem seeB_1 {W z : Nat} {kd A B gw gd : Nat → Nat} {gp : Nat → Int32} {S : St} : seeB W kd A B z gw gd gp S = true ↔ SeeP W kd A B z gw gd gp S := by unfold seeB; exact decide_eq_true_iff
theorem whoSick_C {F W z : Nat} {kd A B gw gd : Nat → Nat} {gp : Nat → Int32} {S : St} {post : Int32 → Int32 → Int32 → (Nat → Int32) → (Nat → Int32) → (Nat → Int32) → (Nat → Int32) → Prop} (hV : CoV F W kd A B) (hKC : CoC F W kd A B cw co ck) (ecf : cf = nI F) (hL : LdV F S) (hSC : StC F S nd ns nl np nsh) (hZV : SeV W z gw gd) (hZ : SeC z gw gd gp zs zw zp zd)
    (hp : ∀ a b c d e g, post (whoV F W kd A B z gw gd gp S) a b c d e g) : P_X7_suspects fd fs nd ns fl nl fp np fsh nsh zs zd cf cw co fdi ck zw zp post := by
  have hF := hV.1
  unfold P_X7_suspects P_X6_takeOver
  have tail : ∀ x td ts tl tp tsh tdi, x = (if seeB W kd A B z gw gd gp S = true then 64 else 0) → P_X7_suspects_b26 nd ns nl np nsh zs zd cf cw co ck zw zp post x td ts tl tp tsh tdi := by
    intro x td ts tl tp tsh tdi hx
    unfold P_X7_suspects_b26
    refine ⟨F + 1, ?_⟩
    rw [ecf]
    have key : ∀ k i td ts tl tp tsh tdi, i + k = F → P_X7_suspects_L31 nd ns nl np nsh zs zd (nI F) cw co ck zw zp post (k + 1) (orB (fun f => seeB W kd A B z gw gd gp (turnS f S)) x i) (nI i) td ts tl tp tsh tdi := by
      intro k
      induction k with
      | zero =>
        intro i td ts tl tp tsh tdi hi
        rw [P_X7_suspects_L31]
        have e : i = F := by omega
        subst e
        refine ⟨fun _ => ?_, fun q => absurd (nI_le (Nat.le_refl _) (by omega)) q⟩
        rw [hx]; exact hp _ _ _ _ _ _
      | succ k ih =>
        intro i td ts tl tp tsh tdi hi
        rw [P_X7_suspects_L31]
        refine ⟨fun q => absurd q (nI_ge (by omega) (by omega)), fun _ => ?_⟩
        unfold P_X6_takeOver P_X6_turnSickness P_X7_suspects_b78
        have hs2 : StC F (turnS i S) nd (ns ^^^ (1 <<< (nI i &&& 31))) (va_cpy nl tl 0 0 6) (va_cpy np tp 0 0 9) (va_cpy nsh tsh 0 0 18) := by
          have := StC_copy (g1 := tl) (g2 := tp) (g3 := tsh) hF hSC
          exact ⟨this.1, by rw [this.2.1]; rfl, this.2.2⟩
        have hL2 : LdV F (turnS i S) := hL
        have nx := ih (i + 1)
        rw [orB] at nx
        refine comeTrue_C hV hKC hL2 hs2 hZV hZ (fun q d di l p => ⟨fun z => absurd z (by decide), fun _ => ?_⟩) (fun q d di l p => ⟨fun _ => ?_, fun z => absurd rfl z⟩)
        · rw [if_pos (seeB_1.mpr q)] at nx
          rw [nI_1]; exact nx _ _ _ _ _ _ (by omega)
        · rw [if_neg (fun z => q (seeB_1.mp z))] at nx
          rw [nI_1]; exact nx _ _ _ _ _ _ (by omega)
    exact key F 0 td ts tl tp tsh tdi (by omega)
  refine comeTrue_C hV hKC hL (StC_copy hF hSC) hZV hZ (fun q d di l p => ⟨fun z => absurd z (by decide), fun _ => ?_⟩) (fun q d di l p => ⟨fun _ => ?_, fun z => absurd rfl z⟩)
  · exact tail _ _ _ _ _ _ _ (by rw [if_pos (seeB_1.mpr q)])
  · exact tail _ _ _ _ _ _ _ (by rw [if_neg (fun z => q (seeB_1.mp z))])
theorem whoSick_M {F W z : Nat} {kd A B gw gd : Nat → Nat} {gp : Nat → Int32} {S : St} {post : Int32 → (Nat → Int32) → (Nat → Int32) → (Nat → Int32) → Prop} (hV : CoV F W kd A B) (hKM : CoM F W kd A B mw mfi mse msort) (emf : mf = nI F) (hI : idl = 0) (hL : LdV F S) (hSM : StM F 0 S slot) (hZV : SeV W z gw gd) (hZ : SeC z gw gd gp seens sw sp st)
    (hp : ∀ sl a b, (∀ j, j < 385 → sl j = slot j) → post (whoV F W kd A B z gw gd gp S) sl a b) : P_X9_whoSick mf mw seens idl slot mfi d1 mse d2 msort st sw sp post := by
  have hF := hV.1
  unfold P_X9_whoSick
  have tail : ∀ x sl e1 e2, x = (if seeB W kd A B z gw gd gp S = true then 64 else 0) → (∀ j, j < 385 → sl j = slot j) → P_X9_whoSick_b21 mf mw seens idl mfi mse msort st sw sp post x sl e1 e2 := by
    intro x sl e1 e2 hx hfar
    unfold P_X9_whoSick_b21
    refine ⟨F + 1, ?_⟩
    rw [emf]
    have key : ∀ k i sl e1 e2, i + k = F → (∀ j, j < 385 → sl j = slot j) → P_X9_whoSick_L24 (nI F) mw seens idl mfi mse msort st sw sp post (k + 1) (orB (fun f => seeB W kd A B z gw gd gp (turnS f S)) x i) (nI i) sl e1 e2 := by
      intro k
      induction k with
      | zero =>
        intro i sl e1 e2 hi hfar
        rw [P_X9_whoSick_L24]
        have e : i = F := by omega
        subst e
        refine ⟨fun _ => ?_, fun q => absurd (nI_le (Nat.le_refl _) (by omega)) q⟩
        rw [hx]; exact hp _ _ _ hfar
      | succ k ih =>
        intro i sl e1 e2 hi hfar
        rw [P_X9_whoSick_L24]
        refine ⟨fun q => absurd q (nI_ge (by omega) (by omega)), fun _ => ?_⟩
        refine trial_M hF (StM_row hF hSM (slot' := sl) (fun k hk => hfar _ (by omega))) (fun sl1 hs1 hf1 => ⟨ni_out (n := 418) (by omega) (by omega), ni_out (n := 418) (by omega) (by omega), ?_⟩)
        rw [show (418 : Int32).toNatClampNeg = 418 from rfl]
        unfold P_X9_whoSick_b69
        have hs2 : StM F 385 (turnS i S) (upd sl1 418 (sl1 418 ^^^ (1 <<< (nI i &&& 31)))) := by
          obtain ⟨g1, g2, g3, g4⟩ := hs1
          have g2 : sl1 418 = S.2.1 := g2
          refine ⟨by rw [pk_un (by omega)]; exact g1, by show upd sl1 418 _ 418 = _; rw [pk_us, g2]; rfl, fun f hf => by rw [pk_un (by omega)]; exact g3 f hf, fun w hw => ⟨by rw [pk_un (by omega)]; exact (g4 w hw).1, by rw [pk_un (by omega)]; exact (g4 w hw).2.1, by rw [pk_un (by omega)]; exact (g4 w hw).2.2⟩⟩
        have hL2 : LdV F (turnS i S) := hL
        have nx := ih (i + 1)
        rw [orB] at nx
        have hfar2 : ∀ sl' : Nat → Int32, (∀ j, j < 385 → sl' j = upd sl1 418 (sl1 418 ^^^ (1 <<< (nI i &&& 31))) j) → ∀ j, j < 385 → sl' j = slot j := fun sl' h j hj => by rw [h j hj, pk_un (by omega), hf1 j hj, hfar j hj]
        refine isSo_M hV hKM hI hL2 hs2 hZV hZ (fun q a b sl' h => ⟨fun z => absurd z (by decide), fun _ => ?_⟩) (fun q a b sl' h => ⟨fun _ => ?_, fun z => absurd rfl z⟩)
        · rw [if_pos (seeB_1.mpr q)] at nx
          rw [nI_1]; exact nx _ _ _ (by omega) (hfar2 sl' h)
        · rw [if_neg (fun z => q (seeB_1.mp z))] at nx
          rw [nI_1, Int32.or_zero]; exact nx _ _ _ (by omega) (hfar2 sl' h)
    exact key F 0 sl e1 e2 (by omega) hfar
  refine trial_M hF hSM (fun sl1 hs1 hf1 => ?_)
  refine isSo_M hV hKM hI hL hs1 hZV hZ (fun q a b sl' h => ⟨fun z => absurd z (by decide), fun _ => ?_⟩) (fun q a b sl' h => ⟨fun _ => ?_, fun z => absurd rfl z⟩)
  · exact tail _ _ _ _ (by rw [if_pos (seeB_1.mpr q)]) (fun j hj => (h j hj).trans (hf1 j hj))
  · exact tail _ _ _ _ (by rw [if_neg (fun z => q (seeB_1.mp z))]) (fun j hj => (h j hj).trans (hf1 j hj))
theorem q_whoSick (h : RelX xl xt cf cw ct ck ch co ctw ctp nd ns nl np nsh us p8 ks p2 zs zw zp zd mf mw mt msort mh mfi mse mby moff slot acts keeps ml mtx seens sw sp st idl) : P_X8_whoSick fd fs nd ns fl nl fp np fsh nsh zs zd cf cw co fdi ck zw zp (fun r _ _ _ _ _ _ => P_X9_whoSick mf mw seens idl slot mfi d1 mse d2 msort st sw sp (fun r' slot' _ _ => r = r' ∧ RelX xl xt cf cw ct ck ch co ctw ctp nd ns nl np nsh us p8 ks p2 zs zw zp zd mf mw mt msort mh mfi mse mby moff slot' acts keeps ml mtx seens sw sp st idl)) := by
  have hall : ∀ slot', (∀ j, j < 385 → slot' j = slot j) → RelX xl xt cf cw ct ck ch co ctw ctp nd ns nl np nsh us p8 ks p2 zs zw zp zd mf mw mt msort mh mfi mse mby moff slot' acts keeps ml mtx seens sw sp st idl := fun slot' e => RelX_slot h e
  obtain ⟨hT, hI, F, W, T, kd, hr, A, B, tw, tp, hC, hN, hU, hK, hZ⟩ := id h
  obtain ⟨hV, hF1, hW8, hT6, hr12, -, htw, ecf, emf, ect, emt, hKC, hKM, hhr, hrow⟩ := id hC
  obtain ⟨S, hS, hSC, hSM⟩ := id hN
  obtain ⟨z, gw, gd, gp, hZV, hZC, hZM⟩ := RSe_out hV.2.1 hZ
  unfold P_X8_whoSick
  refine whoSick_C hV hKC ecf hS.1 hSC hZV hZC (fun _ _ _ _ _ _ => ?_)
  exact whoSick_M hV hKM emf hI hS.1 hSM hZV hZM (fun sl a b hfar => ⟨rfl, hall _ hfar⟩)
end

section
variable {xl : Int32} {xt : Nat → Int32} {cf cw ct : Int32} {ck ch co ctw ctp : Nat → Int32} {nd ns : Int32} {nl np nsh : Nat → Int32} {us : Int32} {p8 : Nat → SVt} {ks : Int32} {p2 : Nat → SVt} {zs : Int32} {zw zp zd : Nat → Int32}
variable {mf mw mt : Int32} {msort mh mfi mse mby moff slot : Nat → Int32} {acts keeps ml : Int32} {mtx : Nat → Int32} {seens : Int32} {sw sp st : Nat → Int32} {idl : Int32}
variable {fd fs gf gb : Int32} {fl fp fsh fdi d1 d2 : Nat → Int32}
/-! who would be gone first -/
def goneF (a b : Nat → Nat) : Nat → Nat → Option Nat
  | 0, _ => none
  | k + 1, i => if a i = 0 then goneF a b k (i + 1) else if b i = 0 then some i else goneF a b k (i + 1)
def goneD (F W : Nat) (kd A B : Nat → Nat) (S : St) : Nat → Nat → Option (Nat × Nat)
  | 0, _ => none
  | k + 1, d => match goneF S.2.2.1 (dayN W kd A B (d + 1) S).2.2.1 F 0 with
    | some f => some (f, d + 1)
    | none => goneD F W kd A B S k (d + 1)
theorem goneF_C {F d : Nat} {a b : Nat → Nat} {td ts : Int32} {tl tp tsh tdi : Nat → Int32} {k10 : Int32 → Int32 → Int32 → Int32 → Int32 → (Nat → Int32) → (Nat → Int32) → (Nat → Int32) → (Nat → Int32) → Prop} {post : Int32 → Int32 → Int32 → Int32 → Int32 → (Nat → Int32) → (Nat → Int32) → (Nat → Int32) → (Nat → Int32) → Prop} (hF : F ≤ 6) (ha : ∀ f, f < F → nl f = nI (a f)) (ha1 : ∀ f, f < F → a f ≤ 1000) (hb : ∀ f, f < F → tl f = nI (b f)) (hb1 : ∀ f, f < F → b f ≤ 1000) :
    ∀ k i, i + k = F → (∀ f, f < F → goneF a b k i = some f → post 1 (nI f) (nI d) td ts tl tp tsh tdi) → (goneF a b k i = none → k10 (nI d + 1) gf gb td ts tl tp tsh tdi) → P_X2_findGone_L29 nd ns nl np nsh (nI F) cw co ck k10 post (k + 1) (nI d) (nI i) gf gb td ts tl tp tsh tdi := by
  intro k
  induction k with
  | zero =>
    intro i hi h1 h0
    rw [P_X2_findGone_L29]
    have e : i = F := by omega
    subst e
    exact ⟨fun _ => h0 rfl, fun q => absurd (nI_le (Nat.le_refl _) (by omega)) q⟩
  | succ k ih =>
    intro i hi h1 h0
    rw [P_X2_findGone_L29]
    have e1 := ha1 i (by omega)
    have e2 := hb1 i (by omega)
    unfold P_X2_findGone_b74
    refine ⟨fun q => absurd q (nI_ge (by omega) (by omega)), fun _ => ⟨ni_out (by omega) (by omega), ?_⟩⟩
    rw [cl (by omega), ha i (by omega), hb i (by omega), ni_le0 (by omega), ni_e0 (by omega), nI_1]
    rw [goneF] at h1 h0
    refine ⟨fun q => ?_, fun q => ⟨ni_out (by omega) (by omega), fun r => ?_, fun r => ?_⟩⟩
    · rw [if_pos q] at h1 h0; exact ih (i + 1) (by omega) h1 h0
    · rw [if_neg q, if_neg r] at h1 h0; exact ih (i + 1) (by omega) h1 h0
    · rw [if_neg q, if_pos r] at h1; exact h1 i (by omega) rfl
theorem gone_C {F W : Nat} {kd A B : Nat → Nat} {S : St} {post : Int32 → Int32 → Int32 → Int32 → Int32 → (Nat → Int32) → (Nat → Int32) → (Nat → Int32) → (Nat → Int32) → Prop} (hV : CoV F W kd A B) (hKC : CoC F W kd A B cw co ck) (ecf : cf = nI F) (hL : LdV F S) (hSC : StC F S nd ns nl np nsh)
    (h1 : ∀ f e, goneD F W kd A B S 60 0 = some (f, e) → ∀ td ts tl tp tsh tdi, post 1 (nI f) (nI e) td ts tl tp tsh tdi) (h0 : goneD F W kd A B S 60 0 = none → ∀ td ts tl tp tsh tdi, post 0 gf gb td ts tl tp tsh tdi) : P_X2_findGone gf gb fd fs nd ns fl nl fp np fsh nsh cf cw co fdi ck post := by
  have hF := hV.1
  unfold P_X2_findGone P_X6_takeOver
  refine ⟨61, ?_⟩
  rw [ecf]
  have key : ∀ k d td ts tl tp tsh tdi, d + k = 60 → goneD F W kd A B S k d = goneD F W kd A B S 60 0 → StC F (dayN W kd A B d S) td ts tl tp tsh → P_X2_findGone_L10 nd ns nl np nsh (nI F) cw co ck post (k + 1) (nI (d + 1)) gf gb td ts tl tp tsh tdi := by
    intro k
    induction k with
    | zero =>
      intro d td ts tl tp tsh tdi hd hg hs
      rw [P_X2_findGone_L10]
      have e : d = 60 := by omega
      subst e
      exact ⟨fun _ => h0 hg.symm _ _ _ _ _ _, fun q => absurd (by decide) q⟩
    | succ k ih =>
      intro d td ts tl tp tsh tdi hd hg hs
      rw [P_X2_findGone_L10]
      refine ⟨fun q => absurd ((nI_ltI (a := 60) (b := d + 1) (by omega) (by omega)).mp q) (by omega), fun _ => ?_⟩
      refine goDay_C hV hKC (dayN_LdV hV hL d) hs (fun di' l' p' hs' => ⟨F + 1, ?_⟩)
      have hl1 := dayN_LdV hV hL (d + 1)
      have hl0 : LdV F (dayN W kd A B (d + 1) S) := hl1
      refine goneF_C (a := S.2.2.1) (b := (dayN W kd A B (d + 1) S).2.2.1) hF hSC.2.2.1 (fun f hf => LdV_lt hL hf) hs'.2.2.1 (fun f hf => LdV_lt hl0 hf) F 0 (by omega) (fun f hf q => ?_) (fun q => ?_)
      · rw [goneD, q] at hg
        exact h1 f (d + 1) hg.symm _ _ _ _ _ _
      · rw [goneD, q] at hg
        rw [nI_1]
        exact ih (d + 1) _ _ _ _ _ _ (by omega) hg hs'
  exact key 60 0 _ _ _ _ _ _ (by omega) rfl (StC_copy hF hSC)
theorem goneF_M {F d g : Nat} {x1 : Int32} {a b : Nat → Nat} {k24 : Int32 → Int32 → Int32 → (Nat → Int32) → (Nat → Int32) → (Nat → Int32) → Prop} {post : Int32 → (Nat → Int32) → (Nat → Int32) → (Nat → Int32) → Prop} (hF : F ≤ 6) (hg : g < 2 ^ 31) (ha : ∀ f, f < F → slot f = nI (a f)) (ha1 : ∀ f, f < F → a f ≤ 1000) (hb : ∀ f, f < F → slot (385 + f) = nI (b f)) (hb1 : ∀ f, f < F → b f ≤ 1000) :
    ∀ k i, i + k = F → (∀ f, f < F → goneF a b k i = some f → (¬ x1 = 0 → post (nI d) slot d1 d2) ∧ (x1 = 0 → post (nI f) slot d1 d2)) → (goneF a b k i = none → k24 x1 (nI g) (nI d + 1) slot d1 d2) → P_X9_gone_L43 (nI F) mw idl mfi mse msort k24 post (k + 1) x1 (nI g) (nI d) (nI i) slot d1 d2 := by
  intro k
  induction k with
  | zero =>
    intro i hi h1 h0
    rw [P_X9_gone_L43]
    have e : i = F := by omega
    subst e
    exact ⟨fun _ => h0 rfl, fun q => absurd (nI_le (Nat.le_refl _) (by omega)) q⟩
  | succ k ih =>
    intro i hi h1 h0
    rw [P_X9_gone_L43]
    have e1 := ha1 i (by omega)
    have e2 := hb1 i (by omega)
    unfold P_X9_gone_b96
    refine ⟨fun q => absurd q (nI_ge (by omega) (by omega)), fun _ => ⟨ni_out (by omega) (by omega), ?_⟩⟩
    have e : (385 : Int32) + nI i = nI (385 + i) := by rw [show (385 : Int32) = nI 385 from rfl, na]
    rw [e, cl (by omega), cl (by omega), ha i (by omega), hb i (by omega), ni_le0 (by omega), ni_e0 (by omega), nI_1]
    rw [goneF] at h1 h0
    refine ⟨fun q => ?_, fun q => ⟨ni_out (by omega) (by omega), fun r => ?_, fun r => ?_⟩⟩
    · rw [if_pos q] at h1 h0; exact ih (i + 1) (by omega) h1 h0
    · rw [if_neg q, if_neg r] at h1 h0; exact ih (i + 1) (by omega) h1 h0
    · rw [if_neg q, if_pos r] at h1
      exact ⟨fun _ => h1 i (by omega) rfl, fun z => absurd (nI_pos' hg) z⟩
theorem gone_M {F W : Nat} {x1 : Int32} {kd A B : Nat → Nat} {S : St} {post : Int32 → (Nat → Int32) → (Nat → Int32) → (Nat → Int32) → Prop} (hV : CoV F W kd A B) (hKM : CoM F W kd A B mw mfi mse msort) (emf : mf = nI F) (hI : idl = 0) (hL : LdV F S) (hSM : StM F 0 S slot) (hx : InR x1 0 1)
    (h1 : ∀ f e, goneD F W kd A B S 60 0 = some (f, e) → ∀ slot' d1' d2', (∀ j, j < 385 → slot' j = slot j) → (¬ x1 = 0 → post (nI e) slot' d1' d2') ∧ (x1 = 0 → post (nI f) slot' d1' d2')) (h0 : goneD F W kd A B S 60 0 = none → ∀ slot' d1' d2', (∀ j, j < 385 → slot' j = slot j) → post (-4) slot' d1' d2') : P_X9_gone x1 mf mw idl slot mfi d1 mse d2 msort post := by
  have hF := hV.1
  unfold P_X9_gone
  refine in_y hx (by decide +kernel) (by decide +kernel) ⟨fun _ => ?_, fun z => absurd z (by decide)⟩
  refine trial_M hF hSM (fun slot1 hs1 hfar1 => ⟨61, ?_⟩)
  rw [emf, hI]
  have key : ∀ k d sl e1 e2, d + k = 60 → goneD F W kd A B S k d = goneD F W kd A B S 60 0 → StM F 385 (dayN W kd A B d S) sl → (∀ j, j < 385 → sl j = slot j) → P_X9_gone_L24 (nI F) mw 0 mfi mse msort post (k + 1) x1 (nI (dayG W kd A B d S)) (nI (d + 1)) sl e1 e2 := by
    intro k
    induction k with
    | zero =>
      intro d sl e1 e2 hd hg hs hfar
      rw [P_X9_gone_L24]
      have e : d = 60 := by omega
      subst e
      exact ⟨fun _ => h0 hg.symm _ _ _ hfar, fun q => absurd (by decide) q⟩
    | succ k ih =>
      intro d sl e1 e2 hd hg hs hfar
      rw [P_X9_gone_L24]
      refine ⟨fun q => absurd ((nI_ltI (a := 60) (b := d + 1) (by omega) (by omega)).mp q) (by omega), fun _ => ?_⟩
      refine passes_M (b := 385) hV hKM (by omega) (dayN_LdV hV hL d) hs (fun e1' e2' sl' hs' hf' => ⟨F + 1, ?_⟩)
      rw [na]
      have hfar' : ∀ j, j < 385 → sl' j = slot j := fun j hj => (hf' j (by omega)).trans (hfar j hj)
      have hl0 : LdV F (dayN W kd A B (d + 1) S) := dayN_LdV hV hL (d + 1)
      have hG := dayG_le (W := W) (kd := kd) (A := A) (B := B) (S := S) (d + 1)
      have hGW : (d + 1) * W ≤ 60 * 9 := Nat.mul_le_mul (by omega) hV.2.1
      refine goneF_M (a := S.2.2.1) (b := (dayN W kd A B (d + 1) S).2.2.1) (g := dayG W kd A B (d + 1) S) hF (by omega) (fun f hf => by rw [hfar' f (by omega)]; have := hSM.2.2.1 f hf; rw [Nat.zero_add] at this; exact this) (fun f hf => LdV_lt hL hf) hs'.2.2.1 (fun f hf => LdV_lt hl0 hf) F 0 (by omega) (fun f hf q => ?_) (fun q => ?_)
      · rw [goneD, q] at hg
        exact h1 f (d + 1) hg.symm _ _ _ hfar'
      · rw [goneD, q] at hg
        rw [nI_1]
        exact ih (d + 1) _ _ _ (by omega) hg hs' hfar'
  exact key 60 0 slot1 d1 d2 (by omega) rfl hs1 hfar1
theorem q_gone (h : RelX xl xt cf cw ct ck ch co ctw ctp nd ns nl np nsh us p8 ks p2 zs zw zp zd mf mw mt msort mh mfi mse mby moff slot acts keeps ml mtx seens sw sp st idl) (x : Int32) : P_X8_gone x gf gb fd fs nd ns fl nl fp np fsh nsh cf cw co fdi ck (fun r _ _ _ _ _ _ _ _ => P_X9_gone x mf mw idl slot mfi d1 mse d2 msort (fun r' slot' _ _ => r = r' ∧ RelX xl xt cf cw ct ck ch co ctw ctp nd ns nl np nsh us p8 ks p2 zs zw zp zd mf mw mt msort mh mfi mse mby moff slot' acts keeps ml mtx seens sw sp st idl)) := by
  have hall : ∀ slot', (∀ j, j < 385 → slot' j = slot j) → RelX xl xt cf cw ct ck ch co ctw ctp nd ns nl np nsh us p8 ks p2 zs zw zp zd mf mw mt msort mh mfi mse mby moff slot' acts keeps ml mtx seens sw sp st idl := fun slot' e => RelX_slot h e
  obtain ⟨hT, hI, F, W, T, kd, hr, A, B, tw, tp, hC, hN, hU, hK, hZ⟩ := id h
  obtain ⟨hV, hF1, hW8, hT6, hr12, -, htw, ecf, emf, ect, emt, hKC, hKM, hhr, hrow⟩ := id hC
  obtain ⟨S, hS, hSC, hSM⟩ := id hN
  unfold P_X8_gone
  by_cases h1 : InR x 0 1
  · refine within_1 h1 ⟨fun _ => ?_, fun z => absurd z (by decide)⟩
    refine gone_C hV hKC ecf hS.1 hSC (fun f e q td ts tl tp tsh tdi => ⟨fun _ => ⟨fun hx => ?_, fun hx => ?_⟩, fun z => absurd z (by decide)⟩) (fun q td ts tl tp tsh tdi => ⟨fun z => absurd rfl z, fun _ => ?_⟩)
    · refine gone_M hV hKM emf hI hS.1 hSM h1 (fun f' e' q' slot' d1' d2' hfar => ⟨fun _ => ?_, fun z => absurd z hx⟩) (fun q' => absurd (q.symm.trans q') (by simp))
      rw [q] at q'; obtain ⟨rfl, rfl⟩ := Prod.mk.inj (Option.some.inj q')
      exact ⟨rfl, hall _ hfar⟩
    · refine gone_M hV hKM emf hI hS.1 hSM h1 (fun f' e' q' slot' d1' d2' hfar => ⟨fun z => absurd hx z, fun _ => ?_⟩) (fun q' => absurd (q.symm.trans q') (by simp))
      rw [q] at q'; obtain ⟨rfl, rfl⟩ := Prod.mk.inj (Option.some.inj q')
      exact ⟨rfl, hall _ hfar⟩
    · exact gone_M hV hKM emf hI hS.1 hSM h1 (fun f' e' q' => absurd (q.symm.trans q') (by simp)) (fun _ slot' d1' d2' hfar => ⟨rfl, hall _ hfar⟩)
  · refine within_0 h1 ⟨fun z => absurd rfl z, fun _ => ?_⟩
    unfold P_X9_gone
    exact in_n h1 (by decide +kernel) (by decide +kernel) ⟨fun z => absurd rfl z, fun _ => ⟨rfl, h⟩⟩
/-! hours enough -/
theorem setS_setS {W : Nat} {A B : Nat → Nat} {f : Nat} {u v : Nat → Int32} {S : St} : setS W A B f v (setS W A B f u S) = setS W A B f v S := by
  unfold setS
  have e1 : ∀ (c : Prop) [Decidable c] (a b d : Int32), (if c then a else if c then b else d) = if c then a else d := fun c _ a b d => by by_cases q : c <;> simp [q]
  simp only [e1]
def enoR (W : Nat) (kd A B : Nat → Nat) (S : St) (f n : Nat) : Nat → Nat → Option Nat
  | 0, _ => none
  | k + 1, h => if (dayN W kd A B n (evS W A B f h S)).2.2.1 f < S.2.2.1 f then enoR W kd A B S f n k (h + 1) else some h
theorem enough_C {F W f n : Nat} {kd A B : Nat → Nat} {S : St} {pd ps : Int32} {pl pp psh : Nat → Int32} {post : Int32 → Int32 → Int32 → (Nat → Int32) → (Nat → Int32) → (Nat → Int32) → Int32 → Int32 → (Nat → Int32) → (Nat → Int32) → (Nat → Int32) → (Nat → Int32) → Prop} (hV : CoV F W kd A B) (hKC : CoC F W kd A B cw co ck) (hf : f < F) (hn : n ≤ 14) (hL : LdV F S) (hSC : StC F S nd ns nl np nsh)
    (h1 : ∀ e, enoR W kd A B S f n 13 0 = some e → ∀ a b c d e' g i j k l m, post (nI e) a b c d e' g i j k l m) (h0 : enoR W kd A B S f n 13 0 = none → ∀ a b c d e' g i j k l m, post (-4) a b c d e' g i j k l m) : P_X2_fewestHours (nI f) (nI n) pd ps nd ns pl nl pp np psh nsh cw co fd fs fl fp fsh fdi ck post := by
  have hF := hV.1
  unfold P_X2_fewestHours P_X6_takeOver
  refine ⟨14, ?_⟩
  have key : ∀ k h (P : St) qd qs ql qp qsh td ts tl tp tsh tdi, h + k = 13 → enoR W kd A B S f n k h = enoR W kd A B S f n 13 0 → (∀ x, evS W A B f x P = evS W A B f x S) → StC F P qd qs ql qp qsh → P_X2_fewestHours_L11 nd ns nl np nsh cw co ck post (k + 1) (nI f) (nI n) (nI h) qd qs ql qp qsh td ts tl tp tsh tdi := by
    intro k
    induction k with
    | zero =>
      intro h P qd qs ql qp qsh td ts tl tp tsh tdi hh hg hP hs
      rw [P_X2_fewestHours_L11]
      have e : h = 13 := by omega
      subst e
      exact ⟨fun _ => h0 hg.symm _ _ _ _ _ _ _ _ _ _ _, fun q => absurd (by decide) q⟩
    | succ k ih =>
      intro h P qd qs ql qp qsh td ts tl tp tsh tdi hh hg hP hs
      rw [P_X2_fewestHours_L11]
      refine ⟨fun q => absurd ((nI_ltI (a := 12) (b := h) (by omega) (by omega)).mp q) (by omega), fun _ => ?_⟩
      refine shareEvenly_C hV.ow hKC.ow hs hf (by omega) (fun qsh' hs' => ?_)
      rw [hP h] at hs'
      have hL2 : LdV F (evS W A B f h S) := hL
      have hl3 := LdV_lt (dayN_LdV hV hL2 n) hf
      have hl4 := LdV_lt hL hf
      refine standBehind_C hV hKC hL2 hs' (by omega) (fun d s l p sh di hs2 => ⟨ni_out (by omega) (by omega), ni_out (by omega) (by omega), ?_⟩)
      rw [cl (by omega), hs2.2.2.1 f hf, hSC.2.2.1 f hf, ni_lt (by omega) (by omega), nI_1]
      rw [enoR] at hg
      refine ⟨fun q => ?_, fun q => ?_⟩
      · rw [if_pos q] at hg
        exact ih (h + 1) (evS W A B f h S) _ _ _ _ _ _ _ _ _ _ _ (by omega) hg (fun x => setS_setS) hs'
      · rw [if_neg q] at hg
        exact h1 h hg.symm _ _ _ _ _ _ _ _ _ _ _
  exact key 13 0 S _ _ _ _ _ _ _ _ _ _ _ (by omega) rfl (fun _ => rfl) (StC_copy hF hSC)
theorem enough_M {F W f n : Nat} {kd A B : Nat → Nat} {S : St} {post : Int32 → (Nat → Int32) → (Nat → Int32) → (Nat → Int32) → Prop} (hV : CoV F W kd A B) (hKM : CoM F W kd A B mw mfi mse msort) (emf : mf = nI F) (hI : idl = 0) (hf : f < F) (hn1 : 1 ≤ n) (hn : n ≤ 14) (hL : LdV F S) (hSM : StM F 0 S slot)
    (h1 : ∀ e, enoR W kd A B S f n 13 0 = some e → ∀ slot' d1' d2', (∀ j, j < 385 → slot' j = slot j) → post (nI e) slot' d1' d2') (h0 : enoR W kd A B S f n 13 0 = none → ∀ slot' d1' d2', (∀ j, j < 385 → slot' j = slot j) → post (-4) slot' d1' d2') : P_X9_enough (nI f) (nI n) mf mw idl slot mfi mse d1 d2 msort post := by
  have hF := hV.1
  have hW := hV.2.1
  unfold P_X9_enough
  refine famM_1 (by rw [emf]; exact nI_InR (by omega) hf) ⟨fun z => absurd z (by decide), fun _ => ?_⟩
  refine in_y (lo := 1) (hi := 14) ⟨nI_le (a := 1) hn1 (by omega), nI_le (b := 14) hn (by omega)⟩ (by decide +kernel) (by decide +kernel) ⟨fun _ => ⟨14, ?_⟩, fun z => absurd z (by decide)⟩
  rw [hI]
  have key : ∀ k h g sl e1 e2, h + k = 13 → g ≤ 126 * h → enoR W kd A B S f n k h = enoR W kd A B S f n 13 0 → (∀ j, j < 385 → sl j = slot j) → P_X9_enough_L27 mf mw 0 mfi mse msort post (k + 1) (nI f) (nI n) (nI g) (nI h) sl e1 e2 := by
    intro k
    induction k with
    | zero =>
      intro h g sl e1 e2 hh hg hr hfar
      rw [P_X9_enough_L27]
      have e : h = 13 := by omega
      subst e
      exact ⟨fun _ => h0 hr.symm _ _ _ hfar, fun q => absurd (by decide) q⟩
    | succ k ih =>
      intro h g sl e1 e2 hh hg hr hfar
      rw [P_X9_enough_L27]
      refine ⟨fun q => absurd ((nI_ltI (a := 12) (b := h) (by omega) (by omega)).mp q) (by omega), fun _ => ?_⟩
      have hS0 : StM F 0 S sl := StM_row hF hSM (fun k hk => hfar _ (by omega))
      refine trial_M hF hS0 (fun sl1 hs1 hf1 => ?_)
      refine evenly_M (b := 385) hV.ow hKM.ow (by omega) hs1 hf (by omega) (fun sl2 hs2 hf2 => ?_)
      have hL2 : LdV F (evS W A B f h S) := hL
      refine passesBy_M (b := 385) hV hKM (by omega) hL2 hs2 (by omega) (fun e1' e2' sl3 hs3 hf3 => ?_)
      have hfar3 : ∀ j, j < 385 → sl3 j = slot j := fun j hj => ((hf3 j (by omega)).trans (hf2 j (by omega))).trans ((hf1 j hj).trans (hfar j hj))
      have hG := dayG_le (W := W) (kd := kd) (A := A) (B := B) (S := evS W A B f h S) n
      have hGW : n * W ≤ 14 * 9 := Nat.mul_le_mul hn hW
      have hl3 := LdV_lt (dayN_LdV hV hL2 n) hf
      have hl4 := LdV_lt hL hf
      have e385 : (385 : Int32) + nI f = nI (385 + f) := by rw [show (385 : Int32) = nI 385 from rfl, na]
      have es : slot f = nI (S.2.2.1 f) := by have := hSM.2.2.1 f hf; rw [Nat.zero_add] at this; exact this
      rw [na, e385, cl (by omega), cl (by omega), hs3.2.2.1 f hf, hfar3 f (by omega), es, ni_lt (by omega) (by omega)]
      unfold P_X9_enough_b89
      rw [nI_1]
      rw [enoR] at hr
      refine ⟨fun q => absurd q (nI_pos (by omega)), fun _ => ⟨ni_out (by omega) (by omega), ni_out (by omega) (by omega), fun q => ?_, fun q => ?_⟩⟩
      · rw [if_pos q] at hr
        exact ih (h + 1) _ sl3 _ _ (by omega) (by omega) hr hfar3
      · rw [if_neg q] at hr
        exact h1 h hr.symm _ _ _ hfar3
  exact key 13 0 0 slot d1 d2 (by omega) (by omega) rfl (fun _ _ => rfl)
theorem q_enough (h : RelX xl xt cf cw ct ck ch co ctw ctp nd ns nl np nsh us p8 ks p2 zs zw zp zd mf mw mt msort mh mfi mse mby moff slot acts keeps ml mtx seens sw sp st idl) (x1 x2 : Int32) {pd ps : Int32} {pl pp psh : Nat → Int32} : P_X8_enough x1 x2 cf cw pd ps nd ns pl nl pp np psh nsh co fd fs fl fp fsh fdi ck (fun r _ _ _ _ _ _ _ _ _ _ _ => P_X9_enough x1 x2 mf mw idl slot mfi mse d1 d2 msort (fun r' slot' _ _ => r = r' ∧ RelX xl xt cf cw ct ck ch co ctw ctp nd ns nl np nsh us p8 ks p2 zs zw zp zd mf mw mt msort mh mfi mse mby moff slot' acts keeps ml mtx seens sw sp st idl)) := by
  have hall : ∀ slot', (∀ j, j < 385 → slot' j = slot j) → RelX xl xt cf cw ct ck ch co ctw ctp nd ns nl np nsh us p8 ks p2 zs zw zp zd mf mw mt msort mh mfi mse mby moff slot' acts keeps ml mtx seens sw sp st idl := fun slot' e => RelX_slot h e
  obtain ⟨hT, hI, F, W, T, kd, hr, A, B, tw, tp, hC, hN, hU, hK, hZ⟩ := id h
  obtain ⟨hV, hF1, hW8, hT6, hr12, -, htw, ecf, emf, ect, emt, hKC, hKM, hhr, hrow⟩ := id hC
  obtain ⟨S, hS, hSC, hSM⟩ := id hN
  have hF := hV.1
  unfold P_X8_enough
  by_cases h1 : InR x1 0 (nI F - 1)
  · refine famC_1 (by rw [ecf]; exact h1) ⟨fun z => absurd z (by decide), fun _ => ?_⟩
    by_cases h2 : InR x2 1 14
    · refine within_1 h2 ⟨fun z => absurd z (by decide), fun _ => ?_⟩
      obtain ⟨f, hf, rfl⟩ := InR_n (by omega) h1
      obtain ⟨n, hn1, hn, rfl⟩ := InR_c (lo := 1) (hi := 14) (by omega) (by omega) h2
      refine enough_C hV hKC hf hn hS.1 hSC (fun e q _ _ _ _ _ _ _ _ _ _ _ => ?_) (fun q _ _ _ _ _ _ _ _ _ _ _ => ?_)
      · refine enough_M hV hKM emf hI hf hn1 hn hS.1 hSM (fun e' q' slot' d1' d2' hfar => ?_) (fun q' => absurd (q.symm.trans q') (by simp))
        rw [q] at q'; obtain rfl := Option.some.inj q'
        exact ⟨rfl, hall _ hfar⟩
      · exact enough_M hV hKM emf hI hf hn1 hn hS.1 hSM (fun e' q' => absurd (q.symm.trans q') (by simp)) (fun _ slot' d1' d2' hfar => ⟨rfl, hall _ hfar⟩)
    · refine within_0 h2 ⟨fun _ => ?_, fun z => absurd rfl z⟩
      unfold P_X9_enough
      refine famM_1 (by rw [emf]; exact h1) ⟨fun z => absurd z (by decide), fun _ => ?_⟩
      exact in_n h2 (by decide +kernel) (by decide +kernel) ⟨fun z => absurd rfl z, fun _ => ⟨rfl, h⟩⟩
  · refine famC_0 (by rw [ecf]; exact h1) ⟨fun _ => ?_, fun z => absurd rfl z⟩
    unfold P_X9_enough
    exact famM_0 (by rw [emf]; exact h1) ⟨fun _ => ⟨rfl, h⟩, fun z => absurd rfl z⟩
end

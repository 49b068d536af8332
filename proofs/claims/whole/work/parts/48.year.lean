section
variable {xl : Int32} {xt : Nat → Int32} {cf cw ct : Int32} {ck ch co ctw ctp : Nat → Int32} {nd ns : Int32} {nl np nsh : Nat → Int32} {us : Int32} {p8 : Nat → SVt} {ks : Int32} {p2 : Nat → SVt} {zs : Int32} {zw zp zd : Nat → Int32}
variable {mf mw mt : Int32} {msort mh mfi mse mby moff slot : Nat → Int32} {acts keeps ml : Int32} {mtx : Nat → Int32} {seens : Int32} {sw sp st : Nat → Int32} {idl : Int32}
variable {fd fs : Int32} {fl fp fsh fdi d1 d2 : Nat → Int32}
/-! of which kind one would be -/
def kinV (W : Nat) (kd A B : Nat → Nat) (z : Nat) (gw gd : Nat → Nat) (gp : Nat → Int32) (S : St) (f : Nat) : Int32 := orB (fun k => seeB W (va_up kd f k) A B z gw gd gp S) 0 5
theorem CoV_kd {F W f k : Nat} {kd A B : Nat → Nat} (hV : CoV F W kd A B) (hk : k < 5) : CoV F W (va_up kd f k) A B := by
  refine ⟨hV.1, hV.2.1, hV.2.2.1, fun g hg => ?_⟩
  simp only [va_up]
  split
  · exact hk
  · exact hV.2.2.2 g hg
theorem kinds_C {F W z f : Nat} {kd A B gw gd : Nat → Nat} {gp : Nat → Int32} {S : St} {tf tcw tt : Int32} {tk th tl to ttw ttp cl9 : Nat → Int32} {post : Int32 → Int32 → Int32 → Int32 → (Nat → Int32) → (Nat → Int32) → (Nat → Int32) → (Nat → Int32) → (Nat → Int32) → (Nat → Int32) → Int32 → Int32 → (Nat → Int32) → (Nat → Int32) → (Nat → Int32) → (Nat → Int32) → Prop} (hV : CoV F W kd A B) (hKC : CoC F W kd A B cw co ck) (hf : f < F) (hL : LdV F S) (hSC : StC F S nd ns nl np nsh) (hZV : SeV W z gw gd) (hZ : SeC z gw gd gp zs zw zp zd)
    (hp : ∀ a b c d e g h i j k l m n o p, post (kinV W kd A B z gw gd gp S f) a b c d e g h i j k l m n o p) : P_X7_likelyKinds (nI f) tf tcw tt cf cw ct tk ck th ch tl cl9 to co ttw ctw ttp ctp fd fs nd ns fl nl fp np fsh nsh zs zd fdi zw zp post := by
  have hF := hV.1
  unfold P_X7_likelyKinds P_X1_takeOver
  refine ⟨6, ?_⟩
  have key : ∀ k i tk' td ts tl' tp tsh tdi, i + k = 5 → (∀ g, g < F → g ≠ f → tk' g = nI (kd g)) → P_X7_likelyKinds_L14 cf cw ct ck ch cl9 co ctw ctp nd ns nl np nsh zs zd zw zp post (k + 1) (nI f) (orB (fun k => seeB W (va_up kd f k) A B z gw gd gp S) 0 i) (nI i) cf cw ct tk' (va_cpy ch th 0 0 6) (va_cpy cl9 tl 0 0 6) (va_cpy co to 0 0 18) (va_cpy ctw ttw 0 0 6) (va_cpy ctp ttp 0 0 6) td ts tl' tp tsh tdi := by
    intro k
    induction k with
    | zero =>
      intro i tk' td ts tl' tp tsh tdi hi hk
      rw [P_X7_likelyKinds_L14]
      have e : i = 5 := by omega
      subst e
      exact ⟨fun _ => hp _ _ _ _ _ _ _ _ _ _ _ _ _ _ _, fun q => absurd (Int32.le_refl _) q⟩
    | succ k ih =>
      intro i tk' td ts tl' tp tsh tdi hi hk
      rw [P_X7_likelyKinds_L14]
      refine ⟨fun q => absurd q (nI_ge (a := i) (b := 5) (by omega) (by omega)), fun _ => ⟨ni_out (by omega) (by omega), ?_⟩⟩
      unfold P_X6_takeOver P_X7_likelyKinds_b64
      rw [cl (by omega)]
      have hV2 := CoV_kd (f := f) (k := i) hV (by omega)
      have hKC2 : CoC F W (va_up kd f i) A B cw (va_cpy co to 0 0 18) (upd tk' f (nI i)) := by
        refine ⟨hKC.1, fun w hw => ?_, fun g hg => ?_⟩
        · have hW := hV.2.1
          rw [sb_cpy0 (by omega), sb_cpy0 (by omega)]; exact hKC.2.1 w hw
        · simp only [va_up]
          by_cases e : g = f
          · subst e; rw [pk_us, if_pos rfl]
          · rw [pk_un e, if_neg e]; exact hk g hg e
      have hk2 : ∀ g, g < F → g ≠ f → upd tk' f (nI i) g = nI (kd g) := fun g hg hne => by rw [pk_un hne]; exact hk g hg hne
      have nx := ih (i + 1) (upd tk' f (nI i))
      rw [orB] at nx
      refine comeTrue_C hV2 hKC2 hL (StC_copy hF hSC) hZV hZ (fun q d di l p => ⟨fun z => absurd z (by decide), fun _ => ?_⟩) (fun q d di l p => ⟨fun _ => ?_, fun z => absurd rfl z⟩)
      · rw [if_pos (seeB_1.mpr q)] at nx
        rw [nI_1]; exact nx _ _ _ _ _ _ (by omega) hk2
      · rw [if_neg (fun z => q (seeB_1.mp z))] at nx
        rw [nI_1]; exact nx _ _ _ _ _ _ (by omega) hk2
  exact key 5 0 _ _ _ _ _ _ _ (by omega) (fun g hg hne => by rw [sb_cpy0 (by omega)]; exact hKC.2.2 g hg)
theorem kinds_M {F W z f : Nat} {kd A B gw gd : Nat → Nat} {gp : Nat → Int32} {S : St} {post : Int32 → (Nat → Int32) → (Nat → Int32) → (Nat → Int32) → (Nat → Int32) → Prop} (hV : CoV F W kd A B) (hKM : CoM F W kd A B mw mfi mse msort) (emf : mf = nI F) (hI : idl = 0) (hf : f < F) (hL : LdV F S) (hSM : StM F 0 S slot) (hZV : SeV W z gw gd) (hZ : SeC z gw gd gp seens sw sp st)
    (hp : ∀ so sl a b, CoM F W kd A B mw mfi mse so → (∀ j, j < 385 → sl j = slot j) → post (kinV W kd A B z gw gd gp S f) so sl a b) : P_X9_kinds (nI f) mf mw seens idl msort slot mfi d1 mse d2 st sw sp post := by
  have hF := hV.1
  unfold P_X9_kinds
  refine famM_1 (by rw [emf]; exact nI_InR (by omega) hf) ⟨fun _ => ⟨ni_out (by omega) (by omega), 6, ?_⟩, fun z => absurd z (by decide)⟩
  rw [cl (by omega), hKM.2.2 f hf]
  have key : ∀ k i so sl e1 e2, i + k = 5 → (∀ g, g < F → g ≠ f → so g = nI (kd g)) → (∀ j, j < 385 → sl j = slot j) → P_X9_kinds_L22 mf mw seens idl mfi mse st sw sp post (k + 1) (nI f) (nI (kd f)) (orB (fun k => seeB W (va_up kd f k) A B z gw gd gp S) 0 i) (nI i) so sl e1 e2 := by
    intro k
    induction k with
    | zero =>
      intro i so sl e1 e2 hi hk hfar
      rw [P_X9_kinds_L22]
      have e : i = 5 := by omega
      subst e
      refine ⟨fun _ => ⟨ni_out (by omega) (by omega), ?_⟩, fun q => absurd (by decide) q⟩
      rw [cl (by omega)]
      refine hp _ _ _ _ ⟨hKM.1, hKM.2.1, fun g hg => ?_⟩ hfar
      by_cases e : g = f
      · subst e; exact pk_us
      · rw [pk_un e]; exact hk g hg e
    | succ k ih =>
      intro i so sl e1 e2 hi hk hfar
      rw [P_X9_kinds_L22]
      refine ⟨fun q => absurd ((nI_ltI (a := 4) (b := i) (by omega) (by omega)).mp q) (by omega), fun _ => ?_⟩
      refine trial_M hF (StM_row hF hSM (slot' := sl) (fun k hk => hfar _ (by omega))) (fun sl1 hs1 hf1 => ⟨ni_out (by omega) (by omega), ?_⟩)
      unfold P_X9_kinds_b60
      rw [cl (by omega)]
      have hV2 := CoV_kd (f := f) (k := i) hV (by omega)
      have hKM2 : CoM F W (va_up kd f i) A B mw mfi mse (upd so f (nI i)) := by
        refine ⟨hKM.1, hKM.2.1, fun g hg => ?_⟩
        simp only [va_up]
        by_cases e : g = f
        · subst e; rw [pk_us, if_pos rfl]
        · rw [pk_un e, if_neg e]; exact hk g hg e
      have hk2 : ∀ g, g < F → g ≠ f → upd so f (nI i) g = nI (kd g) := fun g hg hne => by rw [pk_un hne]; exact hk g hg hne
      have nx := ih (i + 1) (upd so f (nI i))
      rw [orB] at nx
      refine isSo_M hV2 hKM2 hI hL hs1 hZV hZ (fun q a b sl' h => ⟨fun z => absurd z (by decide), fun _ => ?_⟩) (fun q a b sl' h => ⟨fun _ => ?_, fun z => absurd rfl z⟩)
      · rw [if_pos (seeB_1.mpr q)] at nx
        rw [nI_1]; exact nx _ _ _ (by omega) hk2 (fun j hj => ((h j hj).trans (hf1 j hj)).trans (hfar j hj))
      · rw [if_neg (fun z => q (seeB_1.mp z))] at nx
        rw [nI_1, Int32.or_zero]; exact nx _ _ _ (by omega) hk2 (fun j hj => ((h j hj).trans (hf1 j hj)).trans (hfar j hj))
  exact key 5 0 msort slot d1 d2 (by omega) (fun g hg _ => hKM.2.2 g hg) (fun _ _ => rfl)
theorem q_kinds (h : RelX xl xt cf cw ct ck ch co ctw ctp nd ns nl np nsh us p8 ks p2 zs zw zp zd mf mw mt msort mh mfi mse mby moff slot acts keeps ml mtx seens sw sp st idl) (x : Int32) {tf tcw tt : Int32} {tk th tl to ttw ttp cl9 : Nat → Int32} : P_X8_kinds x cf cw ct tf tcw tt tk ck th ch tl cl9 to co ttw ctw ttp ctp fd fs nd ns fl nl fp np fsh nsh zs zd fdi zw zp (fun r _ _ _ _ _ _ _ _ _ _ _ _ _ _ _ => P_X9_kinds x mf mw seens idl msort slot mfi d1 mse d2 st sw sp (fun r' msort' slot' _ _ => r = r' ∧ RelX xl xt cf cw ct ck ch co ctw ctp nd ns nl np nsh us p8 ks p2 zs zw zp zd mf mw mt msort' mh mfi mse mby moff slot' acts keeps ml mtx seens sw sp st idl)) := by
  have hall : ∀ slot', (∀ j, j < 385 → slot' j = slot j) → RelX xl xt cf cw ct ck ch co ctw ctp nd ns nl np nsh us p8 ks p2 zs zw zp zd mf mw mt msort mh mfi mse mby moff slot' acts keeps ml mtx seens sw sp st idl := fun slot' e => RelX_slot h e
  obtain ⟨hT, hI, F, W, T, kd, hr, A, B, tw, tp, hC, hN, hU, hK, hZ⟩ := id h
  obtain ⟨hV, hF1, hW8, hT6, hr12, hc4, htw, ecf, emf, ect, emt, hKC, hKM, hhr, hrow⟩ := id hC
  obtain ⟨S, hS, hSC, hSM⟩ := id hN
  have hF := hV.1
  obtain ⟨z, gw, gd, gp, hZV, hZC, hZM⟩ := RSe_out hV.2.1 hZ
  unfold P_X8_kinds
  by_cases h1 : InR x 0 (nI F - 1)
  · refine famC_1 (by rw [ecf]; exact h1) ⟨fun z => absurd z (by decide), fun _ => ?_⟩
    obtain ⟨f, hf, rfl⟩ := InR_n (by omega) h1
    refine kinds_C hV hKC hf hS.1 hSC hZV hZC (fun _ _ _ _ _ _ _ _ _ _ _ _ _ _ _ => ?_)
    refine kinds_M hV hKM emf hI hf hS.1 hSM hZV hZM (fun so sl a b hso hfar => ⟨rfl, ?_⟩)
    exact ⟨hT, hI, F, W, T, kd, hr, A, B, tw, tp, ⟨hV, hF1, hW8, hT6, hr12, hc4, htw, ecf, emf, ect, emt, hKC, hso, hhr, hrow⟩, RSt_row hF hN (fun k hk => hfar _ (by omega)), RUn_row hF hU (fun j _ hj => hfar j (by omega)), RKe_row hF hK (fun j _ hj => hfar j (by omega)), hZ⟩
  · refine famC_0 (by rw [ecf]; exact h1) ⟨fun _ => ?_, fun z => absurd rfl z⟩
    unfold P_X9_kinds
    exact famM_0 (by rw [emf]; exact h1) ⟨fun z => absurd rfl z, fun _ => ⟨rfl, h⟩⟩
/-! years -/
def drw (y d : Int32) : Int32 := (((((((7919 : Int64) * (y.toInt64)) + ((6151 : Int64) * (d.toInt64))) + (1 : Int64)) * ((((7919 : Int64) * (y.toInt64)) + ((6151 : Int64) * (d.toInt64))) + (1 : Int64))) - (((((7919 : Int64) * (y.toInt64)) + ((6151 : Int64) * (d.toInt64))) + (1 : Int64)) * ((((7919 : Int64) * (y.toInt64)) + ((6151 : Int64) * (d.toInt64))) + (1 : Int64))) / (65521 : Int64) * (65521 : Int64)) / (2 : Int64)).toInt32
def trnY (F : Nat) (v : Int32) (S : St) : St := (S.1, (if v / 8 - v / 8 / 3 * 3 = 0 then S.2.1 ^^^ (1 <<< ((v - v / nI F * nI F) &&& 31)) else S.2.1), S.2.2)
def yS (F W : Nat) (kd A B : Nat → Nat) (y : Int32) (S : St) : Nat → St
  | 0 => S
  | i + 1 => dayS W kd A B 0 (trnY F (drw y (nI i)) (yS F W kd A B y S i))
def yF (F W : Nat) (kd A B : Nat → Nat) (y : Int32) (S : St) : Nat → Nat
  | 0 => 0
  | i + 1 => yF F W kd A B y S i + dayF W kd A B 0 (trnY F (drw y (nI i)) (yS F W kd A B y S i))
def mxN (ld : Nat → Nat) : Nat → Nat
  | 0 => 0
  | f + 1 => if mxN ld f < ld f then ld f else mxN ld f
theorem yS_LdV {F W : Nat} {kd A B : Nat → Nat} {y : Int32} {S : St} (hV : CoV F W kd A B) (h : LdV F S) : ∀ i, LdV F (yS F W kd A B y S i) := by
  intro i
  induction i with
  | zero => exact h
  | succ i ih => exact dayS_LdV hV ih
theorem mxN_le {ld : Nat → Nat} {F : Nat} (h : ∀ f, f < F → ld f ≤ 1000) : ∀ f, f ≤ F → mxN ld f ≤ 1000 := by
  intro f
  induction f with
  | zero => intro _; exact Nat.zero_le _
  | succ f ih =>
    intro hf
    rw [mxN]
    split
    · exact h f (by omega)
    · exact ih (by omega)
theorem year_C {F W n : Nat} {kd A B : Nat → Nat} {S : St} {y g1 g2 : Int32} {post : Int32 → Int32 → Int32 → Int32 → (Nat → Int32) → (Nat → Int32) → (Nat → Int32) → (Nat → Int32) → Prop} (hV : CoV F W kd A B) (hKC : CoC F W kd A B cw co ck) (ecf : cf = nI F) (hF1 : 1 ≤ F) (hn : n ≤ 60) (hL : LdV F S) (hSC : StC F S nd ns nl np nsh)
    (hp : ∀ a b c d e g, post (nI (mxN (yS F W kd A B y S n).2.2.1 F)) (nI (yF F W kd A B y S n)) a b c d e g) : P_X0_goYear y (nI n) g1 g2 fd fs nd ns fl nl fp np fsh nsh cf cw co fdi ck post := by
  have hF := hV.1
  unfold P_X0_goYear P_X6_takeOver
  refine ⟨n + 1, ?_⟩
  rw [ecf]
  have key : ∀ k i m td ts tl tp tsh tdi, i + k = n → StC F (yS F W kd A B y S i) td ts tl tp tsh → P_X0_goYear_L16 nd ns nl np nsh (nI F) cw co ck post (k + 1) y (nI n) (nI i) m (nI (yF F W kd A B y S i)) td ts tl tp tsh tdi := by
    intro k
    induction k with
    | zero =>
      intro i m td ts tl tp tsh tdi hi hs
      rw [P_X0_goYear_L16]
      have e : i = n := by omega
      subst e
      refine ⟨fun _ => ⟨F + 1, ?_⟩, fun q => absurd (nI_le (Nat.le_refl _) (by omega)) q⟩
      have hl := yS_LdV (y := y) hV hL i
      have hle := mxN_le (ld := (yS F W kd A B y S i).2.2.1) (fun f hf => LdV_lt hl hf)
      have inner : ∀ k2 f, f + k2 = F → P_X0_goYear_L66 nd ns nl np nsh (nI F) cw co ck post (k2 + 1) (nI f) (nI (mxN (yS F W kd A B y S i).2.2.1 f)) (nI (yF F W kd A B y S i)) td ts tl tp tsh tdi := by
        intro k2
        induction k2 with
        | zero =>
          intro f hf
          rw [P_X0_goYear_L66]
          have e : f = F := by omega
          rw [e]
          exact ⟨fun _ => hp _ _ _ _ _ _, fun q => absurd (nI_le (Nat.le_refl _) (by omega)) q⟩
        | succ k2 ih2 =>
          intro f hf
          rw [P_X0_goYear_L66]
          have h1 := hle f (by omega)
          have h2 := LdV_lt hl (show f < F by omega)
          refine ⟨fun q => absurd q (nI_ge (by omega) (by omega)), fun _ => ⟨ni_out (by omega) (by omega), ?_⟩⟩
          rw [cl (by omega), hs.2.2.1 f (by omega), nI_1]
          have nx := ih2 (f + 1) (by omega)
          rw [mxN] at nx
          by_cases q : mxN (yS F W kd A B y S i).2.2.1 f < (yS F W kd A B y S i).2.2.1 f
          · rw [if_pos ((ni_lt (by omega) (by omega)).mpr q)]; rw [if_pos q] at nx; exact nx
          · rw [if_neg (fun z => q ((ni_lt (by omega) (by omega)).mp z))]; rw [if_neg q] at nx; exact nx
      exact inner F 0 (by omega)
    | succ k ih =>
      intro i m td ts tl tp tsh tdi hi hs
      rw [P_X0_goYear_L16]
      refine ⟨fun q => absurd q (nI_ge (by omega) (by omega)), fun _ => ?_⟩
      unfold P_X0_draw P_X0_turnByDraw P_X6_turnSickness
      refine ⟨by decide, by decide, ?_⟩
      have go : ∀ s', s' = (trnY F (drw y (nI i)) (yS F W kd A B y S i)).2.1 → P_X6_goDay 0 cw co td s' tdi tsh ck tl tp (fun r45 td2 tdi2 tl2 tp2 => P_X0_goYear_L16 nd ns nl np nsh (nI F) cw co ck post (k + 1) y (nI n) (nI i + 1) m (nI (yF F W kd A B y S i) + r45) td2 s' tl2 tp2 tsh tdi2) := by
        intro s' hs'
        have hs2 : StC F (trnY F (drw y (nI i)) (yS F W kd A B y S i)) td s' tl tp tsh := ⟨hs.1, hs', hs.2.2⟩
        have hL2 : LdV F (trnY F (drw y (nI i)) (yS F W kd A B y S i)) := yS_LdV (y := y) hV hL i
        refine goDay_C hV hKC hL2 hs2 (fun di' l' p' hs3 => ?_)
        rw [nI_1, na]
        exact ih (i + 1) _ _ _ _ _ _ _ (by omega) hs3
      refine ⟨fun q => ?_, fun _ => ⟨by decide, by decide, fun q => go _ ?_, fun q => ⟨?_, go _ ?_⟩⟩⟩
      · rw [ni_le0 (by omega)] at q; omega
      · have q' : ¬ (drw y (nI i) / 8 - drw y (nI i) / 8 / 3 * 3 = 0) := q
        show ts = if _ then _ else _
        rw [if_neg q', hs.2.1]
      · rw [ni_e0 (by omega)]; omega
      · have q' : drw y (nI i) / 8 - drw y (nI i) / 8 / 3 * 3 = 0 := q
        show _ = if _ then _ else _
        rw [if_pos q', hs.2.1]; rfl
  exact key n 0 g1 _ _ _ _ _ _ (by omega) (StC_copy hF hSC)
theorem year_M {F W n : Nat} {kd A B : Nat → Nat} {S : St} {y x3 : Int32} {post : Int32 → (Nat → Int32) → (Nat → Int32) → (Nat → Int32) → Prop} (hV : CoV F W kd A B) (hKM : CoM F W kd A B mw mfi mse msort) (emf : mf = nI F) (hI : idl = 0) (hF1 : 1 ≤ F) (hy : InR y 0 9999) (hn1 : 1 ≤ n) (hn : n ≤ 60) (hx : InR x3 0 1) (hL : LdV F S) (hSM : StM F 0 S slot)
    (h1 : ¬ x3 = 0 → ∀ sl a b, (∀ j, j < 385 → sl j = slot j) → post (nI (yF F W kd A B y S n)) sl a b) (h0 : x3 = 0 → ∀ sl a b, (∀ j, j < 385 → sl j = slot j) → post (nI (mxN (yS F W kd A B y S n).2.2.1 F)) sl a b) : P_X9_year y (nI n) x3 mf mw idl slot mfi d1 mse d2 msort post := by
  have hF := hV.1
  unfold P_X9_year
  refine in_y hy (by decide +kernel) (by decide +kernel) ⟨fun z => absurd z (by decide), fun _ => ?_⟩
  refine in_y (lo := 1) (hi := 60) ⟨nI_le (a := 1) hn1 (by omega), nI_le (b := 60) hn (by omega)⟩ (by decide +kernel) (by decide +kernel) ⟨fun z => absurd z (by decide), fun _ => ?_⟩
  refine in_y hx (by decide +kernel) (by decide +kernel) ⟨fun _ => ?_, fun z => absurd z (by decide)⟩
  refine trial_M hF hSM (fun sl1 hs1 hf1 => ⟨n + 1, ?_⟩)
  rw [emf, hI]
  have key : ∀ k i sl e1 e2, i + k = n → StM F 385 (yS F W kd A B y S i) sl → (∀ j, j < 385 → sl j = slot j) → P_X9_year_L50 (nI F) mw 0 mfi mse msort post (k + 1) y (nI n) x3 (nI (yF F W kd A B y S i)) (nI i) sl e1 e2 := by
    intro k
    induction k with
    | zero =>
      intro i sl e1 e2 hi hs hfar
      rw [P_X9_year_L50]
      have e : i = n := by omega
      subst e
      refine ⟨fun _ => ⟨F + 1, ?_⟩, fun q => absurd (nI_le (Nat.le_refl _) (by omega)) q⟩
      have hl := yS_LdV (y := y) hV hL i
      have hle := mxN_le (ld := (yS F W kd A B y S i).2.2.1) (fun f hf => LdV_lt hl hf)
      have inner : ∀ k2 f, f + k2 = F → P_X9_year_L148 (nI F) mw 0 mfi mse msort post (k2 + 1) x3 (nI (yF F W kd A B y S i)) (nI (mxN (yS F W kd A B y S i).2.2.1 f)) (nI f) sl e1 e2 := by
        intro k2
        induction k2 with
        | zero =>
          intro f hf
          rw [P_X9_year_L148]
          have e : f = F := by omega
          rw [e]
          exact ⟨fun _ => ⟨fun q => h1 q _ _ _ hfar, fun q => h0 q _ _ _ hfar⟩, fun q => absurd (nI_le (Nat.le_refl _) (by omega)) q⟩
        | succ k2 ih2 =>
          intro f hf
          rw [P_X9_year_L148]
          have g1 := hle f (by omega)
          have g2 := LdV_lt hl (show f < F by omega)
          have e385 : (385 : Int32) + nI f = nI (385 + f) := by rw [show (385 : Int32) = nI 385 from rfl, na]
          refine ⟨fun q => absurd q (nI_ge (by omega) (by omega)), fun _ => ?_⟩
          unfold P_X9_larger
          rw [e385, cl (by omega), hs.2.2.1 f (by omega), nI_1, nI_leI (by omega) (by omega)]
          refine ⟨ni_out (by omega) (by omega), ?_⟩
          have nx := ih2 (f + 1) (by omega)
          rw [mxN] at nx
          refine ⟨fun q => ?_, fun q => ?_⟩
          · rw [if_neg (by omega)] at nx; exact nx
          · rw [if_pos (by omega)] at nx; exact nx
      exact inner F 0 (by omega)
    | succ k ih =>
      intro i sl e1 e2 hi hs hfar
      rw [P_X9_year_L50]
      refine ⟨fun q => absurd q (nI_ge (by omega) (by omega)), fun _ => ⟨by decide, by decide, fun v hv => ?_⟩⟩
      have hv' : v = drw y (nI i) := hv
      have e2' : sl 418 = (yS F W kd A B y S i).2.1 := hs.2.1
      rw [show (418 : Int32).toNatClampNeg = 418 from rfl]
      have go : ∀ m, sl 418 ^^^ m = (trnY F v (yS F W kd A B y S i)).2.1 → P_X9_year_b122 (nI F) mw 0 mfi mse msort (P_X9_year_L50 (nI F) mw 0 mfi mse msort post (k + 1)) post y (nI n) x3 (nI (yF F W kd A B y S i)) (nI i) 418 (sl 418) m sl e1 e2 := by
        intro m hm
        unfold P_X9_year_b122
        rw [show (418 : Int32).toNatClampNeg = 418 from rfl]
        refine ⟨ni_out (n := 418) (by omega) (by omega), ?_⟩
        have hs2 : StM F 385 (trnY F v (yS F W kd A B y S i)) (upd sl 418 (sl 418 ^^^ m)) := by
          obtain ⟨g1, g2, g3, g4⟩ := hs
          refine ⟨by rw [pk_un (by omega)]; exact g1, by show upd sl 418 _ 418 = _; rw [pk_us, hm], fun f hf => by rw [pk_un (by omega)]; exact g3 f hf, fun w hw => ⟨by rw [pk_un (by omega)]; exact (g4 w hw).1, by rw [pk_un (by omega)]; exact (g4 w hw).2.1, by rw [pk_un (by omega)]; exact (g4 w hw).2.2⟩⟩
        have hL2 : LdV F (trnY F v (yS F W kd A B y S i)) := yS_LdV (y := y) hV hL i
        refine passes_M (b := 385) hV hKM (by omega) hL2 hs2 (fun e1' e2' sl' hs' hf' => ?_)
        rw [nI_1, na]
        rw [hv'] at hs' ⊢
        exact ih (i + 1) sl' _ _ (by omega) hs' (fun j hj => by rw [hf' j (by omega), pk_un (by omega)]; exact hfar j hj)
      refine ⟨ni_out (n := 418) (by omega) (by omega), by decide, by decide, fun q => go _ ?_, fun q => ⟨?_, go _ ?_⟩⟩
      · show _ = if _ then _ else _
        rw [if_neg q, Int32.xor_zero, e2']
      · rw [ni_e0 (by omega)]; omega
      · show _ = if _ then _ else _
        rw [if_pos q, e2']
  exact key n 0 sl1 d1 d2 (by omega) hs1 hf1
theorem q_year (h : RelX xl xt cf cw ct ck ch co ctw ctp nd ns nl np nsh us p8 ks p2 zs zw zp zd mf mw mt msort mh mfi mse mby moff slot acts keeps ml mtx seens sw sp st idl) (x1 x2 x3 : Int32) {g1 g2 : Int32} : P_X8_year x1 x2 x3 g1 g2 fd fs nd ns fl nl fp np fsh nsh cf cw co fdi ck (fun r _ _ _ _ _ _ _ _ => P_X9_year x1 x2 x3 mf mw idl slot mfi d1 mse d2 msort (fun r' slot' _ _ => r = r' ∧ RelX xl xt cf cw ct ck ch co ctw ctp nd ns nl np nsh us p8 ks p2 zs zw zp zd mf mw mt msort mh mfi mse mby moff slot' acts keeps ml mtx seens sw sp st idl)) := by
  have hall : ∀ slot', (∀ j, j < 385 → slot' j = slot j) → RelX xl xt cf cw ct ck ch co ctw ctp nd ns nl np nsh us p8 ks p2 zs zw zp zd mf mw mt msort mh mfi mse mby moff slot' acts keeps ml mtx seens sw sp st idl := fun slot' e => RelX_slot h e
  obtain ⟨hT, hI, F, W, T, kd, hr, A, B, tw, tp, hC, hN, hU, hK, hZ⟩ := id h
  obtain ⟨hV, hF1, hW8, hT6, hr12, hc4, htw, ecf, emf, ect, emt, hKC, hKM, hhr, hrow⟩ := id hC
  obtain ⟨S, hS, hSC, hSM⟩ := id hN
  unfold P_X8_year
  by_cases h1 : InR x1 0 9999
  · refine within_1 h1 ⟨fun z => absurd z (by decide), fun _ => ?_⟩
    by_cases h2 : InR x2 1 60
    · refine within_1 h2 ⟨fun z => absurd z (by decide), fun _ => ?_⟩
      by_cases h3 : InR x3 0 1
      · refine within_1 h3 ⟨fun _ => ?_, fun z => absurd z (by decide)⟩
        obtain ⟨n, hn1, hn, rfl⟩ := InR_c (lo := 1) (hi := 60) (by omega) (by omega) h2
        refine year_C hV hKC ecf hF1 hn hS.1 hSC (fun _ _ _ _ _ _ => ⟨fun q => ?_, fun q => ?_⟩)
        · exact year_M hV hKM emf hI hF1 h1 hn1 hn h3 hS.1 hSM (fun _ sl a b hfar => ⟨rfl, hall _ hfar⟩) (fun z => absurd z q)
        · exact year_M hV hKM emf hI hF1 h1 hn1 hn h3 hS.1 hSM (fun z => absurd q z) (fun _ sl a b hfar => ⟨rfl, hall _ hfar⟩)
      · refine within_0 h3 ⟨fun z => absurd rfl z, fun _ => ?_⟩
        unfold P_X9_year
        refine in_y h1 (by decide +kernel) (by decide +kernel) ⟨fun z => absurd z (by decide), fun _ => ?_⟩
        refine in_y h2 (by decide +kernel) (by decide +kernel) ⟨fun z => absurd z (by decide), fun _ => ?_⟩
        exact in_n h3 (by decide +kernel) (by decide +kernel) ⟨fun z => absurd rfl z, fun _ => ⟨rfl, h⟩⟩
    · refine within_0 h2 ⟨fun _ => ?_, fun z => absurd rfl z⟩
      unfold P_X9_year
      refine in_y h1 (by decide +kernel) (by decide +kernel) ⟨fun z => absurd z (by decide), fun _ => ?_⟩
      exact in_n h2 (by decide +kernel) (by decide +kernel) ⟨fun _ => ⟨rfl, h⟩, fun z => absurd rfl z⟩
  · refine within_0 h1 ⟨fun _ => ?_, fun z => absurd rfl z⟩
    unfold P_X9_year
    exact in_n h1 (by decide +kernel) (by decide +kernel) ⟨fun _ => ⟨rfl, h⟩, fun z => absurd rfl z⟩
end

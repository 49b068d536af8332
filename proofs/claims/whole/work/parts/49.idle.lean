section
variable {xl : Int32} {xt : Nat → Int32} {cf cw ct : Int32} {ck ch co ctw ctp : Nat → Int32} {nd ns : Int32} {nl np nsh : Nat → Int32} {us : Int32} {p8 : Nat → SVt} {ks : Int32} {p2 : Nat → SVt} {zs : Int32} {zw zp zd : Nat → Int32}
variable {mf mw mt : Int32} {msort mh mfi mse mby moff slot : Nat → Int32} {acts keeps ml : Int32} {mtx : Nat → Int32} {seens : Int32} {sw sp st : Nat → Int32} {idl : Int32}
variable {fd fs : Int32} {fl fp fsh fdi d1 d2 : Nat → Int32}
/-! idleness -/
def wtN (b x : Nat) : Nat → Nat
  | 0 => 1
  | f + 1 => wtN b x f * (if bitP (nI b) f then x else 10 - x)
def totN (F x : Nat) : Nat → Nat
  | 0 => 0
  | b + 1 => totN F x b + wtN b x F
def aboN (F W : Nat) (kd A B : Nat → Nat) (S : St) (f l x : Nat) : Nat → Nat
  | 0 => 0
  | b + 1 => if (dayS W kd A B (nI b) S).2.2.1 f < l then aboN F W kd A B S f l x b else aboN F W kd A B S f l x b + wtN b x F
theorem tot_eq : ∀ F, F < 7 → ∀ x, x < 11 → totN F x (2 ^ F) = 10 ^ F := by decide +kernel
theorem shl_eq : ∀ F, F < 7 → (1 : Int32) <<< (nI F &&& 31) = nI (2 ^ F) ∧ 2 ^ F < 65 ∧ 10 ^ F < 2 ^ 20 ∧ 1 ≤ 10 ^ F := by decide +kernel
theorem wtN_le {b x : Nat} (hx : x ≤ 10) : ∀ f, wtN b x f ≤ 10 ^ f := by
  intro f
  induction f with
  | zero => exact Nat.le_refl _
  | succ f ih =>
    rw [wtN, Nat.pow_succ]
    refine Nat.mul_le_mul ih ?_
    split
    · exact hx
    · omega
theorem aboN_le {F W : Nat} {kd A B : Nat → Nat} {S : St} {f l x : Nat} : ∀ b, aboN F W kd A B S f l x b ≤ totN F x b := by
  intro b
  induction b with
  | zero => exact Nat.le_refl _
  | succ b ih =>
    rw [aboN, totN]
    split
    · omega
    · omega
theorem totN_mono {F x : Nat} : ∀ n b, b ≤ n → totN F x b ≤ totN F x n := by
  intro n
  induction n with
  | zero => intro b h; rw [show b = 0 by omega]; exact Nat.le_refl _
  | succ n ih =>
    intro b h
    by_cases e : b = n + 1
    · rw [e]; exact Nat.le_refl _
    · have := ih b (by omega)
      rw [totN]; omega
theorem weight_C {F b x : Nat} {post : Int32 → Prop} (hF : F ≤ 6) (hx : x ≤ 10) (hp : post (nI (wtN b x F))) : P_X0_weight (nI F) (nI b) (nI x) post := by
  unfold P_X0_weight
  refine ⟨F + 1, ?_⟩
  have key : ∀ k i, i + k = F → P_X0_weight_L5 post (k + 1) (nI F) (nI b) (nI x) (nI (wtN b x i)) (nI i) := by
    intro k
    induction k with
    | zero =>
      intro i hi
      rw [P_X0_weight_L5]
      have e : i = F := by omega
      rw [e]
      exact ⟨fun _ => hp, fun q => absurd (nI_le (Nat.le_refl _) (by omega)) q⟩
    | succ k ih =>
      intro i hi
      rw [P_X0_weight_L5]
      unfold P_X0_weight_b30
      have nx := ih (i + 1) (by omega)
      rw [wtN] at nx
      have e10 : (10 : Int32) - nI x = nI (10 - x) := pk_sub (a := 10) hx
      rw [nI_1, e10, pk_mul, pk_mul]
      refine ⟨fun q => absurd q (nI_ge (by omega) (by omega)), fun _ => ⟨fun q => ?_, fun q => ?_⟩⟩
      · rw [if_neg q] at nx; exact nx
      · rw [if_pos q] at nx; exact nx
  exact key F 0 (by omega)
theorem half_mod {b r : Nat} (h0 : 0 < r) (h : r < b) : 2 * (b % r) < b := by
  have h1 := Nat.mod_lt b h0
  have h2 := Nat.div_add_mod b r
  have h3 : 1 ≤ b / r := Nat.div_pos (by omega) h0
  have h4 : r * 1 ≤ r * (b / r) := Nat.mul_le_mul_left r h3
  omega
theorem gcd_step (a b : Nat) : Nat.gcd a b = Nat.gcd b (a % b) := by rw [Nat.gcd_comm, Nat.gcd_rec, Nat.gcd_comm]
theorem divisor_C {a b : Nat} {post : Int32 → Prop} (ha : a < 2 ^ 31) (hb : b < 2 ^ 20) (hp : post (nI (Nat.gcd a b))) : P_X0_commonDivisor (nI a) (nI b) post := by
  unfold P_X0_commonDivisor
  refine ⟨65, ?_⟩
  have fin : ∀ a s g, s < 64 → post (nI a) → P_X0_commonDivisor_L7 post (g + 1) (nI a) (nI 0) (nI s) := by
    intro a s g hs h
    rw [P_X0_commonDivisor_L7]
    exact ⟨fun _ => h, fun _ => ⟨fun _ => h, fun z => absurd rfl z⟩⟩
  have stp : ∀ a b s g, s < 64 → a < 2 ^ 31 → 0 < b → b < 2 ^ 31 → P_X0_commonDivisor_L7 post g (nI b) (nI (a % b)) (nI (s + 1)) → P_X0_commonDivisor_L7 post (g + 1) (nI a) (nI b) (nI s) := by
    intro a b s g hs ha hb0 hb h
    rw [P_X0_commonDivisor_L7, pk_rem ha hb0 hb, nI_1]
    have hz : ¬ nI b = 0 := fun z => by rw [ni_e0 hb] at z; omega
    exact ⟨fun q => absurd q (nI_ge (a := s) (b := 64) hs (by omega)), fun _ => ⟨fun z => absurd z hz, fun _ => ⟨hz, h⟩⟩⟩
  have key : ∀ k a b s g, g + s = 65 → a < 2 ^ 31 → b < 2 ^ k → k ≤ 20 → s + 2 * k ≤ 62 → post (nI (Nat.gcd a b)) → P_X0_commonDivisor_L7 post g (nI a) (nI b) (nI s) := by
    intro k
    induction k with
    | zero =>
      intro a b s g hg ha hb hk hs h
      have e : b = 0 := by omega
      subst e
      rw [Nat.gcd_zero_right] at h
      rw [show g = (g - 1) + 1 by omega]
      exact fin a s _ (by omega) h
    | succ k ih =>
      intro a b s g hg ha hb hk hs h
      have hb20 : b < 2 ^ 31 := Nat.lt_of_lt_of_le hb (Nat.pow_le_pow_right (by omega) (by omega))
      by_cases e : b = 0
      · subst e
        rw [Nat.gcd_zero_right] at h
        rw [show g = (g - 1) + 1 by omega]
        exact fin a s _ (by omega) h
      · rw [gcd_step] at h
        rw [show g = (g - 1) + 1 by omega]
        refine stp a b s _ (by omega) ha (by omega) hb20 ?_
        have hr := Nat.mod_lt a (show b > 0 by omega)
        by_cases e2 : a % b = 0
        · rw [e2] at h ⊢
          rw [Nat.gcd_zero_right] at h
          rw [show g - 1 = (g - 2) + 1 by omega]
          exact fin b (s + 1) _ (by omega) h
        · rw [gcd_step] at h
          rw [show g - 1 = (g - 2) + 1 by omega]
          refine stp b (a % b) (s + 1) _ (by omega) hb20 (by omega) (by omega) ?_
          have hh := half_mod (b := b) (r := a % b) (by omega) hr
          rw [Nat.pow_succ] at hb
          exact ih (a % b) (b % (a % b)) (s + 1 + 1) (g - 2) (by omega) (by omega) (by omega) (by omega) (by omega) h
  exact key 20 a b 0 65 (by omega) ha hb (by omega) (by omega) hp
theorem idle_C {F W f l x : Nat} {kd A B : Nat → Nat} {S : St} {g1 g2 : Int32} {post : Int32 → Int32 → Int32 → Int32 → (Nat → Int32) → (Nat → Int32) → (Nat → Int32) → (Nat → Int32) → Prop} (hV : CoV F W kd A B) (hKC : CoC F W kd A B cw co ck) (ecf : cf = nI F) (hf : f < F) (hl : l ≤ 99) (hx : x ≤ 10) (hL : LdV F S) (hSC : StC F S nd ns nl np nsh)
    (hp : ∀ a b c d e g, post (nI (aboN F W kd A B S f l x (2 ^ F) / Nat.gcd (aboN F W kd A B S f l x (2 ^ F)) (10 ^ F))) (nI (10 ^ F / Nat.gcd (aboN F W kd A B S f l x (2 ^ F)) (10 ^ F))) a b c d e g) : P_X0_weighIdleness (nI f) (nI l) (nI x) g1 g2 cf cw fd fs nd ns fl nl fp np fsh nsh co fdi ck post := by
  have hF := hV.1
  obtain ⟨s1, s2, s3, s4⟩ := shl_eq F (by omega)
  have htot := tot_eq F (by omega) x (by omega)
  unfold P_X0_weighIdleness
  refine ⟨F + 1, ?_⟩
  rw [ecf]
  have second : ∀ td ts tl tp tsh tdi, ∃ n42, P_X0_weighIdleness_L42 (nI F) cw nd ns nl np nsh co ck post n42 (nI f) (nI l) (nI x) 0 0 (nI (10 ^ F)) td ts tl tp tsh tdi := by
    intro td ts tl tp tsh tdi
    refine ⟨2 ^ F + 1, ?_⟩
    have key : ∀ k b td ts tl tp tsh tdi, b + k = 2 ^ F → P_X0_weighIdleness_L42 (nI F) cw nd ns nl np nsh co ck post (k + 1) (nI f) (nI l) (nI x) (nI b) (nI (aboN F W kd A B S f l x b)) (nI (10 ^ F)) td ts tl tp tsh tdi := by
      intro k
      induction k with
      | zero =>
        intro b td ts tl tp tsh tdi hb
        rw [P_X0_weighIdleness_L42, s1]
        have e : b = 2 ^ F := by omega
        rw [e]
        refine ⟨fun _ => ?_, fun q => absurd (nI_le (Nat.le_refl _) (by omega)) q⟩
        have hab : aboN F W kd A B S f l x (2 ^ F) ≤ 10 ^ F := by rw [← htot]; exact aboN_le _
        have hg0 : 0 < Nat.gcd (aboN F W kd A B S f l x (2 ^ F)) (10 ^ F) := Nat.gcd_pos_of_pos_right _ (by omega)
        have hgl : Nat.gcd (aboN F W kd A B S f l x (2 ^ F)) (10 ^ F) ≤ 10 ^ F := Nat.gcd_le_right _ (by omega)
        refine divisor_C (by omega) s3 ⟨fun q => ?_, fun q => ?_⟩
        · rw [show (1 : Int32) = nI 1 from rfl, nI_leI (by omega) (by omega)] at q
          have e1 : Nat.gcd (aboN F W kd A B S f l x (2 ^ F)) (10 ^ F) = 1 := by omega
          have := hp td ts tl tp tsh tdi
          rw [e1, Nat.div_one, Nat.div_one] at this
          exact this
        · have hz : ¬ nI (Nat.gcd (aboN F W kd A B S f l x (2 ^ F)) (10 ^ F)) = 0 := fun z => by rw [ni_e0 (by omega)] at z; omega
          rw [pk_div (by omega) hg0 (by omega), pk_div (by omega) hg0 (by omega)]
          exact ⟨hz, hz, hp _ _ _ _ _ _⟩
      | succ k ih =>
        intro b td ts tl tp tsh tdi hb
        rw [P_X0_weighIdleness_L42, s1]
        refine ⟨fun q => absurd q (nI_ge (by omega) (by omega)), fun _ => ?_⟩
        unfold P_X6_takeOver P_X0_weighIdleness_b106
        refine goDay_C hV hKC hL (StC_copy hF hSC) (fun di' l' p' hs' => ⟨ni_out (by omega) (by omega), ?_⟩)
        have hl0 : LdV F (dayS W kd A B (nI b) S) := dayS_LdV hV hL
        have hl1 := LdV_lt hl0 hf
        rw [cl (by omega), hs'.2.2.1 f hf, ni_lt (by omega) (by omega), nI_1]
        have nx := ih (b + 1)
        rw [aboN] at nx
        refine ⟨fun q => ?_, fun q => weight_C hF hx ?_⟩
        · rw [if_pos q] at nx; exact nx _ _ _ _ _ _ (by omega)
        · rw [if_neg q] at nx; rw [na]; exact nx _ _ _ _ _ _ (by omega)
    exact key (2 ^ F) 0 _ _ _ _ _ _ (by omega)
  have first : ∀ k i, i + k = F → P_X0_weighIdleness_L13 (nI F) cw nd ns nl np nsh co ck post (k + 1) (nI f) (nI l) (nI x) (nI i) 0 (nI (10 ^ i)) fd fs fl fp fsh fdi := by
    intro k
    induction k with
    | zero =>
      intro i hi
      rw [P_X0_weighIdleness_L13]
      have e : i = F := by omega
      rw [e]
      exact ⟨fun _ => second _ _ _ _ _ _, fun q => absurd (nI_le (Nat.le_refl _) (by omega)) q⟩
    | succ k ih =>
      intro i hi
      rw [P_X0_weighIdleness_L13]
      refine ⟨fun q => absurd q (nI_ge (by omega) (by omega)), fun _ => ?_⟩
      rw [nI_1, show (10 : Int32) = nI 10 from rfl, pk_mul, ← Nat.pow_succ]
      exact ih (i + 1) (by omega)
  exact first F 0 (by omega)
theorem idle_M {F W f l x : Nat} {kd A B : Nat → Nat} {S : St} {x4 : Int32} {post : Int32 → Int32 → (Nat → Int32) → (Nat → Int32) → (Nat → Int32) → Prop} (hV : CoV F W kd A B) (hKM : CoM F W kd A B mw mfi mse msort) (emf : mf = nI F) (hf : f < F) (hl : l ≤ 99) (hx : x ≤ 10) (h4 : InR x4 0 1) (hL : LdV F S) (hSM : StM F 0 S slot)
    (h1 : ¬ x4 = 0 → ∀ sl a b, (∀ j, j < 385 → sl j = slot j) → post (nI (10 ^ F / Nat.gcd (aboN F W kd A B S f l x (2 ^ F)) (10 ^ F))) 0 sl a b) (h0 : x4 = 0 → ∀ sl a b, (∀ j, j < 385 → sl j = slot j) → post (nI (aboN F W kd A B S f l x (2 ^ F) / Nat.gcd (aboN F W kd A B S f l x (2 ^ F)) (10 ^ F))) 0 sl a b) (hI : idl = 0) : P_X9_idle (nI f) (nI l) (nI x) x4 mf mw idl slot mfi d1 mse d2 msort post := by
  have hF := hV.1
  have hW := hV.2.1
  obtain ⟨s1, s2, s3, s4⟩ := shl_eq F (by omega)
  have htot := tot_eq F (by omega) x (by omega)
  unfold P_X9_idle
  refine famM_1 (by rw [emf]; exact nI_InR (by omega) hf) ⟨fun z => absurd z (by decide), fun _ => ?_⟩
  refine in_y (lo := 0) (hi := 99) ⟨nI_pos' (by omega), nI_le (b := 99) hl (by omega)⟩ (by decide +kernel) (by decide +kernel) ⟨fun z => absurd z (by decide), fun _ => ?_⟩
  refine in_y (lo := 0) (hi := 10) ⟨nI_pos' (by omega), nI_le (b := 10) hx (by omega)⟩ (by decide +kernel) (by decide +kernel) ⟨fun z => absurd z (by decide), fun _ => ?_⟩
  refine in_y h4 (by decide +kernel) (by decide +kernel) ⟨fun _ => ⟨2 ^ F + 1, ?_⟩, fun z => absurd z (by decide)⟩
  rw [emf, hI]
  have key : ∀ k b sl e1 e2 il, b + k = 2 ^ F → (k = 0 ∨ il = il) → (∀ j, j < 385 → sl j = slot j) → il = 0 → P_X9_idle_L54 (nI F) mw mfi mse msort post (k + 1) (nI f) (nI l) (nI x) x4 (nI (aboN F W kd A B S f l x b)) (nI (totN F x b)) (nI b) il sl e1 e2 := by
    intro k
    induction k with
    | zero =>
      intro b sl e1 e2 il hb _ hfar hil
      rw [P_X9_idle_L54, s1]
      have e : b = 2 ^ F := by omega
      rw [e, htot, hil]
      refine ⟨fun _ => ?_, fun q => absurd (nI_le (Nat.le_refl _) (by omega)) q⟩
      have hab : aboN F W kd A B S f l x (2 ^ F) ≤ 10 ^ F := by rw [← htot]; exact aboN_le _
      have hg0 : 0 < Nat.gcd (aboN F W kd A B S f l x (2 ^ F)) (10 ^ F) := Nat.gcd_pos_of_pos_right _ (by omega)
      have hgl : Nat.gcd (aboN F W kd A B S f l x (2 ^ F)) (10 ^ F) ≤ 10 ^ F := Nat.gcd_le_right _ (by omega)
      have fin : ∀ a g, a = Nat.gcd (aboN F W kd A B S f l x (2 ^ F)) (10 ^ F) → P_X9_idle_L188 (nI F) mw mfi mse msort post (g + 1) x4 (nI (aboN F W kd A B S f l x (2 ^ F))) (nI (10 ^ F)) (nI a) (nI 0) 0 sl e1 e2 := by
        intro a g ha
        subst ha
        have hz : ¬ nI (Nat.gcd (aboN F W kd A B S f l x (2 ^ F)) (10 ^ F)) = 0 := fun z => by rw [ni_e0 (by omega)] at z; omega
        rw [P_X9_idle_L188, pk_div (by omega) hg0 (by omega), pk_div (by omega) hg0 (by omega)]
        exact ⟨fun _ => ⟨fun q => ⟨hz, h1 q _ _ _ hfar⟩, fun q => ⟨hz, h0 q _ _ _ hfar⟩⟩, fun z => absurd rfl z⟩
      have stp : ∀ a b g, a < 2 ^ 31 → 0 < b → b < 2 ^ 31 → P_X9_idle_L188 (nI F) mw mfi mse msort post g x4 (nI (aboN F W kd A B S f l x (2 ^ F))) (nI (10 ^ F)) (nI b) (nI (a % b)) 0 sl e1 e2 → P_X9_idle_L188 (nI F) mw mfi mse msort post (g + 1) x4 (nI (aboN F W kd A B S f l x (2 ^ F))) (nI (10 ^ F)) (nI a) (nI b) 0 sl e1 e2 := by
        intro a b g ha hb0 hb h
        have hz : ¬ nI b = 0 := fun z => by rw [ni_e0 hb] at z; omega
        rw [P_X9_idle_L188, pk_rem ha hb0 hb]
        exact ⟨fun z => absurd z hz, fun _ => ⟨hz, h⟩⟩
      have eu : ∀ k a b, a < 2 ^ 31 → b < 2 ^ k → k ≤ 20 → Nat.gcd a b = Nat.gcd (aboN F W kd A B S f l x (2 ^ F)) (10 ^ F) → ∃ g, P_X9_idle_L188 (nI F) mw mfi mse msort post g x4 (nI (aboN F W kd A B S f l x (2 ^ F))) (nI (10 ^ F)) (nI a) (nI b) 0 sl e1 e2 := by
        intro k
        induction k with
        | zero =>
          intro a b ha hb hk h
          have e : b = 0 := by omega
          subst e
          rw [Nat.gcd_zero_right] at h
          exact ⟨1, fin a 0 h⟩
        | succ k ih =>
          intro a b ha hb hk h
          have hb20 : b < 2 ^ 31 := Nat.lt_of_lt_of_le hb (Nat.pow_le_pow_right (by omega) (by omega))
          by_cases e : b = 0
          · subst e
            rw [Nat.gcd_zero_right] at h
            exact ⟨1, fin a 0 h⟩
          · rw [gcd_step] at h
            have hr := Nat.mod_lt a (show b > 0 by omega)
            by_cases e2 : a % b = 0
            · rw [e2, Nat.gcd_zero_right] at h
              exact ⟨2, stp a b 1 ha (by omega) hb20 (by rw [e2]; exact fin b 0 h)⟩
            · rw [gcd_step] at h
              have hh := half_mod (b := b) (r := a % b) (by omega) hr
              rw [Nat.pow_succ] at hb
              obtain ⟨g, hg⟩ := ih (a % b) (b % (a % b)) (by omega) (by omega) (by omega) h
              exact ⟨g + 1 + 1, stp a b _ ha (by omega) hb20 (stp b (a % b) g hb20 (by omega) (by omega) hg)⟩
      exact eu 20 _ _ (by omega) s3 (by omega) rfl
    | succ k ih =>
      intro b sl e1 e2 il hb _ hfar hil
      rw [P_X9_idle_L54, s1]
      refine ⟨fun q => absurd q (nI_ge (by omega) (by omega)), fun _ => ⟨F + 1, ?_⟩⟩
      have inner : ∀ k2 i, i + k2 = F → P_X9_idle_L71 (nI F) mw mfi mse msort (P_X9_idle_L54 (nI F) mw mfi mse msort post (k + 1)) post (k2 + 1) (nI f) (nI l) (nI x) x4 (nI (aboN F W kd A B S f l x b)) (nI (totN F x b)) (nI b) (nI (wtN b x i)) (nI i) il sl e1 e2 := by
        intro k2
        induction k2 with
        | zero =>
          intro i hi
          rw [P_X9_idle_L71]
          have e : i = F := by omega
          rw [e]
          refine ⟨fun _ => ?_, fun q => absurd (nI_le (Nat.le_refl _) (by omega)) q⟩
          refine trial_M hF (StM_row hF hSM (slot' := sl) (fun k hk => hfar _ (by omega))) (fun sl1 hs1 hf1 => ?_)
          refine passes_M (b := 385) hV hKM (by omega) hL hs1 (fun e1' e2' sl2 hs2 hf2 => ?_)
          have hfar2 : ∀ j, j < 385 → sl2 j = slot j := fun j hj => ((hf2 j (by omega)).trans (hf1 j hj)).trans (hfar j hj)
          have hd := dayF_le (W := W) (kd := kd) (A := A) (B := B) (idle := nI b) (S := S)
          have e385 : (385 : Int32) + nI f = nI (385 + f) := by rw [show (385 : Int32) = nI 385 from rfl, na]
          have hl0 : LdV F (dayS W kd A B (nI b) S) := dayS_LdV hV hL
          have hl1 := LdV_lt hl0 hf
          unfold P_X9_idle_b170 P_X9_idle_b171
          rw [e385, cl (by omega), hs2.2.2.1 f hf, ni_lt (by omega) (by omega), nI_1, na, na, Int32.add_zero]
          have nx := ih (b + 1)
          rw [aboN, totN] at nx
          refine ⟨fun q => absurd q (nI_pos (by omega)), fun _ => ⟨ni_out (by omega) (by omega), fun q => ?_, fun q => ?_⟩⟩
          · rw [if_pos q] at nx; exact nx sl2 _ _ 0 (by omega) (Or.inr rfl) hfar2 rfl
          · rw [if_neg q] at nx; exact nx sl2 _ _ 0 (by omega) (Or.inr rfl) hfar2 rfl
        | succ k2 ih2 =>
          intro i hi
          rw [P_X9_idle_L71]
          have nx := ih2 (i + 1) (by omega)
          rw [wtN] at nx
          have e10 : (10 : Int32) - nI x = nI (10 - x) := pk_sub (a := 10) hx
          unfold P_X9_idle_b100
          rw [nI_1, e10, pk_mul, pk_mul]
          refine ⟨fun q => absurd q (nI_ge (by omega) (by omega)), fun _ => ?_⟩
          refine has_M (fun q => ⟨fun z => absurd z (by decide), fun _ => ?_⟩) (fun q => ⟨fun _ => ?_, fun z => absurd rfl z⟩)
          · rw [if_pos q] at nx; exact nx
          · rw [if_neg q] at nx; exact nx
      exact inner F 0 (by omega)
  exact key (2 ^ F) 0 slot d1 d2 0 (by omega) (Or.inr rfl) (fun _ _ => rfl) rfl
theorem q_idle (h : RelX xl xt cf cw ct ck ch co ctw ctp nd ns nl np nsh us p8 ks p2 zs zw zp zd mf mw mt msort mh mfi mse mby moff slot acts keeps ml mtx seens sw sp st idl) (x1 x2 x3 x4 : Int32) {g1 g2 : Int32} : P_X8_idle x1 x2 x3 x4 cf cw g1 g2 fd fs nd ns fl nl fp np fsh nsh co fdi ck (fun r _ _ _ _ _ _ _ _ => P_X9_idle x1 x2 x3 x4 mf mw idl slot mfi d1 mse d2 msort (fun r' idl' slot' _ _ => r = r' ∧ RelX xl xt cf cw ct ck ch co ctw ctp nd ns nl np nsh us p8 ks p2 zs zw zp zd mf mw mt msort mh mfi mse mby moff slot' acts keeps ml mtx seens sw sp st idl')) := by
  have hall : ∀ slot', (∀ j, j < 385 → slot' j = slot j) → RelX xl xt cf cw ct ck ch co ctw ctp nd ns nl np nsh us p8 ks p2 zs zw zp zd mf mw mt msort mh mfi mse mby moff slot' acts keeps ml mtx seens sw sp st idl := fun slot' e => RelX_slot h e
  obtain ⟨hT, hI, F, W, T, kd, hr, A, B, tw, tp, hC, hN, hU, hK, hZ⟩ := id h
  obtain ⟨hV, hF1, hW8, hT6, hr12, hc4, htw, ecf, emf, ect, emt, hKC, hKM, hhr, hrow⟩ := id hC
  obtain ⟨S, hS, hSC, hSM⟩ := id hN
  have hF := hV.1
  subst hI
  unfold P_X8_idle
  by_cases h1 : InR x1 0 (nI F - 1)
  · refine famC_1 (by rw [ecf]; exact h1) ⟨fun z => absurd z (by decide), fun _ => ?_⟩
    by_cases h2 : InR x2 0 99
    · refine within_1 h2 ⟨fun z => absurd z (by decide), fun _ => ?_⟩
      by_cases h3 : InR x3 0 10
      · refine within_1 h3 ⟨fun z => absurd z (by decide), fun _ => ?_⟩
        by_cases h4 : InR x4 0 1
        · refine within_1 h4 ⟨fun _ => ?_, fun z => absurd z (by decide)⟩
          obtain ⟨f, hf, rfl⟩ := InR_n (by omega) h1
          obtain ⟨l, -, hl, rfl⟩ := InR_c (lo := 0) (hi := 99) (by omega) (by omega) h2
          obtain ⟨x, -, hx, rfl⟩ := InR_c (lo := 0) (hi := 10) (by omega) (by omega) h3
          refine idle_C hV hKC ecf hf hl hx hS.1 hSC (fun _ _ _ _ _ _ => ⟨fun q => ?_, fun q => ?_⟩)
          · exact idle_M hV hKM emf hf hl hx h4 hS.1 hSM (fun _ sl a b hfar => ⟨rfl, hall _ hfar⟩) (fun z => absurd z q) rfl
          · exact idle_M hV hKM emf hf hl hx h4 hS.1 hSM (fun z => absurd q z) (fun _ sl a b hfar => ⟨rfl, hall _ hfar⟩) rfl
        · refine within_0 h4 ⟨fun z => absurd rfl z, fun _ => ?_⟩
          unfold P_X9_idle
          refine famM_1 (by rw [emf]; exact h1) ⟨fun z => absurd z (by decide), fun _ => ?_⟩
          refine in_y h2 (by decide +kernel) (by decide +kernel) ⟨fun z => absurd z (by decide), fun _ => ?_⟩
          refine in_y h3 (by decide +kernel) (by decide +kernel) ⟨fun z => absurd z (by decide), fun _ => ?_⟩
          exact in_n h4 (by decide +kernel) (by decide +kernel) ⟨fun z => absurd rfl z, fun _ => ⟨rfl, h⟩⟩
      · refine within_0 h3 ⟨fun _ => ?_, fun z => absurd rfl z⟩
        unfold P_X9_idle
        refine famM_1 (by rw [emf]; exact h1) ⟨fun z => absurd z (by decide), fun _ => ?_⟩
        refine in_y h2 (by decide +kernel) (by decide +kernel) ⟨fun z => absurd z (by decide), fun _ => ?_⟩
        exact in_n h3 (by decide +kernel) (by decide +kernel) ⟨fun _ => ⟨rfl, h⟩, fun z => absurd rfl z⟩
    · refine within_0 h2 ⟨fun _ => ?_, fun z => absurd rfl z⟩
      unfold P_X9_idle
      refine famM_1 (by rw [emf]; exact h1) ⟨fun z => absurd z (by decide), fun _ => ?_⟩
      exact in_n h2 (by decide +kernel) (by decide +kernel) ⟨fun _ => ⟨rfl, h⟩, fun z => absurd rfl z⟩
  · refine famC_0 (by rw [ecf]; exact h1) ⟨fun _ => ?_, fun z => absurd rfl z⟩
    unfold P_X9_idle
    exact famM_0 (by rw [emf]; exact h1) ⟨fun _ => ⟨rfl, h⟩, fun z => absurd rfl z⟩
end

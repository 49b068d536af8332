section
variable {xl : Int32} {xt : Nat → Int32} {cf cw ct : Int32} {ck ch co ctw ctp : Nat → Int32} {nd ns : Int32} {nl np nsh : Nat → Int32} {us : Int32} {p8 : Nat → SVt} {ks : Int32} {p2 : Nat → SVt} {zs : Int32} {zw zp zd : Nat → Int32}
variable {mf mw mt : Int32} {msort mh mfi mse mby moff slot : Nat → Int32} {acts keeps ml : Int32} {mtx : Nat → Int32} {seens : Int32} {sw sp st : Nat → Int32} {idl : Int32}
variable {fd fs : Int32} {fl fp fsh fdi d1 d2 : Nat → Int32}
/-! when nobody would have others -/
def tkV (A B : Nat → Nat) (W : Nat) (o : Option Nat) (a w : Nat) (d : Int32) : Int32 := match o with
  | some h => evV h (cnt A B a W) (cnt A B a w)
  | none => d
def planS (W : Nat) (A B : Nat → Nat) (tk : Nat → Option Nat) (S : St) : St := (S.1, S.2.1, S.2.2.1, S.2.2.2.1, (fun w => if w < W then tkV A B W (tk (A w)) (A w) w (S.2.2.2.2.1 w) else S.2.2.2.2.1 w), (fun w => if w < W then tkV A B W (tk (B w)) (B w) w (S.2.2.2.2.2 w) else S.2.2.2.2.2 w))
theorem pl_eq {W : Nat} {A B : Nat → Nat} {tk : Nat → Option Nat} {f h w a : Nat} {d : Int32} : (if w < W ∧ a = f then evV h (cnt A B f W) (cnt A B f w) else if w < W then tkV A B W (tk a) a w d else d) = if w < W then tkV A B W (va_up tk f (some h) a) a w d else d := by
  by_cases q : w < W
  · by_cases e : a = f
    · subst e; simp [q, va_up, tkV]
    · simp [q, e, va_up]
  · simp [q]
theorem evS_planS {W : Nat} {A B : Nat → Nat} {tk : Nat → Option Nat} {S : St} {f h : Nat} : evS W A B f h (planS W A B tk S) = planS W A B (va_up tk f (some h)) S := by
  unfold evS setS planS
  simp only [pl_eq]
theorem planS_congr {F W : Nat} {A B : Nat → Nat} {tk tk' : Nat → Option Nat} {S : St} (hV : OwV F W A B) (h : ∀ f, f < F → tk f = tk' f) : planS W A B tk S = planS W A B tk' S := by
  unfold planS
  have e1 : (fun w => if w < W then tkV A B W (tk (A w)) (A w) w (S.2.2.2.2.1 w) else S.2.2.2.2.1 w) = (fun w => if w < W then tkV A B W (tk' (A w)) (A w) w (S.2.2.2.2.1 w) else S.2.2.2.2.1 w) := by
    funext w
    by_cases q : w < W
    · rw [if_pos q, if_pos q, h _ (hV.2.2 w q).1]
    · rw [if_neg q, if_neg q]
  have e2 : (fun w => if w < W then tkV A B W (tk (B w)) (B w) w (S.2.2.2.2.2 w) else S.2.2.2.2.2 w) = (fun w => if w < W then tkV A B W (tk' (B w)) (B w) w (S.2.2.2.2.2 w) else S.2.2.2.2.2 w) := by
    funext w
    by_cases q : w < W
    · rw [if_pos q, if_pos q, h _ (hV.2.2 w q).2.1]
    · rw [if_neg q, if_neg q]
  rw [e1, e2]
theorem planS_none {W : Nat} {A B : Nat → Nat} {S : St} : planS W A B (fun _ => none) S = S := by
  unfold planS tkV
  simp
def landH (W : Nat) (kd A B : Nat → Nat) (S : St) (tk : Nat → Option Nat) (f h : Nat) : Nat := (dayN W kd A B 7 (planS W A B (va_up tk f (some h)) S)).2.2.1 f
def payR (W : Nat) (kd A B : Nat → Nat) (S : St) (tk : Nat → Option Nat) (f : Nat) : Nat → Nat → Nat → Int32 → Nat
  | 0, _, p, _ => p
  | k + 1, h, p, m => if h = 0 ∨ m < nI (landH W kd A B S tk f h) - nI h then payR W kd A B S tk f k (h + 1) h (nI (landH W kd A B S tk f h) - nI h) else payR W kd A B S tk f k (h + 1) p m
abbrev payV (W : Nat) (kd A B : Nat → Nat) (S : St) (tk : Nat → Option Nat) (f : Nat) : Nat := payR W kd A B S tk f 13 0 0 0
theorem payR_le {W : Nat} {kd A B : Nat → Nat} {S : St} {tk : Nat → Option Nat} {f : Nat} : ∀ k h p m, h + k ≤ 13 → p ≤ 12 → payR W kd A B S tk f k h p m ≤ 12 := by
  intro k
  induction k with
  | zero => intro h p m _ hp; exact hp
  | succ k ih =>
    intro h p m hh hp
    rw [payR]
    split
    · exact ih _ _ _ (by omega) (by omega)
    · exact ih _ _ _ (by omega) hp
theorem upup {tk : Nat → Option Nat} {f : Nat} {a b : Option Nat} : va_up (va_up tk f a) f b = va_up tk f b := by
  funext j; simp only [va_up]; split <;> rfl
theorem pay_C {F W f : Nat} {kd A B : Nat → Nat} {S P : St} {tk : Nat → Option Nat} {pd ps : Int32} {pl pp psh : Nat → Int32} {post : Int32 → (Nat → Int32) → Int32 → Int32 → (Nat → Int32) → (Nat → Int32) → (Nat → Int32) → (Nat → Int32) → Prop} (hV : CoV F W kd A B) (hKC : CoC F W kd A B cw co ck) (hf : f < F) (hL : LdV F S) (hP : ∀ x, evS W A B f x P = planS W A B (va_up tk f (some x)) S) (hSC : StC F P pd ps pl pp psh)
    (hp : ∀ P' psh' td ts tl tp tsh tdi, (∀ x, evS W A B f x P' = planS W A B (va_up tk f (some x)) S) → StC F P' pd ps pl pp psh' → post (nI (payV W kd A B S tk f)) psh' td ts tl tp tsh tdi) : P_X2_payingHours (nI f) pd ps cw co psh fd fs fl pl fp pp fsh fdi ck post := by
  have hF := hV.1
  unfold P_X2_payingHours
  refine ⟨14, ?_⟩
  have key : ∀ k h p m (P' : St) psh' td ts tl tp tsh tdi, h + k = 13 → p ≤ 12 → payR W kd A B S tk f k h p m = payV W kd A B S tk f → (∀ x, evS W A B f x P' = planS W A B (va_up tk f (some x)) S) → StC F P' pd ps pl pp psh' → P_X2_payingHours_L8 pd ps cw co pl pp ck post (k + 1) (nI f) (nI p) m (nI h) psh' td ts tl tp tsh tdi := by
    intro k
    induction k with
    | zero =>
      intro h p m P' psh' td ts tl tp tsh tdi hh hp12 hr hP' hs
      rw [P_X2_payingHours_L8]
      have e : h = 13 := by omega
      subst e
      refine ⟨fun _ => ?_, fun q => absurd (by decide) q⟩
      have e2 : p = payV W kd A B S tk f := hr
      rw [e2]
      exact hp P' psh' _ _ _ _ _ _ hP' hs
    | succ k ih =>
      intro h p m P' psh' td ts tl tp tsh tdi hh hp12 hr hP' hs
      rw [P_X2_payingHours_L8]
      refine ⟨fun q => absurd ((nI_ltI (a := 12) (b := h) (by omega) (by omega)).mp q) (by omega), fun _ => ?_⟩
      refine shareEvenly_C hV.ow hKC.ow hs hf (by omega) (fun qsh' hs' => ?_)
      have hP2 : ∀ x, evS W A B f x (evS W A B f h P') = planS W A B (va_up tk f (some x)) S := fun x => by rw [hP' h, evS_planS, upup]
      have hs3 := hs'
      rw [hP' h] at hs3
      have hL2 : LdV F (planS W A B (va_up tk f (some h)) S) := hL
      refine standBehind_C (n := 7) hV hKC hL2 hs3 (by omega) (fun d s l p0 sh di hs2 => ⟨ni_out (by omega) (by omega), ?_⟩)
      rw [cl (by omega), hs2.2.2.1 f hf, show (0 : Int32) = nI 0 from rfl, nI_eq (by omega) (by omega)]
      unfold P_X2_payingHours_b59 P_X2_payingHours_b66
      rw [nI_1]
      rw [payR] at hr
      unfold landH at hr
      refine ⟨fun q => ?_, fun q => ⟨fun r => ?_, fun r => ?_⟩⟩
      · rw [if_pos (Or.inl q)] at hr
        exact ih (h + 1) h _ _ _ _ _ _ _ _ _ (by omega) (by omega) hr hP2 hs'
      · rw [if_neg (by intro z; rcases z with z | z; exact q z; exact absurd r (Int32.not_le.mpr z))] at hr
        exact ih (h + 1) p m _ _ _ _ _ _ _ _ (by omega) hp12 hr hP2 hs'
      · rw [if_pos (Or.inr (Int32.not_le.mp r))] at hr
        exact ih (h + 1) h _ _ _ _ _ _ _ _ _ (by omega) (by omega) hr hP2 hs'
  exact key 13 0 0 0 P psh _ _ _ _ _ _ (by omega) (by omega) rfl hP hSC
/-- the reference's -/
def tkI (tk : Nat → Option Nat) (f : Nat) : Int32 := match tk f with
  | some t => nI t
  | none => -1
theorem takes_M {F W f : Nat} {kd A B : Nat → Nat} {S : St} {tk : Nat → Option Nat} {taken : Nat → Int32} {post : Int32 → (Nat → Int32) → (Nat → Int32) → (Nat → Int32) → Prop} (hV : CoV F W kd A B) (hKM : CoM F W kd A B mw mfi mse msort) (emf : mf = nI F) (hI : idl = 0) (hf : f < F) (hL : LdV F S) (hSM : StM F 0 S slot) (ht : ∀ i, i < F → taken i = tkI tk i) (ht12 : ∀ i t, tk i = some t → t ≤ 12)
    (hp : ∀ slot' d1' d2', (∀ j, j < 385 → slot' j = slot j) → post (nI (payV W kd A B S tk f)) slot' d1' d2') : P_X9_takes (nI f) mf mw idl slot taken mfi mse d1 d2 msort post := by
  have hF := hV.1
  have hW := hV.2.1
  unfold P_X9_takes
  refine ⟨14, ?_⟩
  rw [emf, hI]
  have key : ∀ k h p m sl e1 e2, h + k = 13 → p ≤ 12 → (h = 0 → m = -99) → payR W kd A B S tk f k h p m = payV W kd A B S tk f → (∀ j, j < 385 → sl j = slot j) → P_X9_takes_L8 (nI F) mw 0 taken mfi mse msort post (k + 1) (nI f) (nI p) m (nI h) sl e1 e2 := by
    intro k
    induction k with
    | zero =>
      intro h p m sl e1 e2 hh hp12 hm hr hfar
      rw [P_X9_takes_L8]
      have e : h = 13 := by omega
      subst e
      refine ⟨fun _ => ?_, fun q => absurd (by decide) q⟩
      have e2 : p = payV W kd A B S tk f := hr
      rw [e2]
      exact hp _ _ _ hfar
    | succ k ih =>
      intro h p m sl e1 e2 hh hp12 hm hr hfar
      rw [P_X9_takes_L8]
      refine ⟨fun q => absurd ((nI_ltI (a := 12) (b := h) (by omega) (by omega)).mp q) (by omega), fun _ => ?_⟩
      refine trial_M hF (StM_row hF hSM (slot' := sl) (fun k hk => hfar _ (by omega))) (fun sl1 hs1 hf1 => ⟨F + 1, ?_⟩)
      have inner : ∀ k2 i sl2, i + k2 = F → StM F 385 (planS W A B (fun j => if j < i then tk j else none) S) sl2 → (∀ j, j < 385 → sl2 j = slot j) → P_X9_takes_L26 (nI F) mw 0 taken mfi mse msort (P_X9_takes_L8 (nI F) mw 0 taken mfi mse msort post (k + 1)) post (k2 + 1) (nI f) (nI p) m (nI h) (nI i) sl2 e1 e2 := by
        intro k2
        induction k2 with
        | zero =>
          intro i sl2 hi hs2 hf2
          rw [P_X9_takes_L26]
          have e : i = F := by omega
          subst e
          refine ⟨fun _ => ?_, fun q => absurd (nI_le (Nat.le_refl _) (by omega)) q⟩
          refine evenly_M (b := 385) hV.ow hKM.ow (by omega) hs2 hf (by omega) (fun sl3 hs3 hf3 => ?_)
          have ep : evS W A B f h (planS W A B (fun j => if j < i then tk j else none) S) = planS W A B (va_up tk f (some h)) S := by
            rw [evS_planS]
            refine planS_congr hV.ow (fun g hg => ?_)
            simp only [va_up]
            split
            · rfl
            · rfl
          rw [ep] at hs3
          have hL2 : LdV i (planS W A B (va_up tk f (some h)) S) := hL
          refine passesBy_M (b := 385) (n := 7) hV hKM (by omega) hL2 hs3 (by omega) (fun e1' e2' sl4 hs4 hf4 => ?_)
          have hG := dayG_le (W := W) (kd := kd) (A := A) (B := B) (S := planS W A B (va_up tk f (some h)) S) 7
          have e385 : (385 : Int32) + nI f = nI (385 + f) := by rw [show (385 : Int32) = nI 385 from rfl, na]
          have hl := LdV_lt (dayN_LdV hV hL2 7) hf
          rw [e385, cl (by omega), hs4.2.2.1 f hf]
          have hfar4 : ∀ j, j < 385 → sl4 j = slot j := fun j hj => ((hf4 j (by omega)).trans (hf3 j (by omega))).trans (hf2 j hj)
          unfold P_X9_takes_b119 P_X9_takes_b120 P_X9_larger
          rw [nI_1]
          rw [payR] at hr
          unfold landH at hr
          refine ⟨ni_out (by omega) (by omega), fun q => absurd q (nI_pos (by omega)), fun _ => ⟨fun r => ⟨fun _ => ?_, fun z => absurd r z⟩, fun r => ⟨fun z => absurd z r, fun _ => ?_⟩⟩⟩
          · have h0 : ¬ h = 0 := by
              intro z
              subst z
              rw [hm rfl, Int32.le_iff_toInt_le, show nI 0 = 0 from rfl, Int32.sub_zero, nI_toInt (by omega), show (-99 : Int32).toInt = -99 by decide] at r
              omega
            rw [if_neg (by intro z; rcases z with z | z; exact h0 z; exact absurd r (Int32.not_le.mpr z))] at hr
            exact ih (h + 1) p m sl4 _ _ (by omega) hp12 (fun z => by omega) hr hfar4
          · rw [if_pos (Or.inr (Int32.not_le.mp r))] at hr
            exact ih (h + 1) h _ sl4 _ _ (by omega) (by omega) (fun z => by omega) hr hfar4
        | succ k2 ih2 =>
          intro i sl2 hi hs2 hf2
          rw [P_X9_takes_L26]
          refine ⟨fun q => absurd q (nI_ge (by omega) (by omega)), fun _ => ⟨ni_out (by omega) (by omega), ?_⟩⟩
          rw [cl (by omega), ht i (by omega)]
          unfold P_X9_takes_b61
          rw [nI_1]
          cases hti : tk i with
          | none =>
            have e : tkI tk i = -1 := by unfold tkI; rw [hti]
            rw [e]
            have ef : (fun j => if j < i then tk j else none) = (fun j => if j < i + 1 then tk j else none) := by
              funext j
              by_cases q : j < i
              · rw [if_pos q, if_pos (by omega)]
              · rw [if_neg q]
                by_cases q2 : j = i
                · subst q2; rw [hti]; split <;> rfl
                · rw [if_neg (by omega)]
            rw [ef] at hs2
            exact ⟨fun _ => ih2 (i + 1) sl2 (by omega) hs2 hf2, fun z => absurd (by decide) z⟩
          | some t =>
            have e : tkI tk i = nI t := by unfold tkI; rw [hti]
            have ht12' := ht12 i t hti
            rw [e]
            refine ⟨fun q => absurd q (nI_pos (by omega)), fun _ => ⟨ni_out (by omega) (by omega), ?_⟩⟩
            refine evenly_M (b := 385) hV.ow hKM.ow (by omega) hs2 (by omega) (by omega) (fun sl3 hs3 hf3 => ?_)
            have ef : va_up (fun j => if j < i then tk j else none) i (some t) = (fun j => if j < i + 1 then tk j else none) := by
              funext j
              simp only [va_up]
              by_cases q2 : j = i
              · subst q2; rw [if_pos rfl, if_pos (by omega), hti]
              · rw [if_neg q2]
                by_cases q : j < i
                · rw [if_pos q, if_pos (by omega)]
                · rw [if_neg q, if_neg (by omega)]
            rw [evS_planS, ef] at hs3
            exact ih2 (i + 1) sl3 (by omega) hs3 (fun j hj => (hf3 j (by omega)).trans (hf2 j hj))
      refine inner F 0 sl1 (by omega) ?_ (fun j hj => (hf1 j hj).trans (hfar j hj))
      have ez : (fun j => if j < 0 then tk j else none) = fun _ : Nat => (none : Option Nat) := by funext j; rw [if_neg (by omega)]
      rw [ez, planS_none]
      exact hs1
  exact key 13 0 0 (-99) slot d1 d2 (by omega) (by omega) (fun _ => rfl) rfl (fun _ _ => rfl)
end

section
variable {xl : Int32} {xt : Nat → Int32} {cf cw ct : Int32} {ck ch co ctw ctp : Nat → Int32} {nd ns : Int32} {nl np nsh : Nat → Int32} {us : Int32} {p8 : Nat → SVt} {ks : Int32} {p2 : Nat → SVt} {zs : Int32} {zw zp zd : Nat → Int32}
variable {mf mw mt : Int32} {msort mh mfi mse mby moff slot : Nat → Int32} {acts keeps ml : Int32} {mtx : Nat → Int32} {seens : Int32} {sw sp st : Nat → Int32} {idl : Int32}
variable {fd fs : Int32} {fl fp fsh fdi d1 d2 : Nat → Int32}
def hv (hr : Nat → Nat) (tk : Nat → Option Nat) (f : Nat) : Nat := match tk f with
  | some t => t
  | none => hr f
def roundR (W : Nat) (kd A B hr : Nat → Nat) (S : St) : Nat → Nat → (Nat → Option Nat) → Bool → (Nat → Option Nat) × Bool
  | 0, _, tk, c => (tk, c)
  | k + 1, i, tk, c => roundR W kd A B hr S k (i + 1) (va_up tk i (some (payV W kd A B S tk i))) (c || decide (payV W kd A B S tk i ≠ hv hr tk i))
def allR (F W : Nat) (kd A B hr : Nat → Nat) (S : St) (x : Nat) : Nat → (Nat → Option Nat) → Option Nat
  | 0, _ => none
  | k + 1, tk => if (roundR W kd A B hr S F 0 tk false).2 then allR F W kd A B hr S x k (roundR W kd A B hr S F 0 tk false).1 else some (hv hr (roundR W kd A B hr S F 0 tk false).1 x)
def tk12 (tk : Nat → Option Nat) : Prop := ∀ i t, tk i = some t → t ≤ 12
theorem tk12_up {tk : Nat → Option Nat} {f h : Nat} (h1 : tk12 tk) (h2 : h ≤ 12) : tk12 (va_up tk f (some h)) := by
  intro i t ht
  simp only [va_up] at ht
  split at ht
  · have := Option.some.inj ht; omega
  · exact h1 i t ht
theorem payV_le {W : Nat} {kd A B : Nat → Nat} {S : St} {tk : Nat → Option Nat} {f : Nat} : payV W kd A B S tk f ≤ 12 := payR_le 13 0 0 0 (by omega) (by omega)
theorem round_12 {W : Nat} {kd A B hr : Nat → Nat} {S : St} : ∀ k i tk c, tk12 tk → tk12 (roundR W kd A B hr S k i tk c).1 := by
  intro k
  induction k with
  | zero => intro i tk c h; exact h
  | succ k ih => intro i tk c h; rw [roundR]; exact ih _ _ _ (tk12_up h payV_le)
theorem round_some {W : Nat} {kd A B hr : Nat → Nat} {S : St} : ∀ k i tk c f, ((∃ t, tk f = some t) ∨ (i ≤ f ∧ f < i + k)) → ∃ t, (roundR W kd A B hr S k i tk c).1 f = some t := by
  intro k
  induction k with
  | zero =>
    intro i tk c f h
    rcases h with h | h
    · exact h
    · omega
  | succ k ih =>
    intro i tk c f h
    rw [roundR]
    by_cases e : f = i
    · subst e
      exact ih _ _ _ _ (Or.inl ⟨payV W kd A B S tk f, by simp [va_up]⟩)
    · refine ih _ _ _ _ ?_
      rcases h with ⟨t, h⟩ | h
      · exact Or.inl ⟨t, by simp [va_up, e, h]⟩
      · exact Or.inr ⟨by omega, by omega⟩
def bI (c : Bool) : Int32 := if c then 1 else 0
theorem bI_1 (c : Bool) : bI c ||| 1 = bI true := by cases c <;> rfl
theorem bI_0 (c : Bool) : bI c ||| 0 = bI c := by cases c <;> rfl
theorem zb_bI : ∀ c : Bool, zb (bI c)
  | false => Or.inl rfl
  | true => Or.inr rfl
theorem some_C {F W : Nat} {kd A B hr : Nat → Nat} {S : St} {tk : Nat → Option Nat} {pd ps : Int32} {pl pp psh hs : Nat → Int32} {post : Int32 → (Nat → Int32) → Int32 → Int32 → (Nat → Int32) → (Nat → Int32) → (Nat → Int32) → (Nat → Int32) → (Nat → Int32) → Prop} (hV : CoV F W kd A B) (hKC : CoC F W kd A B cw co ck) (ecf : cf = nI F) (hL : LdV F S) (hr12 : ∀ f, f < F → hr f ≤ 12) (ht12 : tk12 tk) (hSC : StC F (planS W A B tk S) pd ps pl pp psh) (hhs : ∀ f, f < F → hs f = nI (hv hr tk f))
    (hp : ∀ psh' td ts tl tp tsh tdi hs', StC F (planS W A B (roundR W kd A B hr S F 0 tk false).1 S) pd ps pl pp psh' → (∀ f, f < F → hs' f = nI (hv hr (roundR W kd A B hr S F 0 tk false).1 f)) → post (bI (roundR W kd A B hr S F 0 tk false).2) psh' td ts tl tp tsh tdi hs') : P_X2_someoneChanges cf cw pd ps co psh fd fs fl pl fp pp fsh fdi ck hs post := by
  have hF := hV.1
  unfold P_X2_someoneChanges
  refine ⟨F + 1, ?_⟩
  rw [ecf]
  have key : ∀ k i tk' c psh' td ts tl tp tsh tdi hs', i + k = F → tk12 tk' → roundR W kd A B hr S k i tk' c = roundR W kd A B hr S F 0 tk false → StC F (planS W A B tk' S) pd ps pl pp psh' → (∀ f, f < F → hs' f = nI (hv hr tk' f)) → P_X2_someoneChanges_L4 (nI F) cw pd ps co pl pp ck post (k + 1) (bI c) (nI i) psh' td ts tl tp tsh tdi hs' := by
    intro k
    induction k with
    | zero =>
      intro i tk' c psh' td ts tl tp tsh tdi hs' hi h12 hr' hs hh
      rw [P_X2_someoneChanges_L4]
      have e : i = F := by omega
      rw [e]
      refine ⟨fun _ => ⟨zb_bI c, ?_⟩, fun q => absurd (nI_le (Nat.le_refl _) (by omega)) q⟩
      have e1 : (tk', c) = roundR W kd A B hr S F 0 tk false := hr'
      have e2 : tk' = (roundR W kd A B hr S F 0 tk false).1 := by rw [← e1]
      have e3 : c = (roundR W kd A B hr S F 0 tk false).2 := by rw [← e1]
      rw [e3]
      rw [e2] at hs hh
      exact hp _ _ _ _ _ _ _ _ hs hh
    | succ k ih =>
      intro i tk' c psh' td ts tl tp tsh tdi hs' hi h12 hr' hs hh
      rw [P_X2_someoneChanges_L4]
      refine ⟨fun q => absurd q (nI_ge (by omega) (by omega)), fun _ => ?_⟩
      refine pay_C (S := S) (tk := tk') hV hKC (by omega) hL (fun x => evS_planS) hs (fun P' psh2 td2 ts2 tl2 tp2 tsh2 tdi2 hP' hs2 => ?_)
      have hv12 := payV_le (W := W) (kd := kd) (A := A) (B := B) (S := S) (tk := tk') (f := i)
      refine shareEvenly_C hV.ow hKC.ow hs2 (by omega) hv12 (fun psh3 hs3 => ⟨ni_out (by omega) (by omega), ?_⟩)
      rw [hP'] at hs3
      have hvr : hv hr tk' i ≤ 12 := by
        unfold hv
        cases hti : tk' i with
        | none => exact hr12 i (by omega)
        | some t => exact h12 i t hti
      rw [cl (by omega), hh i (by omega), nI_eq (by omega) (by omega)]
      unfold P_X2_someoneChanges_b48
      rw [nI_1, bI_1, bI_0, cl (by omega)]
      rw [roundR] at hr'
      have hh' : ∀ f, f < F → upd hs' i (nI (payV W kd A B S tk' i)) f = nI (hv hr (va_up tk' i (some (payV W kd A B S tk' i))) f) := by
        intro f hf
        unfold hv
        simp only [va_up]
        by_cases e : f = i
        · subst e; rw [pk_us, if_pos rfl]
        · rw [pk_un e, if_neg e]; exact hh f hf
      refine ⟨fun q => ⟨ni_out (by omega) (by omega), ?_⟩, fun q => ⟨ni_out (by omega) (by omega), ?_⟩⟩
      · have ec : (c || decide (payV W kd A B S tk' i ≠ hv hr tk' i)) = c := by simp [q]
        rw [ec] at hr'
        exact ih (i + 1) _ c _ _ _ _ _ _ _ _ (by omega) (tk12_up h12 hv12) hr' hs3 hh'
      · have ec : (c || decide (payV W kd A B S tk' i ≠ hv hr tk' i)) = true := by simp [q]
        rw [ec] at hr'
        exact ih (i + 1) _ true _ _ _ _ _ _ _ _ (by omega) (tk12_up h12 hv12) hr' hs3 hh'
  exact key F 0 tk false psh _ _ _ _ _ _ hs (by omega) ht12 rfl hSC hhs
theorem all_C {F W x : Nat} {kd A B hr : Nat → Nat} {S : St} {pd ps : Int32} {pl pp psh hs : Nat → Int32} {post : Int32 → Int32 → Int32 → (Nat → Int32) → (Nat → Int32) → (Nat → Int32) → (Nat → Int32) → Int32 → Int32 → (Nat → Int32) → (Nat → Int32) → (Nat → Int32) → (Nat → Int32) → Prop} (hV : CoV F W kd A B) (hKC : CoC F W kd A B cw co ck) (ecf : cf = nI F) (hx : x < F) (hL : LdV F S) (hr12 : ∀ f, f < F → hr f ≤ 12) (hSC : StC F S nd ns nl np nsh) (hch : ∀ f, f < F → ch f = nI (hr f))
    (h1 : ∀ t, allR F W kd A B hr S x 20 (fun _ => none) = some t → ∀ a b c d e' g i j k l m o, post (nI t) a b c d e' g i j k l m o) (h0 : allR F W kd A B hr S x 20 (fun _ => none) = none → ∀ a b c d e' g i j k l m o, post (-4) a b c d e' g i j k l m o) : P_X2_settledHours (nI x) pd ps nd ns pl nl pp np psh nsh cf cw hs ch co fd fs fl fp fsh fdi ck post := by
  have hF := hV.1
  unfold P_X2_settledHours P_X6_takeOver
  refine ⟨21, ?_⟩
  have key : ∀ k r tk qd qs ql qp qsh hs' td ts tl tp tsh tdi, r + k = 20 → tk12 tk → allR F W kd A B hr S x k tk = allR F W kd A B hr S x 20 (fun _ => none) → StC F (planS W A B tk S) qd qs ql qp qsh → (∀ f, f < F → hs' f = nI (hv hr tk f)) → P_X2_settledHours_L29 nd ns nl np nsh cf cw ch co ck post (k + 1) (nI x) (nI r) qd qs ql qp qsh hs' td ts tl tp tsh tdi := by
    intro k
    induction k with
    | zero =>
      intro r tk qd qs ql qp qsh hs' td ts tl tp tsh tdi hr' h12 ha hs hh
      rw [P_X2_settledHours_L29]
      have e : r = 20 := by omega
      subst e
      exact ⟨fun _ => h0 ha.symm _ _ _ _ _ _ _ _ _ _ _ _, fun q => absurd (by decide) q⟩
    | succ k ih =>
      intro r tk qd qs ql qp qsh hs' td ts tl tp tsh tdi hr' h12 ha hs hh
      rw [P_X2_settledHours_L29]
      refine ⟨fun q => absurd q (nI_ge (a := r) (b := 20) (by omega) (by omega)), fun _ => ?_⟩
      refine some_C hV hKC ecf hL hr12 h12 hs hh (fun psh' td ts tl tp tsh tdi hs'' hs2 hh2 => ?_)
      rw [allR] at ha
      cases hc : (roundR W kd A B hr S F 0 tk false).2 with
      | false =>
        rw [hc, if_neg (by decide)] at ha
        refine ⟨fun z => absurd rfl z, fun _ => ⟨ni_out (by omega) (by omega), ?_⟩⟩
        rw [cl (by omega), hh2 x hx]
        exact h1 _ ha.symm _ _ _ _ _ _ _ _ _ _ _ _
      | true =>
        rw [hc, if_pos rfl] at ha
        refine ⟨fun _ => ?_, fun z => absurd z (by decide)⟩
        rw [nI_1]
        exact ih (r + 1) _ _ _ _ _ _ _ _ _ _ _ _ _ (by omega) (round_12 _ _ _ _ h12) ha hs2 hh2
  exact key 20 0 (fun _ => none) _ _ _ _ _ _ _ _ _ _ _ _ (by omega) (fun i t z => by cases z) rfl (by rw [planS_none]; exact StC_copy hF hSC) (fun f hf => by rw [sb_cpy0 (by omega)]; exact hch f hf)
theorem all_M {F W x : Nat} {kd A B hr : Nat → Nat} {S : St} {taken : Nat → Int32} {post : Int32 → (Nat → Int32) → (Nat → Int32) → (Nat → Int32) → (Nat → Int32) → Prop} (hV : CoV F W kd A B) (hKM : CoM F W kd A B mw mfi mse msort) (emf : mf = nI F) (hI : idl = 0) (hx : x < F) (hL : LdV F S) (hr12 : ∀ f, f < F → hr f ≤ 12) (hSM : StM F 0 S slot) (hmh : ∀ f, f < F → mh f = nI (hr f))
    (h1 : ∀ t, allR F W kd A B hr S x 20 (fun _ => none) = some t → ∀ tk' slot' d1' d2', (∀ j, j < 385 → slot' j = slot j) → post (nI t) tk' slot' d1' d2') (h0 : allR F W kd A B hr S x 20 (fun _ => none) = none → ∀ tk' slot' d1' d2', (∀ j, j < 385 → slot' j = slot j) → post (-4) tk' slot' d1' d2') : P_X9_all (nI x) mf mw idl taken mh slot mfi mse d1 d2 msort post := by
  have hF := hV.1
  unfold P_X9_all
  refine famM_1 (by rw [emf]; exact nI_InR (by omega) hx) ⟨fun _ => ⟨F + 1, ?_⟩, fun z => absurd z (by decide)⟩
  rw [emf, hI]
  have round : ∀ k r tk tkn sl e1 e2, r + k = 20 → tk12 tk → allR F W kd A B hr S x k tk = allR F W kd A B hr S x 20 (fun _ => none) → (∀ f, f < F → tkn f = tkI tk f) → (∀ j, j < 385 → sl j = slot j) → P_X9_all_L35 (nI F) mw 0 mh mfi mse msort post (k + 1) (nI x) (nI r) tkn sl e1 e2 := by
    intro k
    induction k with
    | zero =>
      intro r tk tkn sl e1 e2 hr' h12 ha ht hfar
      rw [P_X9_all_L35]
      have e : r = 20 := by omega
      subst e
      exact ⟨fun _ => h0 ha.symm _ _ _ _ hfar, fun q => absurd (by decide) q⟩
    | succ k ih =>
      intro r tk tkn sl e1 e2 hr' h12 ha ht hfar
      rw [P_X9_all_L35]
      refine ⟨fun q => absurd q (nI_ge (a := r) (b := 20) (by omega) (by omega)), fun _ => ⟨F + 1, ?_⟩⟩
      have inner : ∀ k2 i tk' c tkn' sl' e1 e2, i + k2 = F → tk12 tk' → roundR W kd A B hr S k2 i tk' c = roundR W kd A B hr S F 0 tk false → (∀ f, f < F → tkn' f = tkI tk' f) → (∀ j, j < 385 → sl' j = slot j) → P_X9_all_L46 (nI F) mw 0 mh mfi mse msort (P_X9_all_L35 (nI F) mw 0 mh mfi mse msort post (k + 1)) post (k2 + 1) (nI x) (nI r) (bI (!c)) (nI i) tkn' sl' e1 e2 := by
        intro k2
        induction k2 with
        | zero =>
          intro i tk' c tkn' sl' e1 e2 hi h12' hrr ht' hfar'
          rw [P_X9_all_L46]
          have e : i = F := by omega
          rw [e]
          refine ⟨fun _ => ?_, fun q => absurd (nI_le (Nat.le_refl _) (by omega)) q⟩
          have q1 : (tk', c) = roundR W kd A B hr S F 0 tk false := hrr
          rw [allR, ← q1] at ha
          cases c with
          | true =>
            rw [if_pos rfl] at ha
            refine ⟨fun _ => ?_, fun z => absurd rfl z⟩
            rw [nI_1]
            exact ih (r + 1) tk' tkn' sl' _ _ (by omega) h12' ha ht' hfar'
          | false =>
            rw [if_neg (fun z : false = true => Bool.noConfusion z)] at ha
            refine ⟨fun z => absurd z (by decide), fun _ => ⟨ni_out (by omega) (by omega), ?_⟩⟩
            obtain ⟨t, hts⟩ := round_some (W := W) (kd := kd) (A := A) (B := B) (hr := hr) (S := S) F 0 tk false x (Or.inr ⟨by omega, by omega⟩)
            rw [← q1] at hts
            have hts : tk' x = some t := hts
            have e2 : tkI tk' x = nI t := by unfold tkI; rw [hts]
            have e3 : hv hr tk' x = t := by unfold hv; rw [hts]
            rw [cl (by omega), ht' x hx, e2]
            rw [e3] at ha
            exact h1 t ha.symm _ _ _ _ hfar'
        | succ k2 ih2 =>
          intro i tk' c tkn' sl' e1 e2 hi h12' hrr ht' hfar'
          rw [P_X9_all_L46]
          refine ⟨fun q => absurd q (nI_ge (by omega) (by omega)), fun _ => ⟨ni_out (by omega) (by omega), ?_⟩⟩
          have hv12 := payV_le (W := W) (kd := kd) (A := A) (B := B) (S := S) (tk := tk') (f := i)
          have hvr : hv hr tk' i ≤ 12 := by
            unfold hv
            cases hti : tk' i with
            | none => exact hr12 i (by omega)
            | some t => exact h12' i t hti
          rw [roundR] at hrr
          have htn : ∀ f, f < F → upd tkn' i (nI (payV W kd A B S tk' i)) f = tkI (va_up tk' i (some (payV W kd A B S tk' i))) f := by
            intro f hf
            unfold tkI
            simp only [va_up]
            by_cases e : f = i
            · subst e; rw [pk_us, if_pos rfl]
            · rw [pk_un e, if_neg e]; exact ht' f hf
          have main : P_X9_all_b82 (nI F) mw 0 mh mfi mse msort (P_X9_all_L35 (nI F) mw 0 mh mfi mse msort post (k + 1)) (P_X9_all_L46 (nI F) mw 0 mh mfi mse msort (P_X9_all_L35 (nI F) mw 0 mh mfi mse msort post (k + 1)) post (k2 + 1)) post (nI x) (nI r) (bI (!c)) (nI i) (nI (hv hr tk' i)) tkn' sl' e1 e2 := by
            unfold P_X9_all_b82
            refine takes_M (S := S) (tk := tk') hV hKM rfl rfl (by omega) hL (StM_row hF hSM (slot' := sl') (fun k hk => hfar' _ (by omega))) ht' h12' (fun sl2 e1' e2' hf2 => ⟨ni_out (by omega) (by omega), ?_⟩)
            have hfar2 : ∀ j, j < 385 → sl2 j = slot j := fun j hj => (hf2 j hj).trans (hfar' j hj)
            unfold P_X9_all_b117 P_X9_all_b118
            rw [cl (by omega), pk_us, nI_1, nI_eq (by omega) (by omega)]
            cases c with
            | true =>
              rw [Bool.true_or] at hrr
              exact ⟨fun _ => ih2 (i + 1) _ true _ _ _ _ (by omega) (tk12_up h12' hv12) hrr htn hfar2, fun z => absurd rfl z⟩
            | false =>
              refine ⟨fun z => absurd z (by decide), fun _ => ⟨ni_out (by omega) (by omega), fun q => ?_, fun q => ?_⟩⟩
              · have ec : (false || decide (payV W kd A B S tk' i ≠ hv hr tk' i)) = true := by simp [q]
                rw [ec] at hrr
                exact ih2 (i + 1) _ true _ _ _ _ (by omega) (tk12_up h12' hv12) hrr htn hfar2
              · have ec : (false || decide (payV W kd A B S tk' i ≠ hv hr tk' i)) = false := by simp [q]
                rw [ec] at hrr
                exact ih2 (i + 1) _ false _ _ _ _ (by omega) (tk12_up h12' hv12) hrr htn hfar2
          rw [cl (by omega), ht' i (by omega), hmh i (by omega)]
          have e := hvr
          unfold hv at main hvr
          unfold tkI
          cases hti : tk' i with
          | none =>
            rw [hti] at main
            exact ⟨fun z => absurd z (by decide), fun _ => ⟨ni_out (by omega) (by omega), main⟩⟩
          | some t =>
            rw [hti] at main
            have := h12' i t hti
            exact ⟨fun _ => ⟨ni_out (by omega) (by omega), main⟩, fun z => absurd (nI_pos' (by omega)) z⟩
      exact inner F 0 tk false tkn sl e1 e2 (by omega) h12 rfl ht hfar
  have start : ∀ k i tkn, i + k = F → (∀ f, f < i → tkn f = -1) → P_X9_all_L12 (nI F) mw 0 mh mfi mse msort post (k + 1) (nI x) (nI i) tkn slot d1 d2 := by
    intro k
    induction k with
    | zero =>
      intro i tkn hi ht
      rw [P_X9_all_L12]
      have e : i = F := by omega
      rw [e]
      refine ⟨fun _ => ⟨21, ?_⟩, fun q => absurd (nI_le (Nat.le_refl _) (by omega)) q⟩
      exact round 20 0 (fun _ => none) tkn slot d1 d2 (by omega) (fun i t z => by cases z) rfl (fun f hf => ht f (by omega)) (fun _ _ => rfl)
    | succ k ih =>
      intro i tkn hi ht
      rw [P_X9_all_L12]
      refine ⟨fun q => absurd q (nI_ge (by omega) (by omega)), fun _ => ⟨ni_out (by omega) (by omega), ?_⟩⟩
      rw [nI_1, cl (by omega)]
      refine ih (i + 1) _ (by omega) (fun f hf => ?_)
      by_cases e : f = i
      · subst e; exact pk_us
      · rw [pk_un e]; exact ht f (by omega)
  exact start F 0 taken (by omega) (fun f hf => by omega)
theorem q_all (h : RelX xl xt cf cw ct ck ch co ctw ctp nd ns nl np nsh us p8 ks p2 zs zw zp zd mf mw mt msort mh mfi mse mby moff slot acts keeps ml mtx seens sw sp st idl) (x : Int32) {pd ps : Int32} {pl pp psh hs taken : Nat → Int32} : P_X8_all x cf cw pd ps nd ns pl nl pp np psh nsh hs ch co fd fs fl fp fsh fdi ck (fun r _ _ _ _ _ _ _ _ _ _ _ _ => P_X9_all x mf mw idl taken mh slot mfi mse d1 d2 msort (fun r' _ slot' _ _ => r = r' ∧ RelX xl xt cf cw ct ck ch co ctw ctp nd ns nl np nsh us p8 ks p2 zs zw zp zd mf mw mt msort mh mfi mse mby moff slot' acts keeps ml mtx seens sw sp st idl)) := by
  have hall : ∀ slot', (∀ j, j < 385 → slot' j = slot j) → RelX xl xt cf cw ct ck ch co ctw ctp nd ns nl np nsh us p8 ks p2 zs zw zp zd mf mw mt msort mh mfi mse mby moff slot' acts keeps ml mtx seens sw sp st idl := fun slot' e => RelX_slot h e
  obtain ⟨hT, hI, F, W, T, kd, hr, A, B, tw, tp, hC, hN, hU, hK, hZ⟩ := id h
  obtain ⟨hV, hF1, hW8, hT6, hr12, -, htw, ecf, emf, ect, emt, hKC, hKM, hhr, hrow⟩ := id hC
  obtain ⟨S, hS, hSC, hSM⟩ := id hN
  have hF := hV.1
  unfold P_X8_all
  by_cases h1 : InR x 0 (nI F - 1)
  · refine famC_1 (by rw [ecf]; exact h1) ⟨fun z => absurd z (by decide), fun _ => ?_⟩
    obtain ⟨f, hf, rfl⟩ := InR_n (by omega) h1
    refine all_C hV hKC ecf hf hS.1 hr12 hSC (fun g hg => (hhr g hg).1) (fun e q _ _ _ _ _ _ _ _ _ _ _ _ => ?_) (fun q _ _ _ _ _ _ _ _ _ _ _ _ => ?_)
    · refine all_M hV hKM emf hI hf hS.1 hr12 hSM (fun g hg => (hhr g hg).2) (fun e' q' tk' slot' d1' d2' hfar => ?_) (fun q' => absurd (q.symm.trans q') (by simp))
      rw [q] at q'; obtain rfl := Option.some.inj q'
      exact ⟨rfl, hall _ hfar⟩
    · exact all_M hV hKM emf hI hf hS.1 hr12 hSM (fun g hg => (hhr g hg).2) (fun e' q' => absurd (q.symm.trans q') (by simp)) (fun _ tk' slot' d1' d2' hfar => ⟨rfl, hall _ hfar⟩)
  · refine famC_0 (by rw [ecf]; exact h1) ⟨fun _ => ?_, fun z => absurd rfl z⟩
    unfold P_X9_all
    exact famM_0 (by rw [emf]; exact h1) ⟨fun z => absurd rfl z, fun _ => ⟨rfl, h⟩⟩
end

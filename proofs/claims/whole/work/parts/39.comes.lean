section
variable {xl : Int32} {xt : Nat → Int32} {cf cw ct : Int32} {ck ch co ctw ctp : Nat → Int32} {nd ns : Int32} {nl np nsh : Nat → Int32} {us : Int32} {p8 : Nat → SVt} {ks : Int32} {p2 : Nat → SVt} {zs : Int32} {zw zp zd : Nat → Int32}
variable {mf mw mt : Int32} {msort mh mfi mse mby moff slot : Nat → Int32} {acts keeps ml : Int32} {mtx : Nat → Int32} {seens : Int32} {sw sp st : Nat → Int32} {idl : Int32}
variable {fd fs : Int32} {fl fp fsh fdi d1 d2 : Nat → Int32}
/-! what comes -/
theorem trial_M {F : Nat} {S : St} {post : (Nat → Int32) → Prop} (hF : F ≤ 6) (hSM : StM F 0 S slot) (hp : ∀ slot', StM F 385 S slot' → (∀ j, j < 385 → slot' j = slot j) → post slot') : P_X9_copies 0 385 slot post :=
  copies_M (a := 0) (b := 385) (by omega) (by omega) (by omega) (fun slot' e1 e2 => hp slot' (StM_at hF hSM e1) (fun j hj => e2 j (by omega)))
theorem behind_b {F W T n N : Nat} {kd A B : Nat → Nat} {S : St} {x2 x3 y2 : Int32} {post : Int32 → (Nat → Int32) → (Nat → Int32) → (Nat → Int32) → Prop} (hV : CoV F W kd A B) (hKM : CoM F W kd A B mw mfi mse msort) (hI : idl = 0) (hL : LdV F S) (hSM : StM F 0 S slot) (hn : n ≤ 60) (ey : y2 = nI N)
    (hf : ¬ InR x2 0 (nI N - 1) → post (-1) slot d1 d2)
    (hp : InR x2 0 (nI N - 1) → ∀ slot' d1' d2', StM F 385 (dayN W kd A B n S) slot' → (∀ j, j < 385 → slot' j = slot j) → ((¬ x3 = 0 → (¬ x3 = 1 → P_X9_whose 385 x2 mby slot' moff mfi mse (fun r136 => post r136 slot' d1' d2')) ∧ (x3 = 1 → vp_in (391 + x2) 420 ∧ (post ((slot' (391 + x2).toNatClampNeg) + 100) slot' d1' d2'))) ∧ (x3 = 0 → vp_in (385 + x2) 420 ∧ (post (slot' (385 + x2).toNatClampNeg) slot' d1' d2')))) :
    P_X9_behind_b54 mf mw mt idl mfi mse msort mby moff post (nI n) x2 x3 x2.toInt64 0 y2 slot d1 d2 := by
  unfold P_X9_behind_b54
  rw [ey]
  by_cases h : InR x2 0 (nI N - 1)
  · refine in_y h e64_0 rfl ⟨fun _ => ?_, fun z => absurd z (by decide)⟩
    refine trial_M hV.1 hSM (fun slot1 h1 h2 => ?_)
    rw [hI]
    refine passesBy_M (b := 385) hV hKM (by omega) hL h1 (by omega) (fun d1' d2' slot2 hs2 hfar => ?_)
    have hG := dayG_le (W := W) (kd := kd) (A := A) (B := B) (S := S) n
    have hGW : n * W ≤ 60 * 9 := Nat.mul_le_mul hn hV.2.1
    exact ⟨fun _ => hp h slot2 d1' d2' hs2 (fun j hj => (hfar j (by omega)).trans (h2 j hj)), fun q => absurd (nI_pos' (by omega)) q⟩
  · exact in_n h e64_0 rfl ⟨fun z => absurd rfl z, fun _ => hf h⟩
theorem behind_M {F W T n : Nat} {kd A B tw : Nat → Nat} {tp : Nat → Int32} {S : St} {x2 x3 : Int32} {post : Int32 → (Nat → Int32) → (Nat → Int32) → (Nat → Int32) → Prop} (hV : CoV F W kd A B) (hKM : CoM F W kd A B mw mfi mse msort) (hI : idl = 0) (hL : LdV F S) (hSM : StM F 0 S slot) (hn : n ≤ 60) (emf : mf = nI F) (emt : mt = nI T) (hT6 : T ≤ 6) (htw : ∀ t, t < T → tw t < W) (hrow : ∀ t, t < T → mby t = nI (tw t) ∧ moff t = tp t)
    (hx : ¬ InR x3 0 2 → post (-1) slot d1 d2)
    (h0f : x3 = 0 → ¬ InR x2 0 (nI F - 1) → post (-1) slot d1 d2) (h0 : x3 = 0 → ∀ f, f < F → x2 = nI f → ∀ slot' d1' d2', (∀ j, j < 385 → slot' j = slot j) → post (nI ((dayN W kd A B n S).2.2.1 f)) slot' d1' d2')
    (h1f : x3 = 1 → ¬ InR x2 0 (nI W - 1) → post (-1) slot d1 d2) (h1 : x3 = 1 → ∀ w, w < W → x2 = nI w → ∀ slot' d1' d2', (∀ j, j < 385 → slot' j = slot j) → post ((dayN W kd A B n S).2.2.2.1 w + 100) slot' d1' d2')
    (h2f : x3 = 2 → ¬ InR x2 0 (nI T - 1) → post (-1) slot d1 d2) (h2 : x3 = 2 → ∀ t, t < T → x2 = nI t → ∀ slot' d1' d2', (∀ j, j < 385 → slot' j = slot j) → post (nI (whoP (dayN W kd A B n S) A B tw tp t)) slot' d1' d2') :
    P_X9_behind (nI n) x2 x3 mf mw mt idl slot mfi d1 mse d2 msort mby moff post := by
  have hF := hV.1
  have hW := hV.2.1
  unfold P_X9_behind
  refine in_y (lo := 0) (hi := 60) ⟨nI_pos' (by omega), nI_le (b := 60) hn (by omega)⟩ (by decide +kernel) (by decide +kernel) ⟨fun z => absurd z (by decide), fun _ => ?_⟩
  by_cases h3 : InR x3 0 2
  · refine in_y h3 (by decide +kernel) (by decide +kernel) ⟨fun z => absurd z (by decide), fun _ => ⟨fun a0 => ⟨fun a1 => ?_, fun q => ?_⟩, fun q => ?_⟩⟩
    · have e2 : x3 = 2 := by
        obtain ⟨k, hk1, hk2, e⟩ := InR_c (lo := 0) (hi := 2) (by omega) (by omega) h3
        match k, hk2 with
        | 0, _ => exact absurd e a0
        | 1, _ => exact absurd e a1
        | 2, _ => exact e
      refine behind_b (T := T) (N := T) hV hKM hI hL hSM hn emt (h2f e2) (fun hi slot' d1' d2' hs hfar => ?_)
      obtain ⟨t, ht, rfl⟩ := InR_n (by omega) hi
      refine ⟨fun _ => ⟨fun _ => ?_, fun z => absurd z a1⟩, fun z => absurd z a0⟩
      exact whose_M (b := 385) (by omega) hV.ow hKM.ow hT6 ht (htw t ht) (hrow t ht).1 (hrow t ht).2 hs (h2 e2 t ht rfl slot' d1' d2' hfar)
    · refine behind_b (T := T) (N := W) hV hKM hI hL hSM hn hKM.1 (h1f q) (fun hi slot' d1' d2' hs hfar => ?_)
      obtain ⟨w, hw, rfl⟩ := InR_n (by omega) hi
      have e : (391 : Int32) + nI w = nI (385 + 6 + w) := by rw [show (391 : Int32) = nI (385 + 6) from rfl, na]
      rw [e, cl (by omega), (hs.2.2.2 w (by omega)).1]
      exact ⟨fun _ => ⟨fun z => absurd q z, fun _ => ⟨ni_out (by omega) (by omega), h1 q w hw rfl slot' d1' d2' hfar⟩⟩, fun z => absurd z a0⟩
    · refine behind_b (T := T) (N := F) hV hKM hI hL hSM hn emf (h0f q) (fun hi slot' d1' d2' hs hfar => ?_)
      obtain ⟨f, hf, rfl⟩ := InR_n (by omega) hi
      have e : (385 : Int32) + nI f = nI (385 + f) := by rw [show (385 : Int32) = nI 385 from rfl, na]
      rw [e, cl (by omega), hs.2.2.1 f hf]
      exact ⟨fun z => absurd q z, fun _ => ⟨ni_out (by omega) (by omega), h0 q f hf rfl slot' d1' d2' hfar⟩⟩
  · exact in_n h3 (by decide +kernel) (by decide +kernel) ⟨fun _ => hx h3, fun z => absurd rfl z⟩
theorem q_behind (h : RelX xl xt cf cw ct ck ch co ctw ctp nd ns nl np nsh us p8 ks p2 zs zw zp zd mf mw mt msort mh mfi mse mby moff slot acts keeps ml mtx seens sw sp st idl) (x1 x2 x3 : Int32) : P_X8_behind x1 x2 x3 cf cw ct fd fs nd ns fl nl fp np fsh nsh co fdi ck ctw ctp (fun r _ _ _ _ _ _ => P_X9_behind x1 x2 x3 mf mw mt idl slot mfi d1 mse d2 msort mby moff (fun r' slot' _ _ => r = r' ∧ RelX xl xt cf cw ct ck ch co ctw ctp nd ns nl np nsh us p8 ks p2 zs zw zp zd mf mw mt msort mh mfi mse mby moff slot' acts keeps ml mtx seens sw sp st idl)) := by
  have hall : ∀ slot', (∀ j, j < 385 → slot' j = slot j) → RelX xl xt cf cw ct ck ch co ctw ctp nd ns nl np nsh us p8 ks p2 zs zw zp zd mf mw mt msort mh mfi mse mby moff slot' acts keeps ml mtx seens sw sp st idl := fun slot' e => RelX_slot h e
  obtain ⟨hT, hI, F, W, T, kd, hr, A, B, tw, tp, hC, hN, hU, hK, hZ⟩ := id h
  have hF := hC.1.1
  obtain ⟨hV, hF1, hW8, hT6, hr12, -, htw, ecf, emf, ect, emt, hKC, hKM, hhr, hrow⟩ := id hC
  obtain ⟨S, hS, hSC, hSM⟩ := id hN
  have hrow2 : ∀ t, t < T → mby t = nI (tw t) ∧ moff t = tp t := fun t ht => ⟨(hrow t ht).2.1, (hrow t ht).2.2.2⟩
  unfold P_X8_behind
  by_cases h1 : InR x1 0 60
  · refine within_1 h1 ⟨fun _ => ?_, fun z => absurd z (by decide)⟩
    obtain ⟨n, -, hn, rfl⟩ := InR_c (lo := 0) (hi := 60) (by omega) (by omega) h1
    have e3 : ∀ k, k ≤ 2 → InR (nI k) 0 2 := fun k hk => ⟨nI_pos' (by omega), nI_le (b := 2) hk (by omega)⟩
    refine ⟨fun q => ?_, fun q => ?_, fun q => ?_, fun q => ?_⟩
    · refine behind_M (x2 := x2) (tw := tw) (tp := tp) hV hKM hI hS.1 hSM hn emf emt hT6 htw hrow2 (fun _ => ⟨rfl, h⟩) (fun e => ?_) (fun e => ?_) (fun e => ?_) (fun e => ?_) (fun e => ?_) (fun e => ?_)
      all_goals (subst e; exact absurd q (by decide))
    · have e := toI_eq (k := 0) (by omega) q
      subst e
      by_cases h2 : InR x2 0 (nI F - 1)
      · refine famC_1 (by rw [ecf]; exact h2) ⟨fun z => absurd z (by decide), fun _ => ?_⟩
        obtain ⟨f, hf, rfl⟩ := InR_n (by omega) h2
        refine standBehind_C hV hKC hS.1 hSC (by omega) (fun d s l p sh di hs => ⟨ni_out (by omega) (by omega), ?_⟩)
        rw [cl (by omega), hs.2.2.1 f hf]
        refine behind_M (x2 := nI f) (tw := tw) (tp := tp) hV hKM hI hS.1 hSM hn emf emt hT6 htw hrow2 (fun z => absurd (e3 0 (by omega)) z) (fun _ z => absurd h2 z) (fun _ f' hf' e' slot' d1' d2' hfar => ?_) (fun e => ?_) (fun e => ?_) (fun e => ?_) (fun e => ?_)
        · have : f = f' := (nI_eq (by omega) (by omega)).mp e'
          subst this; exact ⟨rfl, hall slot' hfar⟩
        all_goals exact absurd e (by decide)
      · refine famC_0 (by rw [ecf]; exact h2) ⟨fun _ => ?_, fun z => absurd rfl z⟩
        refine behind_M (x2 := x2) (tw := tw) (tp := tp) hV hKM hI hS.1 hSM hn emf emt hT6 htw hrow2 (fun z => absurd (e3 0 (by omega)) z) (fun _ _ => ⟨rfl, h⟩) (fun _ f' hf' e' slot' d1' d2' hfar => ?_) (fun e => ?_) (fun e => ?_) (fun e => ?_) (fun e => ?_)
        · exact absurd (by rw [e']; exact nI_InR (by omega) hf') h2
        all_goals exact absurd e (by decide)
    · have e := toI_eq (k := 1) (by omega) q
      subst e
      by_cases h2 : InR x2 0 (nI W - 1)
      · refine walC_1 (by rw [hKC.1]; exact h2) ⟨fun z => absurd z (by decide), fun _ => ?_⟩
        obtain ⟨w, hw, rfl⟩ := InR_n (by omega) h2
        refine standBehind_C hV hKC hS.1 hSC (by omega) (fun d s l p sh di hs => ⟨ni_out (by omega) (by omega), ?_⟩)
        rw [cl (by omega), (hs.2.2.2 w (by omega)).1]
        refine behind_M (x2 := nI w) (tw := tw) (tp := tp) hV hKM hI hS.1 hSM hn emf emt hT6 htw hrow2 (fun z => absurd (e3 1 (by omega)) z) (fun e => ?_) (fun e => ?_) (fun _ z => absurd h2 z) (fun _ f' hf' e' slot' d1' d2' hfar => ?_) (fun e => ?_) (fun e => ?_)
        rotate_left 2
        · have : w = f' := (nI_eq (by omega) (by omega)).mp e'
          subst this; exact ⟨rfl, hall slot' hfar⟩
        all_goals exact absurd e (by decide)
      · refine walC_0 (by rw [hKC.1]; exact h2) ⟨fun _ => ?_, fun z => absurd rfl z⟩
        refine behind_M (x2 := x2) (tw := tw) (tp := tp) hV hKM hI hS.1 hSM hn emf emt hT6 htw hrow2 (fun z => absurd (e3 1 (by omega)) z) (fun e => ?_) (fun e => ?_) (fun _ _ => ⟨rfl, h⟩) (fun _ f' hf' e' slot' d1' d2' hfar => ?_) (fun e => ?_) (fun e => ?_)
        rotate_left 2
        · exact absurd (by rw [e']; exact nI_InR (by omega) hf') h2
        all_goals exact absurd e (by decide)
    · have e := toI_eq (k := 2) (by omega) q
      subst e
      by_cases h2 : InR x2 0 (nI T - 1)
      · refine treC_1 (by rw [ect]; exact h2) ⟨fun z => absurd z (by decide), fun _ => ?_⟩
        obtain ⟨t, ht, rfl⟩ := InR_n (by omega) h2
        refine standBehind_C hV hKC hS.1 hSC (by omega) (fun d s l p sh di hs => ?_)
        refine treeOwner_C hV.ow hKC.ow hT6 ht (htw t ht) (hrow t ht).1 (hrow t ht).2.2.1 (fun w hw => (hs.2.2.2 w hw).1) ?_
        refine behind_M (x2 := nI t) (tw := tw) (tp := tp) hV hKM hI hS.1 hSM hn emf emt hT6 htw hrow2 (fun z => absurd (e3 2 (by omega)) z) (fun e => ?_) (fun e => ?_) (fun e => ?_) (fun e => ?_) (fun _ z => absurd h2 z) (fun _ f' hf' e' slot' d1' d2' hfar => ?_)
        rotate_left 4
        · have : t = f' := (nI_eq (by omega) (by omega)).mp e'
          subst this; exact ⟨rfl, hall slot' hfar⟩
        all_goals exact absurd e (by decide)
      · refine treC_0 (by rw [ect]; exact h2) ⟨fun _ => ?_, fun z => absurd rfl z⟩
        refine behind_M (x2 := x2) (tw := tw) (tp := tp) hV hKM hI hS.1 hSM hn emf emt hT6 htw hrow2 (fun z => absurd (e3 2 (by omega)) z) (fun e => ?_) (fun e => ?_) (fun e => ?_) (fun e => ?_) (fun _ _ => ⟨rfl, h⟩) (fun _ f' hf' e' slot' d1' d2' hfar => ?_)
        rotate_left 4
        · exact absurd (by rw [e']; exact nI_InR (by omega) hf') h2
        all_goals exact absurd e (by decide)
  · refine within_0 h1 ⟨fun z => absurd rfl z, fun _ => ?_⟩
    unfold P_X9_behind
    exact in_n h1 (by decide +kernel) (by decide +kernel) ⟨fun _ => ⟨rfl, h⟩, fun z => absurd rfl z⟩
end

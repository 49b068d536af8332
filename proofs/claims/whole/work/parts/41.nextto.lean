section
variable {xl : Int32} {xt : Nat → Int32} {cf cw ct : Int32} {ck ch co ctw ctp : Nat → Int32} {nd ns : Int32} {nl np nsh : Nat → Int32} {us : Int32} {p8 : Nat → SVt} {ks : Int32} {p2 : Nat → SVt} {zs : Int32} {zw zp zd : Nat → Int32}
variable {mf mw mt : Int32} {msort mh mfi mse mby moff slot : Nat → Int32} {acts keeps ml : Int32} {mtx : Nat → Int32} {seens : Int32} {sw sp st : Nat → Int32} {idl : Int32}
variable {fd fs : Int32} {fl fp fsh fdi d1 d2 : Nat → Int32}
/-! one wall more -/
theorem cnt_up {A B : Nat → Nat} {W f g : Nat} : ∀ w, w ≤ W → cnt (va_up A W f) (va_up B W g) f w = cnt A B f w := by
  intro w
  induction w with
  | zero => intro _; rfl
  | succ w ih =>
    intro hw
    have e1 : va_up A W f w = A w := by simp [va_up]; omega
    have e2 : va_up B W g w = B w := by simp [va_up]; omega
    rw [cnt, cnt, ih (by omega), e1, e2]
theorem CoV_up {F W : Nat} {kd A B : Nat → Nat} {f g : Nat} (hV : CoV F W kd A B) (hW : W ≤ 8) (hf : f < F) (hg : g < F) (hfg : f ≠ g) : CoV F (W + 1) kd (va_up A W f) (va_up B W g) := by
  refine ⟨hV.1, by omega, fun w hw => ?_, hV.2.2.2⟩
  by_cases e : w = W
  · subst e
    have e1 : va_up A w f w = f := by simp [va_up]
    have e2 : va_up B w g w = g := by simp [va_up]
    rw [e1, e2]; exact ⟨hf, hg, hfg⟩
  · have e1 : va_up A W f w = A w := by simp [va_up, e]
    have e2 : va_up B W g w = B w := by simp [va_up, e]
    rw [e1, e2]; exact hV.2.2.1 w (by omega)
def nxtV (W : Nat) (kd A B : Nat → Nat) (S : St) (f g : Nat) : Int32 := nI ((dayN (W + 1) kd (va_up A W f) (va_up B W g) 7 S).2.2.1 f) - nI ((dayN W kd A B 7 S).2.2.1 f) + 50
theorem q_nextTo (h : RelX xl xt cf cw ct ck ch co ctw ctp nd ns nl np nsh us p8 ks p2 zs zw zp zd mf mw mt msort mh mfi mse mby moff slot acts keeps ml mtx seens sw sp st idl) (x1 x2 : Int32) {tf tcw tt : Int32} {tk th tl to ttw ttp cl9 : Nat → Int32} : P_X8_nextTo x1 x2 cf cw ct fd fs nd ns fl nl fp np fsh nsh co fdi ck tf tcw tt tk th ch tl cl9 to ttw ctw ttp ctp (fun r _ _ _ _ _ _ _ _ _ _ _ _ _ _ _ => P_X9_nextTo x1 x2 mf mw idl slot mfi d1 mse d2 msort (fun r' mw' slot' mfi' _ mse' _ => r = r' ∧ RelX xl xt cf cw ct ck ch co ctw ctp nd ns nl np nsh us p8 ks p2 zs zw zp zd mf mw' mt msort mh mfi' mse' mby moff slot' acts keeps ml mtx seens sw sp st idl)) := by
  obtain ⟨hT, hI, F, W, T, kd, hr, A, B, tw, tp, hC, hN, hU, hK, hZ⟩ := id h
  obtain ⟨hV, hF1, hW8, hT6, hr12, hc4, htw, ecf, emf, ect, emt, hKC, hKM, hhr, hrow⟩ := id hC
  obtain ⟨S, hS, hSC, hSM⟩ := id hN
  have hF := hV.1
  unfold P_X8_nextTo P_X9_nextTo
  by_cases h1 : InR x1 0 (nI F - 1)
  · refine famC_1 (by rw [ecf]; exact h1) ⟨fun z => absurd z (by decide), fun _ => ?_⟩
    by_cases h2 : InR x2 0 (nI F - 1)
    · refine famC_1 (by rw [ecf]; exact h2) ⟨fun z => absurd z (by decide), fun _ => ⟨fun h3 => ?_, fun h3 => ?_⟩⟩
      · obtain ⟨f, hf, rfl⟩ := InR_n (by omega) h1
        obtain ⟨g, hg, rfl⟩ := InR_n (by omega) h2
        have hfg : f ≠ g := fun e => h3 (by rw [e])
        have hV2 := CoV_up hV hW8 hf hg hfg
        unfold P_X2_moreByWall P_X1_takeOver P_X1_putWall
        refine standBehind_C (n := 7) hV hKC hS.1 hSC (by omega) (fun d s l p sh di hs => ⟨ni_out (by omega) (by omega), ?_⟩)
        dsimp only
        rw [hKC.1, ni2s, ni2, nI_1, cl (n := 2 * W) (by omega), cl (n := 2 * W + 1) (by omega)]
        refine ⟨fun _ => ⟨ni_out (by omega) (by omega), ni_out (by omega) (by omega), ?_⟩, fun q => absurd (nI_le (b := 8) hW8 (by omega)) q⟩
        have hKC2 : CoC F (W + 1) kd (va_up A W f) (va_up B W g) (nI (W + 1)) (upd (upd (va_cpy co to 0 0 18) (2 * W) (nI f)) (2 * W + 1) (nI g)) (va_cpy ck tk 0 0 6) := by
          refine ⟨rfl, fun w hw => ?_, fun v hv => by rw [sb_cpy0 (by omega)]; exact hKC.2.2 v hv⟩
          by_cases e : w = W
          · subst e
            have e1 : va_up A w f w = f := by simp [va_up]
            have e2 : va_up B w g w = g := by simp [va_up]
            rw [e1, e2, pk_un (by omega), pk_us, pk_us]; exact ⟨rfl, rfl⟩
          · have e1 : va_up A W f w = A w := by simp [va_up, e]
            have e2 : va_up B W g w = B w := by simp [va_up, e]
            rw [e1, e2, pk_un (by omega), pk_un (by omega), pk_un (by omega), pk_un (by omega), sb_cpy0 (by omega), sb_cpy0 (by omega)]
            exact hKC.2.1 w (by omega)
        refine standBehind_C (n := 7) hV2 hKC2 hS.1 hSC (by omega) (fun d' s' l' p' sh' di' hs' => ⟨ni_out (by omega) (by omega), ?_⟩)
        rw [cl (n := f) (by omega), hs.2.2.1 f hf, hs'.2.2.1 f hf]
        -- the reference
        refine famM_1 (by rw [emf]; exact h1) ⟨fun z => absurd z (by decide), fun _ => ?_⟩
        refine famM_1 (by rw [emf]; exact h2) ⟨fun z => absurd z (by decide), fun _ => ⟨fun _ => ?_, fun z => absurd z h3⟩⟩
        refine trial_M hF hSM (fun sl1 hs1 hf1 => ?_)
        rw [hI]
        refine passesBy_M (b := 385) (n := 7) hV hKM (by omega) hS.1 hs1 (by omega) (fun e1' e2' sl2 hs2 hf2 => ?_)
        have e385 : (385 : Int32) + nI f = nI (385 + f) := by rw [show (385 : Int32) = nI 385 from rfl, na]
        have emw := hKM.1
        rw [e385]
        refine ⟨ni_out (by omega) (by omega), ?_⟩
        have hfar2 : ∀ j, j < 385 → sl2 j = slot j := fun j hj => (hf2 j (by omega)).trans (hf1 j hj)
        refine trial_M hF (StM_row hF hSM (slot' := sl2) (fun k hk => hfar2 _ (by omega))) (fun sl3 hs3 hf3 => ?_)
        rw [emw]
        have e391 : (391 : Int32) + nI W = nI (385 + 6 + W) := by rw [show (391 : Int32) = nI (385 + 6) from rfl, na]
        have e400 : (400 : Int32) + nI W = nI (385 + 15 + W) := by rw [show (400 : Int32) = nI (385 + 15) from rfl, na]
        have e409 : (409 : Int32) + nI W = nI (385 + 24 + W) := by rw [show (409 : Int32) = nI (385 + 24) from rfl, na]
        rw [e391, e400, e409, nI_1]
        refine ⟨ni_out (by omega) (by omega), ni_out (by omega) (by omega), ni_out (by omega) (by omega), ni_out (by omega) (by omega), ni_out (by omega) (by omega), ?_⟩
        rw [cl (n := W) (by omega), cl (n := 385 + 6 + W) (by omega), cl (n := 385 + 15 + W) (by omega), cl (n := 385 + 24 + W) (by omega)]
        have hKM2 : CoM F (W + 1) kd (va_up A W f) (va_up B W g) (nI (W + 1)) (upd mfi W (nI f)) (upd mse W (nI g)) msort := by
          refine ⟨rfl, fun w hw => ?_, hKM.2.2⟩
          by_cases e : w = W
          · subst e
            have e1 : va_up A w f w = f := by simp [va_up]
            have e2 : va_up B w g w = g := by simp [va_up]
            rw [e1, e2, pk_us, pk_us]; exact ⟨rfl, rfl⟩
          · have e1 : va_up A W f w = A w := by simp [va_up, e]
            have e2 : va_up B W g w = B w := by simp [va_up, e]
            rw [e1, e2, pk_un e, pk_un e]
            exact hKM.2.1 w (by omega)
        obtain ⟨z1, z2, z3⟩ := hS.2.1 W (Nat.le_refl _) (by omega)
        have hs4 : StM F 385 S (upd (upd (upd sl3 (385 + 6 + W) 0) (385 + 15 + W) 0) (385 + 24 + W) 0) := by
          obtain ⟨g1, g2, g3, g4⟩ := hs3
          refine ⟨by rw [pk_un (by omega), pk_un (by omega), pk_un (by omega)]; exact g1, by rw [pk_un (by omega), pk_un (by omega), pk_un (by omega)]; exact g2, fun v hv => by rw [pk_un (by omega), pk_un (by omega), pk_un (by omega)]; exact g3 v hv, fun w hw => ⟨?_, ?_, ?_⟩⟩
          · by_cases e : w = W
            · subst e; rw [pk_un (by omega), pk_un (by omega), pk_us, z1]
            · rw [pk_un (by omega), pk_un (by omega), pk_un (by omega)]; exact (g4 w hw).1
          · by_cases e : w = W
            · subst e; rw [pk_un (by omega), pk_us, z2]
            · rw [pk_un (by omega), pk_un (by omega), pk_un (by omega)]; exact (g4 w hw).2.1
          · by_cases e : w = W
            · subst e; rw [pk_us, z3]
            · rw [pk_un (by omega), pk_un (by omega), pk_un (by omega)]; exact (g4 w hw).2.2
        refine passesBy_M (b := 385) (n := 7) hV2 hKM2 (by omega) hS.1 hs4 (by omega) (fun e1'' e2'' sl5 hs5 hf5 => ?_)
        have hG1 := dayG_le (W := W) (kd := kd) (A := A) (B := B) (S := S) 7
        have hG2 := dayG_le (W := W + 1) (kd := kd) (A := va_up A W f) (B := va_up B W g) (S := S) 7
        rw [na, cl (n := 385 + f) (by omega), hs5.2.2.1 f hf, hs2.2.2.1 f hf]
        have hmw : nI (W + 1) - 1 = nI W := by rw [ni_m1 (by omega), Nat.add_sub_cancel]
        rw [hmw]
        refine ⟨fun _ => ⟨ni_out (by omega) (by omega), rfl, ?_⟩, fun q => absurd (nI_pos' (by omega)) q⟩
        have hfar5 : ∀ j, j < 385 → sl5 j = slot j := fun j hj => by
          rw [hf5 j (by omega), pk_un (by omega), pk_un (by omega), pk_un (by omega), hf3 j hj, hfar2 j hj]
        have hKM3 : CoM F W kd A B (nI W) (upd mfi W (nI f)) (upd mse W (nI g)) msort := by
          refine ⟨rfl, fun w hw => ?_, hKM.2.2⟩
          rw [pk_un (by omega), pk_un (by omega)]; exact hKM.2.1 w hw
        exact ⟨hT, rfl, F, W, T, kd, hr, A, B, tw, tp, ⟨hV, hF1, hW8, hT6, hr12, hc4, htw, ecf, emf, ect, emt, ⟨rfl, hKC.2⟩, hKM3, hhr, hrow⟩, RSt_row hF hN (fun k hk => hfar5 _ (by omega)), RUn_row hF hU (fun j _ hj => hfar5 j (by omega)), RKe_row hF hK (fun j _ hj => hfar5 j (by omega)), hZ⟩
      · refine famM_1 (by rw [emf]; exact h1) ⟨fun z => absurd z (by decide), fun _ => ?_⟩
        exact famM_1 (by rw [emf]; exact h2) ⟨fun z => absurd z (by decide), fun _ => ⟨fun z => absurd h3 z, fun _ => ⟨rfl, h⟩⟩⟩
    · refine famC_0 (by rw [ecf]; exact h2) ⟨fun _ => ?_, fun z => absurd rfl z⟩
      refine famM_1 (by rw [emf]; exact h1) ⟨fun z => absurd z (by decide), fun _ => ?_⟩
      exact famM_0 (by rw [emf]; exact h2) ⟨fun _ => ⟨rfl, h⟩, fun z => absurd rfl z⟩
  · refine famC_0 (by rw [ecf]; exact h1) ⟨fun _ => ?_, fun z => absurd rfl z⟩
    exact famM_0 (by rw [emf]; exact h1) ⟨fun _ => ⟨rfl, h⟩, fun z => absurd rfl z⟩
end

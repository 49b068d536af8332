/-! what is undone, what is kept: purely -/
def svOf (d s : Int32) (l p sh : Nat → Int32) (v : SVt) : SVt := (d, s, va_cpy l v.2.2.1 0 0 6, va_cpy p v.2.2.2.1 0 0 9, va_cpy sh v.2.2.2.2 0 0 18)
theorem put8b {post : Int32 → (Nat → SVt) → Prop} {d s : Int32} {l p sh : Nat → Int32} {pst : Nat → SVt} {k : Nat} (hk : k < 8) (hp : post (nI (k + 1)) (va_up pst k (svOf d s l p sh (pst k)))) : P_X3_put8_b11 d s l p sh post (nI k) pst := by
  unfold P_X3_put8_b11
  refine ⟨ni_out hk (by omega), fun q => ?_, fun q => ?_, fun q => ?_, fun q => ?_, fun q => ?_, fun q => ?_, fun q => ?_, fun q => ?_⟩
  · have e : k = 0 := (nI_eq (a := k) (b := 0) (by omega) (by omega)).mp q
    subst e; unfold P_X6_takeOver; exact hp
  · have e : k = 1 := (nI_eq (a := k) (b := 1) (by omega) (by omega)).mp q
    subst e; unfold P_X6_takeOver; exact hp
  · have e : k = 2 := (nI_eq (a := k) (b := 2) (by omega) (by omega)).mp q
    subst e; unfold P_X6_takeOver; exact hp
  · have e : k = 3 := (nI_eq (a := k) (b := 3) (by omega) (by omega)).mp q
    subst e; unfold P_X6_takeOver; exact hp
  · have e : k = 4 := (nI_eq (a := k) (b := 4) (by omega) (by omega)).mp q
    subst e; unfold P_X6_takeOver; exact hp
  · have e : k = 5 := (nI_eq (a := k) (b := 5) (by omega) (by omega)).mp q
    subst e; unfold P_X6_takeOver; exact hp
  · have e : k = 6 := (nI_eq (a := k) (b := 6) (by omega) (by omega)).mp q
    subst e; unfold P_X6_takeOver; exact hp
  · have e : k = 7 := (nI_eq (a := k) (b := 7) (by omega) (by omega)).mp q
    subst e; unfold P_X6_takeOver; exact hp
theorem put2b {post : Int32 → (Nat → SVt) → Prop} {d s : Int32} {l p sh : Nat → Int32} {pst : Nat → SVt} {k : Nat} (hk : k < 2) (hp : post (nI (k + 1)) (va_up pst k (svOf d s l p sh (pst k)))) : P_X3_put2_b11 d s l p sh post (nI k) pst := by
  unfold P_X3_put2_b11
  refine ⟨ni_out hk (by omega), fun q => ?_, fun q => ?_⟩
  · have e : k = 0 := (nI_eq (a := k) (b := 0) (by omega) (by omega)).mp q
    subst e; unfold P_X6_takeOver; exact hp
  · have e : k = 1 := (nI_eq (a := k) (b := 1) (by omega) (by omega)).mp q
    subst e; unfold P_X6_takeOver; exact hp
theorem isFull8_C {post : Int32 → Prop} {k : Nat} (hk : k ≤ 8) (h1 : k = 8 → post 1) (h0 : k < 8 → post 0) : P_X3_isFull8 (nI k) post := by
  unfold P_X3_isFull8
  refine ⟨fun q => ?_, fun q => ?_⟩
  · exact h0 ((nI_ltI (a := k) (b := 8) (by omega) (by omega)).mp q)
  · exact h1 (by have := mt (nI_ltI (a := k) (b := 8) (by omega) (by omega)).mpr q; omega)
theorem isFull2_C {post : Int32 → Prop} {k : Nat} (hk : k ≤ 2) (h1 : k = 2 → post 1) (h0 : k < 2 → post 0) : P_X3_isFull2 (nI k) post := by
  unfold P_X3_isFull2
  refine ⟨fun q => ?_, fun q => ?_⟩
  · exact h0 ((nI_ltI (a := k) (b := 2) (by omega) (by omega)).mp q)
  · exact h1 (by have := mt (nI_ltI (a := k) (b := 2) (by omega) (by omega)).mpr q; omega)
/-- the pile behind one more -/
def putP (u : Nat) (p8 : Nat → SVt) (d s : Int32) (l p sh : Nat → Int32) : Nat → SVt := if u < 8 then va_up p8 u (svOf d s l p sh (p8 u)) else va_up (rot8 p8) 7 (svOf d s l p sh (rot8 p8 7))
def putN (u : Nat) : Nat := if u < 8 then u + 1 else 8
theorem put8_C {post : Int32 → (Nat → SVt) → Prop} {d s : Int32} {l p sh : Nat → Int32} {p8 : Nat → SVt} {u : Nat} (hu : u ≤ 8) (hp : post (nI (putN u)) (putP u p8 d s l p sh)) : P_X3_put8 (nI u) p8 d s l p sh post := by
  unfold P_X3_put8
  unfold putN putP at hp
  refine isFull8_C hu (fun q => ?_) (fun q => ?_)
  · rw [if_neg (by omega), if_neg (by omega)] at hp
    refine ⟨fun z => absurd z (by decide), fun _ => ?_⟩
    unfold P_X3_dropOldest8
    exact put8b (k := 7) (by omega) hp
  · rw [if_pos q, if_pos q] at hp
    exact ⟨fun _ => put8b q hp, fun z => absurd rfl z⟩
theorem put2_C {post : Int32 → (Nat → SVt) → Prop} {d s : Int32} {l p sh : Nat → Int32} {p2 : Nat → SVt} {u : Nat} (hu : u < 2) (hp : post (nI (u + 1)) (va_up p2 u (svOf d s l p sh (p2 u)))) : P_X3_put2 (nI u) p2 d s l p sh post := by
  unfold P_X3_put2
  exact isFull2_C (by omega) (fun q => by omega) (fun _ => ⟨fun _ => put2b hu hp, fun z => absurd rfl z⟩)
/-- the reference's row behind one more -/
def KnP (u : Nat) (slot slot' : Nat → Int32) : Prop := (∀ k, k < 35 → slot' (35 * putN u + k) = slot k) ∧ (∀ j, (j < 35 ∨ 315 ≤ j) → slot' j = slot j) ∧ (u < 8 → ∀ j, 35 ≤ j → j < 35 * (u + 1) → slot' j = slot j) ∧ (¬ u < 8 → ∀ j, 35 ≤ j → j < 280 → slot' j = slot (j + 35))
theorem known_M {post : Int32 → (Nat → Int32) → Prop} {slot : Nat → Int32} {u : Nat} (hu : u ≤ 8) (hp : ∀ slot', KnP u slot slot' → post (nI (putN u)) slot') : P_X9_known (nI u) slot post := by
  have tail : ∀ v sl, v < 8 → putN u = v + 1 → (∀ k, k < 35 → sl k = slot k) → (∀ j, 315 ≤ j → sl j = slot j) → (u < 8 → v = u ∧ ∀ j, sl j = slot j) → (¬ u < 8 → v = 7 ∧ ∀ j, 35 ≤ j → j < 280 → sl j = slot (j + 35)) → P_X9_known_b46 post (nI v) sl := by
    intro v sl hv hput h1 h2 h3 h4
    unfold P_X9_known_b46
    rw [nI_1, show (35 : Int32) = nI 35 from rfl, pk_mul, show (0 : Int32) = nI 0 from rfl]
    refine copies_M (by omega) (by omega) (by omega) (fun slot' e1 e2 => ?_)
    rw [← hput]
    refine hp slot' ⟨fun k hk => ?_, fun j hj => ?_, fun q j ha hb => ?_, fun q j ha hb => ?_⟩
    · rw [hput, show 35 * (v + 1) = (v + 1) * 35 by omega, e1 k hk, Nat.zero_add]; exact h1 k hk
    · rw [e2 j (by omega)]
      rcases hj with hj | hj
      · exact h1 j hj
      · exact h2 j hj
    · obtain ⟨rfl, e⟩ := h3 q
      rw [e2 j (by omega)]; exact e j
    · obtain ⟨rfl, e⟩ := h4 q
      rw [e2 j (by omega)]; exact e j ha hb
  unfold P_X9_known
  refine ⟨fun q => ?_, fun q => ?_⟩
  · have hu8 : u < 8 := by
      by_cases e : u = 8
      · subst e; exact absurd rfl q
      · omega
    exact tail u slot hu8 (by rw [putN, if_pos hu8]) (fun _ _ => rfl) (fun _ _ => rfl) (fun _ => ⟨rfl, fun _ => rfl⟩) (fun z => absurd hu8 z)
  · have hu8 : u = 8 := (nI_eq (a := u) (b := 8) (by omega) (by omega)).mp q
    subst hu8
    refine ⟨246, ?_⟩
    have key : ∀ k i sl, i + k = 280 → 35 ≤ i → (∀ j, j < i → 35 ≤ j → sl j = slot (j + 35)) → (∀ j, (j < 35 ∨ i ≤ j) → sl j = slot j) → P_X9_known_L12 post (k + 1) (nI i) (nI 8) sl := by
      intro k
      induction k with
      | zero =>
        intro i sl hi h35 h1 h2
        rw [P_X9_known_L12]
        have e : i = 280 := by omega
        subst e
        refine ⟨fun _ => ?_, fun z => absurd (Int32.le_refl _) z⟩
        exact tail 7 sl (by omega) rfl (fun k hk => h2 k (by omega)) (fun j hj => h2 j (by omega)) (fun z => by omega) (fun _ => ⟨rfl, fun j ha hb => h1 j hb ha⟩)
      | succ k ih =>
        intro i sl hi h35 h1 h2
        rw [P_X9_known_L12]
        refine ⟨fun q => absurd q (nI_ge (a := i) (b := 280) (by omega) (by omega)), fun _ => ?_⟩
        rw [show (35 : Int32) = nI 35 from rfl, na, nI_1, cl (by omega), cl (by omega)]
        refine ⟨ni_out (by omega) (by omega), ni_out (by omega) (by omega), ih (i + 1) _ (by omega) (by omega) (fun j hj h => ?_) (fun j hj => ?_)⟩
        · by_cases e : j = i
          · subst e; rw [pk_us, h2 _ (by omega)]
          · rw [pk_un e]; exact h1 j (by omega) h
        · rw [pk_un (by omega)]; exact h2 j (by omega)
    exact key 245 35 slot (by omega) (by omega) (fun j hj h => by omega) (fun _ _ => rfl)
theorem RSt_to {F W a b : Nat} {d s : Int32} {l p sh slot slot' : Nat → Int32} (hF : F ≤ 6) (h : RSt F W d s l p sh slot a) (e : ∀ k, k < 35 → slot' (b + k) = slot (a + k)) : RSt F W d s l p sh slot' b := by
  obtain ⟨S, h1, h2, h3⟩ := h
  exact ⟨S, h1, h2, StM_at hF h3 e⟩
theorem RSt_cpy {F W b : Nat} {d s : Int32} {l p sh slot : Nat → Int32} (hF : F ≤ 6) (v : SVt) (h : RSt F W d s l p sh slot b) : RSv F W (svOf d s l p sh v) slot b := by
  obtain ⟨S, h1, h2, h3⟩ := h
  exact ⟨S, h1, StC_copy hF h2, h3⟩
/-- the piles stay as one -/
theorem RUn_put {F W u : Nat} {d s : Int32} {l p sh slot slot' : Nat → Int32} {p8 : Nat → SVt} (hF : F ≤ 6) (hu : u ≤ 8) (hN : RSt F W d s l p sh slot 0) (h : ∀ k, k < u → RSv F W (p8 k) slot (35 * (k + 1))) (hK : KnP u slot slot') : RUn F W (nI (putN u)) (putP u p8 d s l p sh) (nI (putN u)) slot' := by
  obtain ⟨k1, k2, k3, k4⟩ := hK
  refine ⟨putN u, by unfold putN; split <;> omega, rfl, rfl, fun k hk => ?_⟩
  unfold putN at hk k1
  unfold putP
  by_cases q : u < 8
  · rw [if_pos q] at hk k1 ⊢
    by_cases e : k = u
    · subst e
      have e2 : va_up p8 k (svOf d s l p sh (p8 k)) k = svOf d s l p sh (p8 k) := by simp [va_up]
      show RSv F W (va_up p8 k (svOf d s l p sh (p8 k)) k) slot' _
      rw [e2]
      exact RSt_cpy hF _ (RSt_to hF hN (fun j hj => by rw [k1 j hj, Nat.zero_add]))
    · have e2 : va_up p8 u (svOf d s l p sh (p8 u)) k = p8 k := by simp [va_up, e]
      show RSv F W (va_up p8 u (svOf d s l p sh (p8 u)) k) slot' _
      rw [e2]
      exact RSt_row hF (h k (by omega)) (fun j hj => k3 q _ (by omega) (by omega))
  · rw [if_neg q] at hk k1 ⊢
    by_cases e : k = 7
    · subst e
      have e2 : va_up (rot8 p8) 7 (svOf d s l p sh (rot8 p8 7)) 7 = svOf d s l p sh (rot8 p8 7) := by simp [va_up]
      show RSv F W (va_up (rot8 p8) 7 (svOf d s l p sh (rot8 p8 7)) 7) slot' _
      rw [e2]
      exact RSt_cpy hF _ (RSt_to hF hN (fun j hj => by rw [k1 j hj, Nat.zero_add]))
    · have e2 : va_up (rot8 p8) 7 (svOf d s l p sh (rot8 p8 7)) k = p8 (k + 1) := by simp [va_up, rot8, e]
      show RSv F W (va_up (rot8 p8) 7 (svOf d s l p sh (rot8 p8 7)) k) slot' _
      rw [e2]
      refine RSt_to hF (h (k + 1) (by omega)) (fun j hj => ?_)
      rw [k4 q _ (by omega) (by omega)]
      congr 1; omega
/-- the latest of a pile, taken -/
theorem take8_C {post : Int32 → Int32 → Int32 → Int32 → (Nat → Int32) → (Nat → Int32) → (Nat → Int32) → Prop} {d s : Int32} {l p sh : Nat → Int32} {pst : Nat → SVt} {u : Nat} (hu : u ≤ 8) (h0 : u = 0 → post 0 (nI u) d s l p sh) (h1 : ∀ k, u = k + 1 → post 1 (nI k) (pst k).1 (pst k).2.1 (va_cpy (pst k).2.2.1 l 0 0 6) (va_cpy (pst k).2.2.2.1 p 0 0 9) (va_cpy (pst k).2.2.2.2 sh 0 0 18)) : P_X3_takeLastInto8 (nI u) pst d s l p sh post := by
  unfold P_X3_takeLastInto8
  rw [ni_e0 (by omega)]
  refine ⟨fun q => ?_, fun q => h0 q⟩
  obtain ⟨k, rfl⟩ : ∃ k, u = k + 1 := ⟨u - 1, by omega⟩
  rw [ni_m1 q, Nat.add_sub_cancel]
  have hp := h1 k rfl
  refine ⟨ni_out (by omega) (by omega), fun q => ?_, fun q => ?_, fun q => ?_, fun q => ?_, fun q => ?_, fun q => ?_, fun q => ?_, fun q => ?_⟩
  · have e : k = 0 := (nI_eq (a := k) (b := 0) (by omega) (by omega)).mp q
    subst e; unfold P_X6_takeOver; exact hp
  · have e : k = 1 := (nI_eq (a := k) (b := 1) (by omega) (by omega)).mp q
    subst e; unfold P_X6_takeOver; exact hp
  · have e : k = 2 := (nI_eq (a := k) (b := 2) (by omega) (by omega)).mp q
    subst e; unfold P_X6_takeOver; exact hp
  · have e : k = 3 := (nI_eq (a := k) (b := 3) (by omega) (by omega)).mp q
    subst e; unfold P_X6_takeOver; exact hp
  · have e : k = 4 := (nI_eq (a := k) (b := 4) (by omega) (by omega)).mp q
    subst e; unfold P_X6_takeOver; exact hp
  · have e : k = 5 := (nI_eq (a := k) (b := 5) (by omega) (by omega)).mp q
    subst e; unfold P_X6_takeOver; exact hp
  · have e : k = 6 := (nI_eq (a := k) (b := 6) (by omega) (by omega)).mp q
    subst e; unfold P_X6_takeOver; exact hp
  · have e : k = 7 := (nI_eq (a := k) (b := 7) (by omega) (by omega)).mp q
    subst e; unfold P_X6_takeOver; exact hp
theorem take2_C {post : Int32 → Int32 → Int32 → Int32 → (Nat → Int32) → (Nat → Int32) → (Nat → Int32) → Prop} {d s : Int32} {l p sh : Nat → Int32} {pst : Nat → SVt} {u : Nat} (hu : u ≤ 2) (h0 : u = 0 → post 0 (nI u) d s l p sh) (h1 : ∀ k, u = k + 1 → post 1 (nI k) (pst k).1 (pst k).2.1 (va_cpy (pst k).2.2.1 l 0 0 6) (va_cpy (pst k).2.2.2.1 p 0 0 9) (va_cpy (pst k).2.2.2.2 sh 0 0 18)) : P_X3_takeLastInto2 (nI u) pst d s l p sh post := by
  unfold P_X3_takeLastInto2
  rw [ni_e0 (by omega)]
  refine ⟨fun q => ?_, fun q => h0 q⟩
  obtain ⟨k, rfl⟩ : ∃ k, u = k + 1 := ⟨u - 1, by omega⟩
  rw [ni_m1 q, Nat.add_sub_cancel]
  have hp := h1 k rfl
  refine ⟨ni_out (by omega) (by omega), fun q => ?_, fun q => ?_⟩
  · have e : k = 0 := (nI_eq (a := k) (b := 0) (by omega) (by omega)).mp q
    subst e; unfold P_X6_takeOver; exact hp
  · have e : k = 1 := (nI_eq (a := k) (b := 1) (by omega) (by omega)).mp q
    subst e; unfold P_X6_takeOver; exact hp

/-! ===== addBerth, addCrossing, addVehicle, addConnection, setTide, setWind ===== -/
theorem p_has1 {t r w : Nat} {σ : fS} {n i : Nat} {x : Int32} (h : σ t 3 = nI n) (hn : n < 2 ^ 31) (hx : x = nI i) (hi : i < n) : f_X5_has t r w x σ = some (1, σ) := by
  rw [p_has, if_pos]
  rw [hx, h]
  exact ⟨nI_pos' (by omega), nI_lt hi hn⟩
theorem p_has0 {t r w : Nat} {σ : fS} {n : Nat} {x : Int32} (h : σ t 3 = nI n) (hx : x < 0 ∨ nI n ≤ x) : f_X5_has t r w x σ = some (0, σ) := by
  rw [p_has, if_neg]
  rw [h]
  rintro ⟨a, b⟩
  rcases hx with q | q
  · exact absurd q (Int32.not_lt.mpr a)
  · exact absurd b (Int32.not_lt.mpr q)
theorem lt_pred {n : Nat} (hn : n < 2 ^ 31) {x : Int32} (h : nI n ≤ x) : ¬ x ≤ nI n - 1 := by
  intro h2
  have h3 := Int32.le_iff_toInt_le.mp h
  have h4 := Int32.le_iff_toInt_le.mp h2
  rw [nI_toInt hn] at h3
  rw [Int32.toInt_sub, nI_toInt hn, show (1 : Int32).toInt = 1 from rfl, Int.bmod_eq_of_le (by omega) (by omega)] at h4
  omega
theorem le_pred {n i : Nat} (hn : n < 2 ^ 31) (h : i < n) : nI i ≤ nI n - 1 := by
  rw [Int32.le_iff_toInt_le, Int32.toInt_sub, nI_toInt hn, nI_toInt (by omega), show (1 : Int32).toInt = 1 from rfl, Int.bmod_eq_of_le (by omega) (by omega)]
  omega
theorem p_in1 {σ : fS} {n i : Nat} {x : Int32} (hn : n < 2 ^ 31) (hx : x = nI i) (hi : i < n) : f_X8_in x 0 (nI n - 1) σ = some (1, σ) := by
  rw [p_in, if_pos]
  rw [hx]
  exact ⟨nI_pos' (by omega), le_pred hn hi⟩
theorem p_in0 {σ : fS} {n : Nat} {x : Int32} (hn : n < 2 ^ 31) (hx : x < 0 ∨ nI n ≤ x) : f_X8_in x 0 (nI n - 1) σ = some (0, σ) := by
  rw [p_in, if_neg]
  rintro ⟨a, b⟩
  rcases hx with q | q
  · exact absurd q (Int32.not_lt.mpr a)
  · exact lt_pred hn q b
theorem p_isShip1 {σ : fS} {n i : Nat} {x : Int32} (h : σ 165 98 = nI n) (hn : n < 2 ^ 31) (hx : x = nI i) (hi : i < n) : f_X8_isShip x σ = some (1, σ) := by
  unfold f_X8_isShip
  rw [fb_x (show (98 : Int32) = nI 98 from rfl) (by decide) (by decide), show (98 : Int32).toNatClampNeg = 98 from rfl, h, p_in1 hn hx hi, fcall_ok, fg_ok (Or.inr rfl)]
theorem p_isShip0 {σ : fS} {n : Nat} {x : Int32} (h : σ 165 98 = nI n) (hn : n < 2 ^ 31) (hx : x < 0 ∨ nI n ≤ x) : f_X8_isShip x σ = some (0, σ) := by
  unfold f_X8_isShip
  rw [fb_x (show (98 : Int32) = nI 98 from rfl) (by decide) (by decide), show (98 : Int32).toNatClampNeg = 98 from rfl, h, p_in0 hn hx, fcall_ok, fg_ok (Or.inl rfl)]
theorem p_isBerth1 {σ : fS} {n i : Nat} {x : Int32} (h : σ 165 115 = nI n) (hn : n < 2 ^ 31) (hx : x = nI i) (hi : i < n) : f_X8_isBerth x σ = some (1, σ) := by
  unfold f_X8_isBerth
  rw [fb_x (show (115 : Int32) = nI 115 from rfl) (by decide) (by decide), show (115 : Int32).toNatClampNeg = 115 from rfl, h, p_in1 hn hx hi, fcall_ok, fg_ok (Or.inr rfl)]
theorem p_isBerth0 {σ : fS} {n : Nat} {x : Int32} (h : σ 165 115 = nI n) (hn : n < 2 ^ 31) (hx : x < 0 ∨ nI n ≤ x) : f_X8_isBerth x σ = some (0, σ) := by
  unfold f_X8_isBerth
  rw [fb_x (show (115 : Int32) = nI 115 from rfl) (by decide) (by decide), show (115 : Int32).toNatClampNeg = 115 from rfl, h, p_in0 hn hx, fcall_ok, fg_ok (Or.inl rfl)]
theorem p_isCrossing1 {σ : fS} {n i : Nat} {x : Int32} (h : σ 165 122 = nI n) (hn : n < 2 ^ 31) (hx : x = nI i) (hi : i < n) : f_X8_isCrossing x σ = some (1, σ) := by
  unfold f_X8_isCrossing
  rw [fb_x (show (122 : Int32) = nI 122 from rfl) (by decide) (by decide), show (122 : Int32).toNatClampNeg = 122 from rfl, h, p_in1 hn hx hi, fcall_ok, fg_ok (Or.inr rfl)]
theorem p_isCrossing0 {σ : fS} {n : Nat} {x : Int32} (h : σ 165 122 = nI n) (hn : n < 2 ^ 31) (hx : x < 0 ∨ nI n ≤ x) : f_X8_isCrossing x σ = some (0, σ) := by
  unfold f_X8_isCrossing
  rw [fb_x (show (122 : Int32) = nI 122 from rfl) (by decide) (by decide), show (122 : Int32).toNatClampNeg = 122 from rfl, h, p_in0 hn hx, fcall_ok, fg_ok (Or.inl rfl)]
theorem Op.add {P : aP} (hok : aOK P) {j : Nat} (hj : j < 5) {fc fm : fS → Option (Int32 × fS)} {n1 n2 n3 n4 : Nat} (hokn : (P.1 j).length < rmx j → aOK (setT P j (P.1 j ++ [[n1, n2, n3, n4]]))) (hc : ∀ σ, PV 1 σ P → fc σ = fcall (f_X5_addRow (2 + 2 * j) (rmx j) (wd j) (nI n1) (nI n2) (nI n3) (nI n4) σ) (fun r s => some (r, s))) (hmF : (P.1 j).length = rmx j → ∀ σ, GV (σ 165) P → fm σ = some (-10003, σ)) (hm : (P.1 j).length < rmx j → ∀ σ, GV (σ 165) P → ∃ σ', fm σ = some (nI (P.1 j).length, σ') ∧ (∀ c, c ≠ 165 → σ' c = σ c) ∧ σ' 165 (cnx j) = nI ((P.1 j).length + 1) ∧ (∀ c, c < wd j → σ' 165 (cnx j + 1 + wd j * (P.1 j).length + c) = nI ([n1, n2, n3, n4].getD c 0)) ∧ ∀ k, k ≠ cnx j → (k < cnx j + 1 + wd j * (P.1 j).length ∨ cnx j + 1 + wd j * (P.1 j).length + wd j ≤ k) → σ' 165 k = σ 165 k) : Op P fc fm := by
  have hl := hok.1 j hj
  have hb : rmx j * wd j < 5000 ∧ rmx j < 5000 ∧ 1 ≤ wd j ∧ wd j ≤ 4 := by
    match j, hj with
    | 0, _ => decide
    | 1, _ => decide
    | 2, _ => decide
    | 3, _ => decide
    | 4, _ => decide
  have tv : ∀ σ, PV 1 σ P → TV σ (2 + 2 * j) (wd j) (P.1 j) := fun σ h => by
    have := h.1 j hj
    rw [show 1 + 1 + 2 * j = 2 + 2 * j by omega] at this
    exact this
  by_cases hf : (P.1 j).length = rmx j
  · refine Op.no hok eE3 (fun σ h => ?_) (fun σ h => hmF hf σ h)
    rw [hc σ h, (p_addRow (tv σ h) hl hb.1 hb.2.1 hb.2.2 n1 n2 n3 n4).1 hf]
    rfl
  · have hlt : (P.1 j).length < rmx j := by omega
    refine ⟨nI (P.1 j).length, setT P j (P.1 j ++ [[n1, n2, n3, n4]]), hokn hlt, fun h => absurd h (nE (by omega)), fun σ h => ?_, fun σ h => ?_⟩
    · obtain ⟨s, e, f1, f2, f3⟩ := (p_addRow (tv σ h) hl hb.1 hb.2.1 hb.2.2 n1 n2 n3 n4).2 hlt
      rw [hc σ h, e, fcall_ok]
      refine ⟨s, rfl, h.set hj (by rw [show 1 + 1 + 2 * j = 2 + 2 * j by omega]; exact f3) (fun c a b x y => f1 c (by omega) (by omega)), fun c hc => f1 c (by omega) (by omega)⟩
    · obtain ⟨s, e, k1, k2, k3, k4⟩ := hm hlt σ h
      exact ⟨s, e, h.add hj hok.1 hlt k2 k3 (fun k _ x y => k4 k x y), k1⟩
/-- a row more in a table keeps aOK, if it fits and its own row is good -/
theorem aOK.add {P : aP} (h : aOK P) {j : Nat} {row : List Nat} (hl : (P.1 j).length < rmx j)
    (g0 : j = 0 → 50 ≤ row.getD 0 0 ∧ row.getD 0 0 ≤ 900 ∧ 1 ≤ row.getD 1 0 ∧ row.getD 1 0 ≤ 4 ∧ 10 ≤ row.getD 2 0 ∧ row.getD 2 0 ≤ 200 ∧ row.getD 3 0 ≤ 99)
    (g1 : j = 1 → row.getD 0 0 ≤ 999 ∧ 1 ≤ row.getD 1 0 ∧ row.getD 1 0 ≤ 2)
    (g2 : j = 2 → row.getD 0 0 < (P.1 0).length ∧ row.getD 1 0 < (P.1 1).length ∧ row.getD 2 0 < row.getD 3 0 ∧ row.getD 3 0 ≤ row.getD 2 0 + 300 ∧ row.getD 3 0 ≤ 2800)
    (g3 : j = 3 → row.getD 0 0 < (P.1 2).length ∧ 3 ≤ row.getD 1 0 ∧ row.getD 1 0 ≤ 30 ∧ row.getD 2 0 ≤ 5)
    (g4 : j = 4 → row.getD 0 0 < (P.1 2).length ∧ row.getD 1 0 ≤ 2800 ∧ row.getD 2 0 ≤ 60 ∧ 1 ≤ row.getD 3 0 ∧ row.getD 3 0 ≤ 999) : aOK (setT P j (P.1 j ++ [row])) := by
  obtain ⟨hz, h0, h1, h2, h3, h4, h5⟩ := h
  have len : ∀ q, (P.1 q).length ≤ ((setT P j (P.1 j ++ [row])).1 q).length := fun q => by
    by_cases hq : q = j
    · subst hq
      rw [setT_self, List.length_append]
      omega
    · rw [setT_ne hq]
      exact Nat.le_refl _
  have cas : ∀ q i, i < ((setT P j (P.1 j ++ [row])).1 q).length → (i < (P.1 q).length ∧ ∀ c, tg ((setT P j (P.1 j ++ [row])).1 q) i c = tg (P.1 q) i c) ∨ (q = j ∧ ∀ c, tg ((setT P j (P.1 j ++ [row])).1 q) i c = row.getD c 0) := fun q i hi => by
    by_cases hq : q = j
    · subst hq
      rw [setT_self] at hi ⊢
      rw [List.length_append] at hi
      by_cases hil : i < (P.1 q).length
      · exact Or.inl ⟨hil, fun c => tg_push hil⟩
      · have : i = (P.1 q).length := by simp at hi; omega
        subst this
        exact Or.inr ⟨rfl, fun c => tg_last⟩
    · rw [setT_ne hq] at hi ⊢
      exact Or.inl ⟨hi, fun c => rfl⟩
  have l0 := len 0
  have l1 := len 1
  have l2 := len 2
  refine ⟨fun q hq => ?_, fun i hi => ?_, fun i hi => ?_, fun i hi => ?_, fun i hi => ?_, fun i hi => ?_, h5⟩
  · by_cases hqj : q = j
    · subst hqj
      rw [setT_self, List.length_append]
      exact hl
    · rw [setT_ne hqj]
      exact hz q hq
  · rcases cas 0 i hi with ⟨a, b⟩ | ⟨a, b⟩
    · simp only [b]; exact h0 i a
    · simp only [b]; exact g0 a.symm
  · rcases cas 1 i hi with ⟨a, b⟩ | ⟨a, b⟩
    · simp only [b]; exact h1 i a
    · simp only [b]; exact g1 a.symm
  · rcases cas 2 i hi with ⟨a, b⟩ | ⟨a, b⟩
    · simp only [b]
      have := h2 i a
      exact ⟨by omega, by omega, this.2.2⟩
    · simp only [b]
      have := g2 a.symm
      exact ⟨by omega, by omega, this.2.2⟩
  · rcases cas 3 i hi with ⟨a, b⟩ | ⟨a, b⟩
    · simp only [b]
      have := h3 i a
      exact ⟨by omega, this.2⟩
    · simp only [b]
      have := g3 a.symm
      exact ⟨by omega, this.2⟩
  · rcases cas 4 i hi with ⟨a, b⟩ | ⟨a, b⟩
    · simp only [b]
      have := h4 i a
      exact ⟨by omega, this.2⟩
    · simp only [b]
      have := g4 a.symm
      exact ⟨by omega, this.2⟩
theorem op_berth (P : aP) (hok : aOK P) (x1 x2 : Int32) : Op P (f_X3_enterBerth 1 x1 x2) (f_X8_addsBerth x1 x2) := by
  by_cases a1 : (0 : Int32) ≤ x1 ∧ x1 ≤ 999
  · by_cases a2 : (1 : Int32) ≤ x2 ∧ x2 ≤ 2
    · obtain ⟨n1, rfl, -, u1⟩ := rng_nI (a := 0) (b := 999) rfl rfl (by decide) (by decide) a1
      obtain ⟨n2, rfl, l2, u2⟩ := rng_nI (a := 1) (b := 2) rfl rfl (by decide) (by decide) a2
      refine Op.add (n1 := n1) (n2 := n2) (n3 := 0) (n4 := 0) hok (j := 1) (by decide) (fun hl => hok.add hl (fun h => by cases h) (fun _ => ⟨u1, l2, u2⟩) (fun h => by cases h) (fun h => by cases h) (fun h => by cases h)) (fun σ h => ?_) (fun hf σ h => ?_) (fun hl σ h => ?_)
      · unfold f_X3_enterBerth f_X3_isBerth
        rw [p_isOutside, if_pos a1, fcall_ok, if_pos rfl, p_isOutside, if_pos a2, fcall_ok, if_pos rfl, fcall_ok, if_neg (by decide)]
        rfl
      · have hn : σ 165 115 = nI (P.1 1).length := (h.1 1 (by decide)).1
        unfold f_X8_addsBerth
        rw [p_in, if_pos a1, fcall_ok, if_neg (by decide), p_in, if_pos a2, fcall_ok, if_neg (by decide), fb_x (show (115 : Int32) = nI 115 from rfl) (by decide) (by decide), if_pos (by rw [show (115 : Int32).toNatClampNeg = 115 from rfl, hn, hf]; rfl)]
      · have hn : σ 165 115 = nI (P.1 1).length := (h.1 1 (by decide)).1
        unfold f_X8_addsBerth
        rw [p_in, if_pos a1, fcall_ok, if_neg (by decide), p_in, if_pos a2, fcall_ok, if_neg (by decide)]
        obtain ⟨s, e, k1, k2, k3, k4⟩ := p_mtail2 (CN := 115) (CB := 116) (W := 2) (RM := 3) (cn := 115) (rm := 3) rfl rfl rfl rfl hn hl (by decide) (nI n1) (nI n2)
        rw [e]
        refine ⟨s, rfl, k1, k2, fun c hc => ?_, k4⟩
        have hc : c < 2 := hc
        have := k3 c hc
        rcases (show c = 0 ∨ c = 1 by omega) with rfl | rfl <;> exact this
    · refine Op.no hok eE2 (fun σ h => ?_) (fun σ h => ?_)
      · unfold f_X3_enterBerth f_X3_isBerth
        rw [p_isOutside, if_pos a1, fcall_ok, if_pos rfl, p_isOutside, if_neg a2, fcall_ok, if_neg (by decide), fcall_ok, if_pos rfl]
      · unfold f_X8_addsBerth
        rw [p_in, if_pos a1, fcall_ok, if_neg (by decide), p_in, if_neg a2, fcall_ok, if_pos rfl]
  · refine Op.no hok eE2 (fun σ h => ?_) (fun σ h => ?_)
    · unfold f_X3_enterBerth f_X3_isBerth
      rw [p_isOutside, if_neg a1, fcall_ok, if_neg (by decide), fcall_ok, if_pos rfl]
    · unfold f_X8_addsBerth
      rw [p_in, if_neg a1, fcall_ok, if_pos rfl]
theorem st_1 : ∀ (σ : fS) (x1 : Int32) (x2 : Int32), LI σ → ∃ (r : Int32) (σ1 σ2 : fS), f_X7_addBerth x1 x2 σ = some (r, σ1) ∧ f_X8_addBerth x1 x2 σ1 = some (r, σ2) ∧ LI σ2 := fun _ x1 x2 h => op_step (fun P hP => op_berth P hP x1 x2) h

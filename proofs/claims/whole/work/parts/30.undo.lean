/-! ===== undo, save, restore, and the reads of data ===== -/
theorem p_undo_loop : ∀ (d i n k : Nat) (σ : fS), i + d = 277 → d < n → k < 6 → σ 164 3 = nI k → ∃ σ', f_X8_undo_b23 n (nI i) σ = some (nI k, σ') ∧ (∀ c, c ≠ 165 → σ' c = σ c) ∧ (∀ q, i ≤ q → q < 277 → σ' 165 q = σ 167 (277 * k + q)) ∧ ∀ q, q < i → σ' 165 q = σ 165 q := by
  intro d
  induction d with
  | zero =>
    intro i n k σ hi hn hk h3
    obtain ⟨n, rfl⟩ : ∃ m, n = m + 1 := ⟨n - 1, by omega⟩
    have : i = 277 := by omega
    subst this
    rw [f_X8_undo_b23, if_pos (nI_lit_ge (c := 277) (n := 277) (i := 277) rfl (Nat.le_refl 277) (by decide)), h3]
    exact ⟨σ, rfl, fun _ _ => rfl, fun q a b => by omega, fun _ _ => rfl⟩
  | succ d ih =>
    intro i n k σ hi hn hk h3
    obtain ⟨n, rfl⟩ : ∃ m, n = m + 1 := ⟨n - 1, by omega⟩
    have e1 : (277 : Int32) * σ 164 3 + nI i = nI (277 * k + i) := by
      rw [h3, show (277 : Int32) = nI 277 from rfl, nI_mul, nI_add]
    rw [f_X8_undo_b23, if_neg (nI_lit_le (c := 277) (n := 277) (i := i) rfl (by omega) (by decide)), fb_x e1 (by omega) (by decide), fb_x rfl (by omega) (by decide), fL_ok, cl_x e1 (by omega), nI_clamp (by omega), nI_1]
    obtain ⟨s2, e, h1, h2, h4⟩ := ih (i + 1) n k (fu σ 165 i (σ 167 (277 * k + i))) (by omega) (by omega) hk (by rw [fu_cell (by decide)]; exact h3)
    refine ⟨s2, e, fun c hc => by rw [h1 c hc, fu_cell hc], fun q a b => ?_, fun q hq => ?_⟩
    · by_cases hqi : q = i
      · subst hqi
        rw [h4 q (by omega), fu_self]
      · rw [h2 q (by omega) b, fu_cell (by decide)]
    · rw [h4 q (by omega), fu_slot (by omega)]
theorem p_take {σ : fS} {k : Nat} {F : Nat → aP} (h : HC σ (k + 1) F) (hz : ∀ i, i < k + 1 → aSz (F i)) : ∃ σ', f_X1_takeBack 1 σ = some (nI k, σ') ∧ (∀ c, (c < 1 ∨ 16 ≤ c) → c ≠ 46 → σ' c = σ c) ∧ PV 1 σ' (F k) ∧ HC σ' k F := by
  obtain ⟨h1, h2, nx, h3, h4, h5⟩ := h
  unfold f_X1_takeBack
  rw [if_neg (by rw [h2]; exact nI_ne0 (by omega) (by omega)), fL_ok, fL_ok, h2, nI_pred]
  have c1 : fu σ 46 2 (nI k) 46 1 = nI nx := by rw [fu_slot (by decide)]; exact h4
  have e1 : fu σ 46 2 (nI k) 46 1 + 6 - 1 - (fu σ 46 2 (nI k) 46 1 + 6 - 1) / 6 * 6 = nI ((nx + 5) % 6) := by
    rw [c1, show nI nx + (6 : Int32) = nI (nx + 6) from nI_add nx 6, nI_pred (nx + 5)]
    exact nI_rem6 (by omega)
  rw [e1, fu_self, fb_x rfl (Nat.mod_lt _ (by decide)) (by decide), nI_clamp (by have := Nat.mod_lt (nx + 5) (by decide : 0 < 6); omega)]
  have hnx := Nat.mod_lt (nx + 5) (by decide : 0 < 6)
  have hs : ∀ b X, 48 ≤ b → PV b σ X → PV b (fu (fu σ 46 2 (nI k)) 46 1 (nI ((nx + 5) % 6))) X := fun b X hb h => h.of (fun c a _ => by rw [fu_cell (by omega), fu_cell (by omega)])
  have hk := h5 k (by omega)
  rw [show (nx + 6 - (k + 1) + k) % 6 = (nx + 5) % 6 by omega] at hk
  obtain ⟨s, e, f1, g1⟩ := p_pcopy (b0 := 1) (b1 := 48 + 15 * ((nx + 5) % 6)) (hs _ _ (by omega) hk) (hz k (by omega)) (Or.inl (by omega))
  rw [e, fcallv_ok]
  have c2 : s 46 2 = nI k := by rw [f1 46 (by omega), fu_slot (by decide), fu_self]
  have c3 : s 46 1 = nI ((nx + 5) % 6) := by rw [f1 46 (by omega), fu_self]
  refine ⟨s, by rw [c2], fun c a b => by rw [f1 c (by omega), fu_cell b, fu_cell b], g1, by omega, c2, (nx + 5) % 6, hnx, c3, fun i hi => ?_⟩
  have := h5 i (by omega)
  rw [show (nx + 6 - (k + 1) + i) % 6 = ((nx + 5) % 6 + 6 - k + i) % 6 by omega] at this
  exact (hs _ _ (by omega) this).of (fun c a b => f1 c (by omega))
theorem st_13 : ∀ (σ : fS), LI σ → ∃ (r : Int32) (σ1 σ2 : fS), f_X7_undo σ = some (r, σ1) ∧ f_X8_undo σ1 = some (r, σ2) ∧ LI σ2 := by
  intro σ hLI
  obtain ⟨⟨P, k, F, hPV, hGV, hok, hHC, hHM, hF⟩, hXR⟩ := hLI
  unfold f_X7_undo
  cases k with
  | zero =>
    have e1 : f_X1_takeBack 1 σ = some (-10004, σ) := by
      unfold f_X1_takeBack
      rw [if_pos (by rw [hHC.2.1]; rfl)]
    rw [e1, fcall_ok]
    refine ⟨_, σ, σ, rfl, ?_, ⟨P, 0, F, hPV, hGV, hok, hHC, hHM, hF⟩, hXR⟩
    unfold f_X8_undo
    rw [if_pos (by rw [hHM.1]; rfl)]
  | succ k =>
    have hk6 := hHC.1
    obtain ⟨s, e, f1, g1, g2⟩ := p_take hHC (fun i hi => (hF i hi).1)
    rw [e, fcall_ok]
    have m3 : s 164 3 = nI (k + 1) := by rw [f1 164 (by omega) (by decide)]; exact hHM.1
    have hu : f_X8_undo s = f_X8_undo_b23 fN (nI 0) (fu s 164 3 (nI k)) := by
      unfold f_X8_undo
      rw [if_neg (by rw [m3]; exact nI_ne0 (by omega) (by omega)), fL_ok, m3, nI_pred]
      rfl
    obtain ⟨s2, e2, k1, k2, -⟩ := p_undo_loop 277 0 fN k (fu s 164 3 (nI k)) rfl (by decide) (by omega) (fu_self _ _ _ _)
    have k1' : ∀ c, c ≠ 165 → c ≠ 164 → s2 c = s c := fun c a b => by rw [k1 c a, fu_cell b]
    refine ⟨_, s, s2, rfl, by rw [hu, e2], ⟨F k, k, F, g1.of (fun c a b => k1' c (by omega) (by omega)), ?_, hF k (by omega), g2.of (fun c a b => k1' c (by omega) (by omega)), ⟨by rw [k1 164 (by decide), fu_self], fun i hi => ?_⟩, fun i hi => hF i (by omega)⟩, ?_⟩
    · refine (hHM.2 k (by omega)).of (hF k (by omega)).1 (fun q hq => ?_)
      rw [k2 q (Nat.zero_le _) hq, fu_cell (by decide), f1 167 (by omega) (by decide)]
    · rw [k1' 167 (by decide) (by decide), f1 167 (by omega) (by decide)]
      exact hHM.2 i (by omega)
    · have q : ∀ c, (c < 1 ∨ 16 ≤ c) → c ≠ 46 → c ≠ 165 → c ≠ 164 → s2 c = σ c := fun c a b d e => by rw [k1' c d e, f1 c a b]
      exact XR.of hXR (q _ (by omega) (by omega) (by omega) (by omega)) (fun c a b => q _ (by omega) (by omega) (by omega) (by omega)) (q _ (by omega) (by omega) (by omega) (by omega)) (q _ (by omega) (by omega) (by omega) (by omega)) (q _ (by omega) (by omega) (by omega) (by omega)) (q _ (by omega) (by omega) (by omega) (by omega)) (q _ (by omega) (by omega) (by omega) (by omega)) (q _ (by omega) (by omega) (by omega) (by omega)) (q _ (by omega) (by omega) (by omega) (by omega)) (q _ (by omega) (by omega) (by omega) (by omega)) (fun j hj => by rw [k1 164 (by decide), fu_slot (by omega), f1 164 (by omega) (by decide)])
theorem p_save_loop : ∀ (d i n : Nat) (σ : fS), i + d = 277 → d < n → ∃ σ', f_X8_save_b7 n (nI i) σ = some (σ 165 122, σ') ∧ (∀ c, c ≠ 168 → σ' c = σ c) ∧ (∀ q, i ≤ q → q < 277 → σ' 168 q = σ 165 q) ∧ ∀ q, q < i → σ' 168 q = σ 168 q := by
  intro d
  induction d with
  | zero =>
    intro i n σ hi hn
    obtain ⟨n, rfl⟩ : ∃ m, n = m + 1 := ⟨n - 1, by omega⟩
    have : i = 277 := by omega
    subst this
    rw [f_X8_save_b7, if_pos (nI_lit_ge (c := 277) (n := 277) (i := 277) rfl (Nat.le_refl 277) (by decide)), fb_x (show (122 : Int32) = nI 122 from rfl) (by decide) (by decide)]
    exact ⟨σ, rfl, fun _ _ => rfl, fun q a b => by omega, fun _ _ => rfl⟩
  | succ d ih =>
    intro i n σ hi hn
    obtain ⟨n, rfl⟩ : ∃ m, n = m + 1 := ⟨n - 1, by omega⟩
    rw [f_X8_save_b7, if_neg (nI_lit_le (c := 277) (n := 277) (i := i) rfl (by omega) (by decide)), fb_x rfl (by omega) (by decide), fb_x rfl (by omega) (by decide), fL_ok, nI_clamp (by omega), nI_1]
    obtain ⟨s2, e, h1, h2, h4⟩ := ih (i + 1) n (fu σ 168 i (σ 165 i)) (by omega) (by omega)
    rw [fu_cell (show (165 : Nat) ≠ 168 by decide)] at e h2
    refine ⟨s2, e, fun c hc => by rw [h1 c hc, fu_cell hc], fun q a b => ?_, fun q hq => ?_⟩
    · by_cases hqi : q = i
      · subst hqi
        rw [h4 q (by omega), fu_self]
      · exact h2 q (by omega) b
    · rw [h4 q (by omega), fu_slot (by omega)]
theorem st_38 : ∀ (σ : fS), LI σ → ∃ (r : Int32) (σ1 σ2 : fS), f_X7_save σ = some (r, σ1) ∧ f_X8_save σ1 = some (r, σ2) ∧ LI σ2 := by
  intro σ hLI
  obtain ⟨⟨P, k, F, hPV, hGV, hok, hHC, hHM, hF⟩, hS, hX, hZ⟩ := hLI
  obtain ⟨s, e, f1, g1⟩ := p_pcopy (b0 := 31) (b1 := 1) hPV hok.1 (Or.inr (by decide))
  unfold f_X7_save
  rw [e, fcallv_ok, fL_ok, p_size, fcall_ok]
  have r1 : fu s 0 8 1 6 3 = nI (P.1 2).length := by rw [fu_cell (by decide), f1 6 (by decide)]; exact (hPV.1 2 (by decide)).1
  have hsv : f_X8_save (fu s 0 8 1) = f_X8_save_b7 fN (nI 0) (fu (fu s 0 8 1) 164 5 1) := by
    unfold f_X8_save
    rw [fL_ok, nI_0]
  obtain ⟨s2, e2, k1, k2, -⟩ := p_save_loop 277 0 fN (fu (fu s 0 8 1) 164 5 1) rfl (by decide)
  have k1' : ∀ c, c ≠ 168 → c ≠ 164 → c ≠ 0 → (c < 31 ∨ 46 ≤ c) → s2 c = σ c := fun c a b d x => by rw [k1 c a, fu_cell b, fu_cell d, f1 c (by omega)]
  have g165 : fu (fu s 0 8 1) 164 5 1 165 = σ 165 := by rw [fu_cell (by decide), fu_cell (by decide), f1 165 (by decide)]
  refine ⟨nI (P.1 2).length, fu s 0 8 1, s2, by rw [r1], ?_, ⟨P, k, F, hPV.of (fun c a b => k1' c (by omega) (by omega) (by omega) (by omega)), by rw [k1' 165 (by decide) (by decide) (by decide) (by decide)]; exact hGV, hok, hHC.of (fun c a b => k1' c (by omega) (by omega) (by omega) (by omega)), ?_, hF⟩, ?_, ?_, ?_⟩
  · rw [hsv, e2, g165]
    rw [show σ 165 122 = nI (P.1 2).length from (hGV.1 2 (by decide)).1]
  · unfold HM
    rw [k1 164 (by decide), fu_slot (by decide), fu_cell (by decide), f1 164 (by decide), k1' 167 (by decide) (by decide) (by decide) (by decide)]
    exact hHM
  · refine Or.inr ⟨by rw [k1 0 (by decide), fu_cell (by decide), fu_self], by rw [k1 164 (by decide), fu_self], P, hok, g1.of (fun c a b => by rw [k1 c (by omega), fu_cell (by omega), fu_cell (by omega)]), hGV.of hok.1 (fun q hq => by rw [k2 q (Nat.zero_le _) hq, g165])⟩
  · obtain ⟨n, x1, x2, x3, x4, x5⟩ := hX
    refine ⟨n, x1, ?_, ?_, ?_, ?_⟩
    · rw [k1' 157 (by decide) (by decide) (by decide) (by decide)]; exact x2
    · rw [k1 164 (by decide), fu_slot (by decide), fu_cell (by decide), f1 164 (by decide)]; exact x3
    · rw [k1' 158 (by decide) (by decide) (by decide) (by decide), k1' 169 (by decide) (by decide) (by decide) (by decide)]; exact x4
    · rw [k1' 157 (by decide) (by decide) (by decide) (by decide), k1 164 (by decide), fu_slot (by decide), fu_cell (by decide), f1 164 (by decide)]; exact x5
  · unfold ZI
    rw [k1' 162 (by decide) (by decide) (by decide) (by decide), k1' 163 (by decide) (by decide) (by decide) (by decide), k1' 187 (by decide) (by decide) (by decide) (by decide), k1' 188 (by decide) (by decide) (by decide) (by decide)]
    exact hZ
/-- a read on both sides -/
theorem rd_step {fc fm : fS → Option (Int32 × fS)} {σ : fS} (hLI : LI σ) {r : Int32} (hc : fc σ = some (r, σ)) (hm : fm σ = some (r, σ)) : ∃ (r : Int32) (σ1 σ2 : fS), fc σ = some (r, σ1) ∧ fm σ1 = some (r, σ2) ∧ LI σ2 := ⟨r, σ, σ, hc, hm, hLI⟩
theorem st_12 : ∀ (σ : fS), LI σ → ∃ (r : Int32) (σ1 σ2 : fS), f_X7_faultPosition σ = some (r, σ1) ∧ f_X8_faultPosition σ1 = some (r, σ2) ∧ LI σ2 := by
  intro σ hLI
  obtain ⟨-, -, ⟨n, x1, x2, x3, x4, x5⟩, -⟩ := id hLI
  refine rd_step (r := σ 164 8) hLI ?_ rfl
  unfold f_X7_faultPosition
  rw [x5]

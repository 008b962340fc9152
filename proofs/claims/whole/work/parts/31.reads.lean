/-! ===== restore, count, tide, wind, setBerth ===== -/
theorem p_rest_loop : ∀ (d i n : Nat) (σ : fS), i + d = 277 → d < n → ∃ σ', f_X8_restore_b13 n (nI i) σ = some (σ' 165 122, σ') ∧ (∀ c, c ≠ 165 → c ≠ 164 → σ' c = σ c) ∧ σ' 164 3 = 0 ∧ (∀ j, j ≠ 3 → σ' 164 j = σ 164 j) ∧ (∀ q, i ≤ q → q < 277 → σ' 165 q = σ 168 q) ∧ ∀ q, q < i → σ' 165 q = σ 165 q := by
  intro d
  induction d with
  | zero =>
    intro i n σ hi hn
    obtain ⟨n, rfl⟩ : ∃ m, n = m + 1 := ⟨n - 1, by omega⟩
    have : i = 277 := by omega
    subst this
    rw [f_X8_restore_b13, if_pos (nI_lit_ge (c := 277) (n := 277) (i := 277) rfl (Nat.le_refl 277) (by decide)), fL_ok, fb_x (show (122 : Int32) = nI 122 from rfl) (by decide) (by decide)]
    exact ⟨fu σ 164 3 0, rfl, fun c _ h => fu_cell h, fu_self _ _ _ _, fun j hj => fu_slot hj, fun q a b => by omega, fun q _ => by rw [fu_cell (by decide)]⟩
  | succ d ih =>
    intro i n σ hi hn
    obtain ⟨n, rfl⟩ : ∃ m, n = m + 1 := ⟨n - 1, by omega⟩
    rw [f_X8_restore_b13, if_neg (nI_lit_le (c := 277) (n := 277) (i := i) rfl (by omega) (by decide)), fb_x rfl (by omega) (by decide), fb_x rfl (by omega) (by decide), fL_ok, nI_clamp (by omega), nI_1]
    obtain ⟨s2, e, h1, h2, h3, h4, h5⟩ := ih (i + 1) n (fu σ 165 i (σ 168 i)) (by omega) (by omega)
    refine ⟨s2, e, fun c a b => by rw [h1 c a b, fu_cell a], h2, fun j hj => by rw [h3 j hj, fu_cell (by decide)], fun q a b => ?_, fun q hq => ?_⟩
    · by_cases hqi : q = i
      · subst hqi
        rw [h5 q (by omega), fu_self]
      · rw [h4 q (by omega) b, fu_cell (by decide)]
    · rw [h5 q (by omega), fu_slot (by omega)]
theorem st_39 : ∀ (σ : fS), LI σ → ∃ (r : Int32) (σ1 σ2 : fS), f_X7_restore σ = some (r, σ1) ∧ f_X8_restore σ1 = some (r, σ2) ∧ LI σ2 := by
  intro σ hLI
  obtain ⟨⟨P, k, F, hPV, hGV, hok, hHC, hHM, hF⟩, hS, hX, hZ⟩ := id hLI
  unfold f_X7_restore
  rcases hS with ⟨a, b⟩ | ⟨a, b, S, c, d, g⟩
  · rw [if_pos a]
    refine ⟨_, σ, σ, rfl, ?_, hLI⟩
    unfold f_X8_restore
    rw [if_pos b]
  · rw [if_neg (by rw [a]; decide)]
    obtain ⟨s, e, f1, g1⟩ := p_pcopy (b0 := 1) (b1 := 31) d c.1 (Or.inl (by decide))
    have hfg : f_X1_forget s = some (fu s 46 2 0) := by
      unfold f_X1_forget
      rw [fL_ok]
    rw [e, fcallv_ok, hfg, fcallv_ok, p_size, fcall_ok]
    have r1 : fu s 46 2 0 6 3 = nI (S.1 2).length := by rw [fu_cell (by decide)]; exact (g1.1 2 (by decide)).1
    obtain ⟨s2, e2, k1, k2, k3, k4, -⟩ := p_rest_loop 277 0 fN (fu s 46 2 0) rfl (by decide)
    have hrs : f_X8_restore (fu s 46 2 0) = f_X8_restore_b13 fN (nI 0) (fu s 46 2 0) := by
      unfold f_X8_restore
      rw [if_neg (by rw [fu_cell (by decide), f1 164 (by decide), b]; decide), nI_0]
    have k1' : ∀ c, c ≠ 165 → c ≠ 164 → c ≠ 46 → (c < 1 ∨ 16 ≤ c) → s2 c = σ c := fun c a b d x => by rw [k1 c a b, fu_cell d, f1 c (by omega)]
    have gg : GV (s2 165) S := g.of c.1 (fun q hq => by rw [k4 q (Nat.zero_le _) hq, fu_cell (by decide), f1 168 (by decide)])
    refine ⟨nI (S.1 2).length, fu s 46 2 0, s2, by rw [r1], ?_, ⟨S, 0, F, g1.of (fun c a b => by rw [k1 c (by omega) (by omega), fu_cell (by omega)]), gg, c, ?_, ⟨by rw [k2]; rfl, fun i hi => by omega⟩, fun i hi => by omega⟩, ?_⟩
    · rw [hrs, e2]
      rw [show s2 165 122 = nI (S.1 2).length from (gg.1 2 (by decide)).1]
    · obtain ⟨y1, y2, nx, y3, y4, y5⟩ := hHC
      refine ⟨by decide, by rw [k1 46 (by decide) (by decide), fu_self]; rfl, nx, y3, by rw [k1 46 (by decide) (by decide), fu_slot (by decide), f1 46 (by decide)]; exact y4, fun i hi => by omega⟩
    · exact XR.of hLI.2 (k1' _ (by omega) (by omega) (by omega) (by omega)) (fun c a b => k1' _ (by omega) (by omega) (by omega) (by omega)) (k1' _ (by omega) (by omega) (by omega) (by omega)) (k1' _ (by omega) (by omega) (by omega) (by omega)) (k1' _ (by omega) (by omega) (by omega) (by omega)) (k1' _ (by omega) (by omega) (by omega) (by omega)) (k1' _ (by omega) (by omega) (by omega) (by omega)) (k1' _ (by omega) (by omega) (by omega) (by omega)) (k1' _ (by omega) (by omega) (by omega) (by omega)) (k1' _ (by omega) (by omega) (by omega) (by omega)) (fun j hj => by rw [k3 j (by omega), fu_cell (by decide), f1 164 (by decide)])
theorem st_14 : ∀ (σ : fS) (x1 : Int32), LI σ → ∃ (r : Int32) (σ1 σ2 : fS), f_X7_count x1 σ = some (r, σ1) ∧ f_X8_count x1 σ1 = some (r, σ2) ∧ LI σ2 := by
  intro σ x hLI
  obtain ⟨⟨P, k, F, hPV, hGV, hok, hHC, hHM, hF⟩, hS, ⟨n, x1, x2, x3, x4, x5⟩, hZ⟩ := id hLI
  have c0 : σ 2 3 = nI (P.1 0).length := (hPV.1 0 (by decide)).1
  have c1 : σ 4 3 = nI (P.1 1).length := (hPV.1 1 (by decide)).1
  have c2 : σ 6 3 = nI (P.1 2).length := (hPV.1 2 (by decide)).1
  have c3 : σ 8 3 = nI (P.1 3).length := (hPV.1 3 (by decide)).1
  have c4 : σ 10 3 = nI (P.1 4).length := (hPV.1 4 (by decide)).1
  have m0 : σ 165 98 = nI (P.1 0).length := (hGV.1 0 (by decide)).1
  have m1 : σ 165 115 = nI (P.1 1).length := (hGV.1 1 (by decide)).1
  have m2 : σ 165 122 = nI (P.1 2).length := (hGV.1 2 (by decide)).1
  have m3 : σ 165 171 = nI (P.1 3).length := (hGV.1 3 (by decide)).1
  have m4 : σ 165 244 = nI (P.1 4).length := (hGV.1 4 (by decide)).1
  have c6 : σ 1 7 = nI P.2.2.2 := hPV.2.2.2.2.2
  have m6 : σ 165 97 = nI P.2.2.2 := hGV.2.2.2
  unfold f_X7_count f_X8_count
  by_cases q0 : x = 0
  · simp only [q0, if_true, p_size, fcall_ok, c0]
    refine ⟨_, σ, σ, rfl, ?_, hLI⟩
    rw [fb_x (show (98 : Int32) = nI 98 from rfl) (by decide) (by decide), show (98 : Int32).toNatClampNeg = 98 from rfl, m0]
  by_cases q1 : x = 1
  · simp only [q0, q1, if_true, if_false, p_size, fcall_ok, c1, show ¬ (1 : Int32) = 0 by decide]
    refine ⟨_, σ, σ, rfl, ?_, hLI⟩
    rw [fb_x (show (115 : Int32) = nI 115 from rfl) (by decide) (by decide), show (115 : Int32).toNatClampNeg = 115 from rfl, m1]
  by_cases q2 : x = 2
  · simp only [q2, if_true, if_false, p_size, fcall_ok, c2, show ¬ (2 : Int32) = 0 by decide, show ¬ (2 : Int32) = 1 by decide]
    refine ⟨_, σ, σ, rfl, ?_, hLI⟩
    rw [fb_x (show (122 : Int32) = nI 122 from rfl) (by decide) (by decide), show (122 : Int32).toNatClampNeg = 122 from rfl, m2]
  by_cases q3 : x = 3
  · simp only [q3, if_true, if_false, p_size, fcall_ok, c3, show ¬ (3 : Int32) = 0 by decide, show ¬ (3 : Int32) = 1 by decide, show ¬ (3 : Int32) = 2 by decide]
    refine ⟨_, σ, σ, rfl, ?_, hLI⟩
    rw [fb_x (show (171 : Int32) = nI 171 from rfl) (by decide) (by decide), show (171 : Int32).toNatClampNeg = 171 from rfl, m3]
  by_cases q4 : x = 4
  · simp only [q4, if_true, if_false, p_size, fcall_ok, c4, show ¬ (4 : Int32) = 0 by decide, show ¬ (4 : Int32) = 1 by decide, show ¬ (4 : Int32) = 2 by decide, show ¬ (4 : Int32) = 3 by decide]
    refine ⟨_, σ, σ, rfl, ?_, hLI⟩
    rw [fb_x (show (244 : Int32) = nI 244 from rfl) (by decide) (by decide), show (244 : Int32).toNatClampNeg = 244 from rfl, m4]
  by_cases q5 : x = 5
  · simp only [q5, if_true, if_false, x2, show ¬ (5 : Int32) = 0 by decide, show ¬ (5 : Int32) = 1 by decide, show ¬ (5 : Int32) = 2 by decide, show ¬ (5 : Int32) = 3 by decide, show ¬ (5 : Int32) = 4 by decide]
    exact ⟨_, σ, σ, rfl, by rw [x3], hLI⟩
  by_cases q6 : x = 6
  · simp only [q6, if_true, if_false, c6, show ¬ (6 : Int32) = 0 by decide, show ¬ (6 : Int32) = 1 by decide, show ¬ (6 : Int32) = 2 by decide, show ¬ (6 : Int32) = 3 by decide, show ¬ (6 : Int32) = 4 by decide, show ¬ (6 : Int32) = 5 by decide]
    refine ⟨_, σ, σ, rfl, ?_, hLI⟩
    rw [fb97, show (97 : Int32).toNatClampNeg = 97 from rfl, m6]
  simp only [q0, q1, q2, q3, q4, q5, q6, if_false]
  exact ⟨_, σ, σ, rfl, rfl, hLI⟩
theorem st_21 : ∀ (σ : fS) (x1 : Int32), LI σ → ∃ (r : Int32) (σ1 σ2 : fS), f_X7_tide x1 σ = some (r, σ1) ∧ f_X8_tide x1 σ1 = some (r, σ2) ∧ LI σ2 := by
  intro σ x hLI
  obtain ⟨⟨P, k, F, hPV, hGV, -⟩, -⟩ := id hLI
  unfold f_X7_tide f_X8_tide
  rcases ix_cases x (n := 49) (by decide) with ⟨i, hi, rfl⟩ | o
  · have hin : (0 : Int32) ≤ nI i ∧ nI i ≤ 48 := (in48 (n := 48) (by decide) 48 rfl).mpr ⟨i, hi, rfl⟩
    have e0 : (0 : Int32) + nI i = nI i := by rw [show (0 : Int32) = nI 0 from rfl, nI_add, Nat.zero_add]
    rw [p_has1 (show σ 12 3 = nI 49 from hPV.2.1) (by decide) rfl hi, fcall_ok, if_neg (by decide), p_atR (show σ 12 3 = nI 49 from hPV.2.1) (by decide) (by decide) (by decide) (by decide) rfl (show (0 : Int32) = nI 0 from rfl) hi (by decide), fcall_ok, show σ (12 + 1) (i * 1 + 0) = P.2.1 i from by rw [show i * 1 + 0 = i by omega]; exact hPV.2.2.2.1 i hi]
    refine ⟨_, σ, σ, rfl, ?_, hLI⟩
    rw [p_in, if_pos hin, fcall_ok, if_neg (by decide), fb_x e0 (by omega) (by decide), cl_x e0 (by omega), hGV.2.1 i hi]
  · have hin : ¬ ((0 : Int32) ≤ x ∧ x ≤ 48) := fun h => by
      obtain ⟨i, hi, rfl⟩ := (in48 (n := 48) (by decide) 48 rfl).mp h
      rcases o with q | q
      · exact nI_pos (by omega) q
      · exact nI_ge hi (by decide) q
    rw [p_has0 (show σ 12 3 = nI 49 from hPV.2.1) o, fcall_ok, if_pos rfl]
    refine ⟨_, σ, σ, rfl, ?_, hLI⟩
    rw [p_in, if_neg hin, fcall_ok, if_pos rfl]
theorem st_22 : ∀ (σ : fS) (x1 : Int32), LI σ → ∃ (r : Int32) (σ1 σ2 : fS), f_X7_wind x1 σ = some (r, σ1) ∧ f_X8_wind x1 σ1 = some (r, σ2) ∧ LI σ2 := by
  intro σ x hLI
  obtain ⟨⟨P, k, F, hPV, hGV, -⟩, -⟩ := id hLI
  unfold f_X7_wind f_X8_wind
  rcases ix_cases x (n := 48) (by decide) with ⟨i, hi, rfl⟩ | o
  · have hin : (0 : Int32) ≤ nI i ∧ nI i ≤ 47 := (in48 (n := 47) (by decide) 47 rfl).mpr ⟨i, hi, rfl⟩
    have e0 : (49 : Int32) + nI i = nI (49 + i) := nI_add 49 i
    rw [p_has1 (show σ 14 3 = nI 48 from hPV.2.2.1) (by decide) rfl hi, fcall_ok, if_neg (by decide), p_atR (show σ 14 3 = nI 48 from hPV.2.2.1) (by decide) (by decide) (by decide) (by decide) rfl (show (0 : Int32) = nI 0 from rfl) hi (by decide), fcall_ok, show σ (14 + 1) (i * 1 + 0) = nI (P.2.2.1 i) from by rw [show i * 1 + 0 = i by omega]; exact hPV.2.2.2.2.1 i hi]
    refine ⟨_, σ, σ, rfl, ?_, hLI⟩
    rw [p_in, if_pos hin, fcall_ok, if_neg (by decide), fb_x e0 (by omega) (by decide), cl_x e0 (by omega), hGV.2.2.1 i hi]
  · have hin : ¬ ((0 : Int32) ≤ x ∧ x ≤ 47) := fun h => by
      obtain ⟨i, hi, rfl⟩ := (in48 (n := 47) (by decide) 47 rfl).mp h
      rcases o with q | q
      · exact nI_pos (by omega) q
      · exact nI_ge hi (by decide) q
    rw [p_has0 (show σ 14 3 = nI 48 from hPV.2.2.1) o, fcall_ok, if_pos rfl]
    refine ⟨_, σ, σ, rfl, ?_, hLI⟩
    rw [p_in, if_neg hin, fcall_ok, if_pos rfl]

/-! ===== setBerth ===== -/
theorem tg_set {T : aT} {i q c : Nat} {row : List Nat} (hi : i < T.length) : tg (T.set i row) q c = if q = i then row.getD c 0 else tg T q c := by
  unfold tg
  by_cases h : q = i
  · subst h
    have e : (T.set q row).getD q [] = row := by simp [List.getD_eq_getElem?_getD, hi]
    rw [e, if_pos rfl]
  · have e : (T.set i row).getD q [] = T.getD q [] := by rw [List.getD_eq_getElem?_getD, List.getD_eq_getElem?_getD, List.getElem?_set_ne (Ne.symm h)]
    rw [e, if_neg h]
/-- one table of the reference's row is another -/
theorem GV.setT {g g' : Nat → Int32} {P : aP} {j : Nat} (hj : j < 5) (h : GV g P) (hz : aSz P) {T : aT} (h0 : g' (cnx j) = nI T.length) (h1 : ∀ i, i < T.length → ∀ c, c < wd j → g' (cnx j + 1 + wd j * i + c) = nI (tg T i c)) (h3 : ∀ k, k < 277 → (k < cnx j ∨ cnx j + 1 + wd j * rmx j ≤ k) → g' k = g k) : GV g' (setT P j T) := by
  obtain ⟨k1, k2, k3, k4⟩ := h
  have hjb : 98 ≤ cnx j := by
    match j, hj with
    | 0, _ => decide
    | 1, _ => decide
    | 2, _ => decide
    | 3, _ => decide
    | 4, _ => decide
  refine ⟨fun q hq => ?_, fun k hk => by rw [h3 k (by omega) (by omega)]; exact k2 k hk, fun k hk => by rw [h3 _ (by omega) (by omega)]; exact k3 k hk, by rw [h3 97 (by decide) (by omega)]; exact k4⟩
  by_cases hqj : q = j
  · subst hqj
    rw [setT_self]
    exact ⟨h0, h1⟩
  · rw [setT_ne hqj]
    have hzq := hz q hq
    have key : ∀ k, cnx q ≤ k → k < cnx q + 1 + wd q * rmx q → k < 277 ∧ (k < cnx j ∨ cnx j + 1 + wd j * rmx j ≤ k) := by
      intro k a b
      match j, hj, q, hq with
      | 0, _, 0, _ => exact absurd rfl hqj
      | 0, _, 1, _ => simp only [cnx, wd, rmx] at *; omega
      | 0, _, 2, _ => simp only [cnx, wd, rmx] at *; omega
      | 0, _, 3, _ => simp only [cnx, wd, rmx] at *; omega
      | 0, _, 4, _ => simp only [cnx, wd, rmx] at *; omega
      | 1, _, 0, _ => simp only [cnx, wd, rmx] at *; omega
      | 1, _, 1, _ => exact absurd rfl hqj
      | 1, _, 2, _ => simp only [cnx, wd, rmx] at *; omega
      | 1, _, 3, _ => simp only [cnx, wd, rmx] at *; omega
      | 1, _, 4, _ => simp only [cnx, wd, rmx] at *; omega
      | 2, _, 0, _ => simp only [cnx, wd, rmx] at *; omega
      | 2, _, 1, _ => simp only [cnx, wd, rmx] at *; omega
      | 2, _, 2, _ => exact absurd rfl hqj
      | 2, _, 3, _ => simp only [cnx, wd, rmx] at *; omega
      | 2, _, 4, _ => simp only [cnx, wd, rmx] at *; omega
      | 3, _, 0, _ => simp only [cnx, wd, rmx] at *; omega
      | 3, _, 1, _ => simp only [cnx, wd, rmx] at *; omega
      | 3, _, 2, _ => simp only [cnx, wd, rmx] at *; omega
      | 3, _, 3, _ => exact absurd rfl hqj
      | 3, _, 4, _ => simp only [cnx, wd, rmx] at *; omega
      | 4, _, 0, _ => simp only [cnx, wd, rmx] at *; omega
      | 4, _, 1, _ => simp only [cnx, wd, rmx] at *; omega
      | 4, _, 2, _ => simp only [cnx, wd, rmx] at *; omega
      | 4, _, 3, _ => simp only [cnx, wd, rmx] at *; omega
      | 4, _, 4, _ => exact absurd rfl hqj
    refine ⟨?_, fun i hi c hc => ?_⟩
    · obtain ⟨a, b⟩ := key (cnx q) (Nat.le_refl _) (by omega)
      rw [h3 _ a b]
      exact (k1 q hq).1
    · have hm : wd q * i + wd q ≤ wd q * rmx q := by
        have := Nat.mul_le_mul_left (wd q) (show i + 1 ≤ rmx q by omega)
        rw [Nat.mul_add] at this
        omega
      obtain ⟨a, b⟩ := key (cnx q + 1 + wd q * i + c) (by omega) (by omega)
      rw [h3 _ a b]
      exact (k1 q hq).2 i hi c hc
theorem aOK.berth {P : aP} (h : aOK P) {i n0 n1 : Nat} (hi : i < (P.1 1).length) (r : n0 ≤ 999 ∧ 1 ≤ n1 ∧ n1 ≤ 2) : aOK (setT P 1 ((P.1 1).set i [n0, n1])) := by
  obtain ⟨hz, h0, h1, h2, h3, h4, h5⟩ := h
  have e0 : (setT P 1 ((P.1 1).set i [n0, n1])).1 0 = P.1 0 := setT_ne (by decide)
  have e1 : (setT P 1 ((P.1 1).set i [n0, n1])).1 1 = (P.1 1).set i [n0, n1] := setT_self _ _ _
  have e2 : (setT P 1 ((P.1 1).set i [n0, n1])).1 2 = P.1 2 := setT_ne (by decide)
  have e3 : (setT P 1 ((P.1 1).set i [n0, n1])).1 3 = P.1 3 := setT_ne (by decide)
  have e4 : (setT P 1 ((P.1 1).set i [n0, n1])).1 4 = P.1 4 := setT_ne (by decide)
  refine ⟨fun j hj => ?_, by rw [e0]; exact h0, ?_, by rw [e2, e0, e1, List.length_set]; exact h2, by rw [e3, e2]; exact h3, by rw [e4, e2]; exact h4, h5⟩
  · by_cases hj1 : j = 1
    · subst hj1
      rw [e1, List.length_set]
      exact hz 1 hj
    · rw [setT_ne hj1]; exact hz j hj
  · rw [e1, List.length_set]
    intro q hq
    simp only [tg_set hi]
    by_cases hqi : q = i
    · simp only [hqi, if_true]; exact r
    · simp only [hqi, if_false]; exact h1 q hq
def bsM (i n0 n1 : Nat) (s : fS) : Option (Int32 × fS) := some ((10 : Int32) * s 165 (116 + 2 * i) + s 165 (116 + 2 * i + 1), fu (fu s 165 (116 + 2 * i) (nI n0)) 165 (116 + 2 * i + 1) (nI n1))
theorem op_setBerth (P : aP) (hok : aOK P) {i n0 n1 : Nat} (hi : i < (P.1 1).length) (a2 : (0 : Int32) ≤ nI n0 ∧ nI n0 ≤ 999) (a3 : (1 : Int32) ≤ nI n1 ∧ nI n1 ≤ 2) (r : n0 ≤ 999 ∧ 1 ≤ n1 ∧ n1 ≤ 2) : Op P (f_X3_changeBerth 1 (nI i) (nI n0) (nI n1)) (bsM i n0 n1) := by
  have z1 : (P.1 1).length ≤ 3 := hok.1 1 (by decide)
  have hb := hok.2.2.1 i hi
  have er : (10 : Int32) * nI (tg (P.1 1) i 0) + nI (tg (P.1 1) i 1) = nI (10 * tg (P.1 1) i 0 + tg (P.1 1) i 1) := by rw [show (10 : Int32) = nI 10 from rfl, nI_mul, nI_add]
  refine ⟨nI (10 * tg (P.1 1) i 0 + tg (P.1 1) i 1), setT P 1 ((P.1 1).set i [n0, n1]), hok.berth hi r, fun h => absurd h (nE (by omega)), fun σ h => ?_, fun σ h => ?_⟩
  · have tv : TV σ 4 2 (P.1 1) := h.1 1 (by decide)
    unfold f_X3_changeBerth f_X3_isBerth
    rw [p_has1 (show σ (1 + 3) 3 = _ from tv.1) (by omega) rfl hi, fcall_ok, if_neg (by decide), p_isOutside, if_pos a2, fcall_ok, if_pos rfl, p_isOutside, if_pos a3, fcall_ok, if_pos rfl, fcall_ok, if_neg (by decide), p_at (t := 1 + 3) (r := 3) (w := 2) tv z1 (by decide) (by decide) rfl (show (0 : Int32) = nI 0 from rfl) hi (by decide), fcall_ok, p_at (t := 1 + 3) (r := 3) (w := 2) tv z1 (by decide) (by decide) rfl (show (1 : Int32) = nI 1 from rfl) hi (by decide), fcall_ok, p_put (t := 1 + 3) tv.1 z1 (by decide) (by decide) (by decide) rfl (show (0 : Int32) = nI 0 from rfl) hi (by decide), fcallv_ok, p_put (t := 1 + 3) (by rw [fu_cell (by decide)]; exact tv.1) z1 (by decide) (by decide) (by decide) rfl (show (1 : Int32) = nI 1 from rfl) hi (by decide), fcallv_ok, er]
    refine ⟨_, rfl, h.set (by decide) ⟨?_, fun q hq c hc => ?_⟩ (fun c a b x y => ?_), fun c hc => ?_⟩
    · show fu (fu σ 5 _ _) 5 _ _ 4 3 = _
      rw [fu_cell (by decide), fu_cell (by decide), List.length_set]
      exact tv.1
    · rw [List.length_set] at hq
      have hc : c < 2 := hc
      show fu (fu σ 5 (i * 2 + 0) (nI n0)) 5 (i * 2 + 1) (nI n1) 5 (q * 2 + c) = _
      rw [tg_set hi]
      by_cases hqi : q = i
      · subst hqi
        rw [if_pos rfl]
        rcases (show c = 0 ∨ c = 1 by omega) with rfl | rfl
        · rw [fu_slot (by omega), fu_self]; rfl
        · rw [fu_self]; rfl
      · rw [if_neg hqi, fu_slot (by omega), fu_slot (by omega)]
        exact tv.2 q hq c hc
    · rw [fu_cell (by omega), fu_cell (by omega)]
    · rw [fu_cell (by omega), fu_cell (by omega)]
  · have gv := h.1 1 (by decide)
    have g0 : σ 165 (116 + 2 * i) = nI (tg (P.1 1) i 0) := gv.2 i hi 0 (by decide)
    have g1 : σ 165 (116 + 2 * i + 1) = nI (tg (P.1 1) i 1) := gv.2 i hi 1 (by decide)
    refine ⟨fu (fu σ 165 (116 + 2 * i) (nI n0)) 165 (116 + 2 * i + 1) (nI n1), by unfold bsM; rw [g0, g1, er], ?_, fun c hc => by rw [fu_cell hc, fu_cell hc]⟩
    refine h.setT (by decide) hok.1 ?_ (fun q hq c hc => ?_) (fun k hk hd => ?_)
    · show fu (fu σ 165 (116 + 2 * i) (nI n0)) 165 (116 + 2 * i + 1) (nI n1) 165 115 = _
      rw [fu_slot (by omega), fu_slot (by omega), List.length_set]
      exact gv.1
    · rw [List.length_set] at hq
      have hc : c < 2 := hc
      show fu (fu σ 165 (116 + 2 * i) (nI n0)) 165 (116 + 2 * i + 1) (nI n1) 165 (115 + 1 + 2 * q + c) = _
      rw [tg_set hi]
      by_cases hqi : q = i
      · subst hqi
        rw [if_pos rfl]
        rcases (show c = 0 ∨ c = 1 by omega) with rfl | rfl
        · rw [fu_slot (by omega)]; exact fu_self _ _ _ _
        · rw [show 115 + 1 + 2 * q + 1 = 116 + 2 * q + 1 by omega, fu_self]; rfl
      · rw [if_neg hqi, fu_slot (by omega), fu_slot (by omega)]
        exact gv.2 q hq c hc
    · have hd : k < 115 ∨ 115 + 1 + 2 * 3 ≤ k := hd
      rw [fu_slot (by omega), fu_slot (by omega)]
theorem p_berthOf {s : fS} {i c : Nat} {x : Int32} (e : x = nI c) (h : 116 + 2 * i + c < 277) : f_X8_berthOf (nI i) x s = some (s 165 (116 + 2 * i + c), s) := by
  have e1 : (116 : Int32) + (2 : Int32) * nI i + x = nI (116 + 2 * i + c) := by rw [e, show (116 : Int32) = nI 116 from rfl, show (2 : Int32) = nI 2 from rfl, nI_mul, nI_add, nI_add]
  unfold f_X8_berthOf
  rw [fb_x e1 h (by decide), cl_x e1 (by omega)]
theorem st_6 : ∀ (σ : fS) (x1 : Int32) (x2 : Int32) (x3 : Int32), LI σ → ∃ (r : Int32) (σ1 σ2 : fS), f_X7_setBerth x1 x2 x3 σ = some (r, σ1) ∧ f_X8_setBerth x1 x2 x3 σ1 = some (r, σ2) ∧ LI σ2 := by
  intro σ x1 x2 x3 hLI
  obtain ⟨⟨P, k, F, hR⟩, hXR⟩ := hLI
  have z1 : (P.1 1).length ≤ 3 := hR.2.2.1.1 1 (by decide)
  have cB : ∀ s, PV 1 s P → s (1 + 3) 3 = nI (P.1 1).length := fun s h => (h.1 1 (by decide)).1
  have mB : ∀ s : fS, GV (s 165) P → s 165 115 = nI (P.1 1).length := fun s h => (h.1 1 (by decide)).1
  rcases ix_cases x1 (n := (P.1 1).length) (by omega) with ⟨i, hi, rfl⟩ | o
  · by_cases a2 : (0 : Int32) ≤ x2 ∧ x2 ≤ 999
    · by_cases a3 : (1 : Int32) ≤ x3 ∧ x3 ≤ 2
      · obtain ⟨n0, rfl, -, u0⟩ := rng_nI (a := 0) (b := 999) rfl rfl (by decide) (by decide) a2
        obtain ⟨n1, rfl, l1, u1⟩ := rng_nI (a := 1) (b := 2) rfl rfl (by decide) (by decide) a3
        obtain ⟨r, s1, s2, e1, e2, h, h138⟩ := op_stepX hR hXR (op_setBerth P hR.2.2.1 hi a2 a3 ⟨u0, l1, u1⟩)
        refine ⟨r, s1, s2, e1, ?_, h⟩
        have m1 : s1 165 115 = nI (P.1 1).length := by rw [h138 165 (by decide)]; exact mB σ hR.2.1
        have i0 : (116 : Int32) + (2 : Int32) * nI i = nI (116 + 2 * i) := by rw [show (116 : Int32) = nI 116 from rfl, show (2 : Int32) = nI 2 from rfl, nI_mul, nI_add]
        have i1 : nI (116 + 2 * i) + (1 : Int32) = nI (116 + 2 * i + 1) := nI_1 _
        rw [← e2]
        unfold f_X8_setBerth
        rw [p_isBerth1 m1 (by omega) rfl hi, fcall_ok, if_neg (by decide), p_in, if_pos a2, fcall_ok, if_neg (by decide), p_in, if_pos a3, fcall_ok, if_neg (by decide)]
        obtain ⟨s4, e4, -, -⟩ := p_remembers s1
        rw [e4, fcallv_ok, fcallv_ok, p_berthOf (show (0 : Int32) = nI 0 from rfl) (by omega), fcall_ok, p_berthOf (show (1 : Int32) = nI 1 from rfl) (by omega), fcall_ok, i0, fb_x rfl (by omega) (by decide), fL_ok, i1, fb_x rfl (by omega) (by decide), fL_ok, nI_clamp (by omega), nI_clamp (by omega)]
        rfl
      · refine op_refuse (fc := f_X3_changeBerth 1 (nI i) x2 x3) (fm := f_X8_setBerth (nI i) x2 x3) hR hXR eE2 (fun s h => ?_) (fun s h => ?_)
        · unfold f_X3_changeBerth f_X3_isBerth
          rw [p_has1 (cB s h) (by omega) rfl hi, fcall_ok, if_neg (by decide), p_isOutside, if_pos a2, fcall_ok, if_pos rfl, p_isOutside, if_neg a3, fcall_ok, if_neg (by decide), fcall_ok, if_pos rfl]
        · unfold f_X8_setBerth
          rw [p_isBerth1 (mB s h) (by omega) rfl hi, fcall_ok, if_neg (by decide), p_in, if_pos a2, fcall_ok, if_neg (by decide), p_in, if_neg a3, fcall_ok, if_pos rfl]
    · refine op_refuse (fc := f_X3_changeBerth 1 (nI i) x2 x3) (fm := f_X8_setBerth (nI i) x2 x3) hR hXR eE2 (fun s h => ?_) (fun s h => ?_)
      · unfold f_X3_changeBerth f_X3_isBerth
        rw [p_has1 (cB s h) (by omega) rfl hi, fcall_ok, if_neg (by decide), p_isOutside, if_neg a2, fcall_ok, if_neg (by decide), fcall_ok, if_pos rfl]
      · unfold f_X8_setBerth
        rw [p_isBerth1 (mB s h) (by omega) rfl hi, fcall_ok, if_neg (by decide), p_in, if_neg a2, fcall_ok, if_pos rfl]
  · refine op_refuse (fc := f_X3_changeBerth 1 x1 x2 x3) (fm := f_X8_setBerth x1 x2 x3) hR hXR eE1 (fun s h => ?_) (fun s h => ?_)
    · unfold f_X3_changeBerth
      rw [p_has0 (cB s h) o, fcall_ok, if_pos rfl]
    · unfold f_X8_setBerth
      rw [p_isBerth0 (mB s h) (by omega) o, fcall_ok, if_pos rfl]

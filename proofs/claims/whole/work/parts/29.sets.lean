/-! ===== setTide, setWind, setMargin, setBerth ===== -/
theorem p_atR {t r w : Nat} {σ : fS} {n : Nat} (hn : σ t 3 = nI n) (hr : n ≤ r) (hrw : r * w < 5000) (hr5 : r < 5000) (hw5 : w < 5000) {x1 x2 : Int32} {i c : Nat} (e1 : x1 = nI i) (e2 : x2 = nI c) (hi : i < n) (hc : c < w) : f_X5_at t r w x1 x2 σ = some (σ (t + 1) (i * w + c), σ) := by
  have hb : i * w + c < r * w := by
    have : (i + 1) * w ≤ r * w := Nat.mul_le_mul_right w (by omega)
    rw [Nat.add_mul] at this
    omega
  have e3 : x1 * Int32.ofNat w + x2 = nI (i * w + c) := by rw [e1, e2, show Int32.ofNat w = nI w from rfl, nI_mul, nI_add]
  unfold f_X5_at
  rw [if_neg (by rw [e1]; exact nI_pos (by omega)), if_neg (by rw [hn, e1]; exact nI_ge hi (by omega)), if_neg (by rw [e2]; exact nI_pos (by omega)), if_pos (by rw [e2]; exact nI_lt hc (by omega)), fb_x e3 hb (by omega), cl_x e3 (by omega)]
theorem nE_small {x : Int32} (h : -999 ≤ x) : ¬ isE x := by
  intro hE
  have h1 : ¬ (-10001 : Int32) < x := hE.2
  rw [Int32.lt_iff_toInt_lt, show (-10001 : Int32).toInt = -10001 from by decide] at h1
  rw [Int32.le_iff_toInt_le, show (-999 : Int32).toInt = -999 from by decide] at h
  omega
theorem in48 {x : Int32} {n : Nat} (hn : n < 2 ^ 31) (hi : Int32) (hhi : hi = nI n) : ((0 : Int32) ≤ x ∧ x ≤ hi) ↔ ∃ i, i < n + 1 ∧ x = nI i := by
  subst hhi
  constructor
  · intro h
    obtain ⟨i, rfl, -, u⟩ := rng_nI (a := 0) (b := n) rfl rfl hn (by decide) h
    exact ⟨i, by omega, rfl⟩
  · rintro ⟨i, h, rfl⟩
    exact ⟨nI_pos' (by omega), nI_le (by omega) hn⟩
def setTi (P : aP) (h : Nat) (v : Int32) : aP := (P.1, fun q => if q = h then v else P.2.1 q, P.2.2)
def setWi (P : aP) (h : Nat) (v : Nat) : aP := (P.1, P.2.1, fun q => if q = h then v else P.2.2.1 q, P.2.2.2)
def setMa (P : aP) (v : Nat) : aP := (P.1, P.2.1, P.2.2.1, v)
theorem PV.tide {σ : fS} {P : aP} {b h : Nat} {v : Int32} (hp : PV b σ P) (hh : h < 49) : PV b (fu σ (b + 12) h v) (setTi P h v) := by
  obtain ⟨h1, h2, h3, h4, h5, h6⟩ := hp
  refine ⟨fun j hj => (h1 j hj).of (by rw [fu_cell (by omega)]) (fu_cell (by omega)), by rw [fu_cell (by omega)]; exact h2, by rw [fu_cell (by omega)]; exact h3, fun q hq => ?_, fun q hq => by rw [fu_cell (by omega)]; exact h5 q hq, by rw [fu_cell (by omega)]; exact h6⟩
  unfold setTi
  by_cases hqh : q = h
  · subst hqh
    rw [fu_self]
    simp
  · rw [fu_slot hqh, h4 q hq]
    simp [hqh]
theorem PV.wind {σ : fS} {P : aP} {b h v : Nat} (hp : PV b σ P) (hh : h < 48) : PV b (fu σ (b + 14) h (nI v)) (setWi P h v) := by
  obtain ⟨h1, h2, h3, h4, h5, h6⟩ := hp
  refine ⟨fun j hj => (h1 j hj).of (by rw [fu_cell (by omega)]) (fu_cell (by omega)), by rw [fu_cell (by omega)]; exact h2, by rw [fu_cell (by omega)]; exact h3, fun q hq => by rw [fu_cell (by omega)]; exact h4 q hq, fun q hq => ?_, by rw [fu_cell (by omega)]; exact h6⟩
  unfold setWi
  by_cases hqh : q = h
  · subst hqh
    rw [fu_self]
    simp
  · rw [fu_slot hqh, h5 q hq]
    simp [hqh]
theorem PV.margin {σ : fS} {P : aP} {b v : Nat} (hp : PV b σ P) : PV b (fu σ b 7 (nI v)) (setMa P v) := by
  obtain ⟨h1, h2, h3, h4, h5, h6⟩ := hp
  exact ⟨fun j hj => (h1 j hj).of (by rw [fu_cell (by omega)]) (fu_cell (by omega)), by rw [fu_cell (by omega)]; exact h2, by rw [fu_cell (by omega)]; exact h3, fun q hq => by rw [fu_cell (by omega)]; exact h4 q hq, fun q hq => by rw [fu_cell (by omega)]; exact h5 q hq, fu_self _ _ _ _⟩
/-- one place of the reference's row below the tables -/
theorem GV.low {g : Nat → Int32} {P : aP} (hg : GV g P) {k : Nat} {v : Int32} {P' : aP} (hk : k < 98) (h0 : P'.1 = P.1) (h1 : ∀ h, h < 49 → (if h = k then v else P.2.1 h) = P'.2.1 h) (h2 : ∀ h, h < 48 → (if 49 + h = k then v else nI (P.2.2.1 h)) = nI (P'.2.2.1 h)) (h3 : (if 97 = k then v else nI P.2.2.2) = nI P'.2.2.2) : GV (upd g k v) P' := by
  obtain ⟨k1, k2, k3, k4⟩ := hg
  refine ⟨fun j hj => ?_, fun h hh => ?_, fun h hh => ?_, ?_⟩
  · have hc : 98 ≤ cnx j := by
      match j, hj with
      | 0, _ => decide
      | 1, _ => decide
      | 2, _ => decide
      | 3, _ => decide
      | 4, _ => decide
    rw [h0]
    refine ⟨by unfold upd; rw [if_neg (by omega)]; exact (k1 j hj).1, fun i hi c hcw => by unfold upd; rw [if_neg (by omega)]; exact (k1 j hj).2 i hi c hcw⟩
  · rw [← h1 h hh]; unfold upd; rw [← k2 h hh]
  · rw [← h2 h hh]; unfold upd; rw [← k3 h hh]
  · rw [← h3]; unfold upd; rw [← k4]
theorem fu_row (σ : fS) (c k : Nat) (v : Int32) : fu σ c k v c = upd (σ c) k v := by simp [fu, va_up]
theorem op_tide (P : aP) (hok : aOK P) (x1 x2 : Int32) : Op P (f_X3_changeTide 1 x1 x2) (f_X8_setsTide x1 x2) := by
  have ht : ∀ σ, PV 1 σ P → σ 12 3 = nI 49 := fun σ h => h.2.1
  rcases ix_cases x1 (n := 49) (by decide) with ⟨i, hi, rfl⟩ | o
  · have hin : (0 : Int32) ≤ nI i ∧ nI i ≤ 48 := (in48 (n := 48) (by decide) 48 rfl).mpr ⟨i, hi, rfl⟩
    by_cases a2 : (-999 : Int32) ≤ x2 ∧ x2 ≤ 999
    · have hok' : aOK (setTi P i x2) := by
        obtain ⟨b1, b2, b3, b4, b5, b6, b7, b8⟩ := hok
        refine ⟨b1, b2, b3, b4, b5, b6, fun h hh => ?_, b8⟩
        unfold setTi
        by_cases hhi : h = i
        · simp only [hhi, if_true]; exact a2
        · simp only [hhi, if_false]; exact b7 h hh
      refine ⟨P.2.1 i, setTi P i x2, hok', fun h => absurd h (nE_small (hok.2.2.2.2.2.2.1 i hi).1), fun σ h => ?_, fun σ h => ?_⟩
      · unfold f_X3_changeTide
        rw [p_has1 (ht σ h) (by decide) rfl hi, fcall_ok, if_neg (by decide), p_isOutside, if_pos a2, fcall_ok, if_pos rfl, p_atR (ht σ h) (by decide) (by decide) (by decide) (by decide) rfl (show (0 : Int32) = nI 0 from rfl) hi (by decide), fcall_ok, p_put (ht σ h) (by decide) (by decide) (by decide) (by decide) rfl (show (0 : Int32) = nI 0 from rfl) hi (by decide), fcallv_ok]
        refine ⟨_, by rw [show i * 1 + 0 = i by omega, show σ (1 + 11 + 1) i = P.2.1 i from h.2.2.2.1 i hi], ?_, fun c hc => fu_cell (by omega)⟩
        exact h.tide hi
      · have e0 : (0 : Int32) + nI i = nI i := by rw [show (0 : Int32) = nI 0 from rfl, nI_add, Nat.zero_add]
        unfold f_X8_setsTide
        rw [p_in, if_pos hin, fcall_ok, if_neg (by decide), p_in, if_pos a2, fcall_ok, if_neg (by decide), fb_x e0 (by omega) (by decide), fb_x e0 (by omega) (by decide), fL_ok, cl_x e0 (by omega)]
        refine ⟨_, by rw [h.2.1 i hi], ?_, fun c hc => fu_cell hc⟩
        rw [fu_row]
        refine h.low (by omega) rfl (fun q hq => ?_) (fun q hq => ?_) ?_
        · rfl
        · rw [if_neg (by omega)]; rfl
        · rw [if_neg (by omega)]; rfl
    · refine Op.no hok eE2 (fun σ h => ?_) (fun σ h => ?_)
      · unfold f_X3_changeTide
        rw [p_has1 (ht σ h) (by decide) rfl hi, fcall_ok, if_neg (by decide), p_isOutside, if_neg a2, fcall_ok, if_neg (by decide)]
      · unfold f_X8_setsTide
        rw [p_in, if_pos hin, fcall_ok, if_neg (by decide), p_in, if_neg a2, fcall_ok, if_pos rfl]
  · have hin : ¬ ((0 : Int32) ≤ x1 ∧ x1 ≤ 48) := fun h => by
      obtain ⟨i, hi, rfl⟩ := (in48 (n := 48) (by decide) 48 rfl).mp h
      rcases o with q | q
      · exact nI_pos (by omega) q
      · exact nI_ge hi (by decide) q
    refine Op.no hok eE1 (fun σ h => ?_) (fun σ h => ?_)
    · unfold f_X3_changeTide
      rw [p_has0 (ht σ h) o, fcall_ok, if_pos rfl]
    · unfold f_X8_setsTide
      rw [p_in, if_neg hin, fcall_ok, if_pos rfl]
theorem op_wind (P : aP) (hok : aOK P) (x1 x2 : Int32) : Op P (f_X3_changeWind 1 x1 x2) (f_X8_setsWind x1 x2) := by
  have ht : ∀ σ, PV 1 σ P → σ 14 3 = nI 48 := fun σ h => h.2.2.1
  rcases ix_cases x1 (n := 48) (by decide) with ⟨i, hi, rfl⟩ | o
  · have hin : (0 : Int32) ≤ nI i ∧ nI i ≤ 47 := (in48 (n := 47) (by decide) 47 rfl).mpr ⟨i, hi, rfl⟩
    by_cases a2 : (0 : Int32) ≤ x2 ∧ x2 ≤ 99
    · obtain ⟨n2, rfl, -, u2⟩ := rng_nI (a := 0) (b := 99) rfl rfl (by decide) (by decide) a2
      have hok' : aOK (setWi P i n2) := by
        obtain ⟨b1, b2, b3, b4, b5, b6, b7, b8, b9⟩ := hok
        refine ⟨b1, b2, b3, b4, b5, b6, b7, fun h hh => ?_, b9⟩
        unfold setWi
        by_cases hhi : h = i
        · simp only [hhi, if_true]; exact u2
        · simp only [hhi, if_false]; exact b8 h hh
      have hw := hok.2.2.2.2.2.2.2.1 i hi
      refine ⟨nI (P.2.2.1 i), setWi P i n2, hok', fun h => absurd h (nE (by omega)), fun σ h => ?_, fun σ h => ?_⟩
      · unfold f_X3_changeWind
        rw [p_has1 (ht σ h) (by decide) rfl hi, fcall_ok, if_neg (by decide), p_isOutside, if_pos a2, fcall_ok, if_pos rfl, p_atR (ht σ h) (by decide) (by decide) (by decide) (by decide) rfl (show (0 : Int32) = nI 0 from rfl) hi (by decide), fcall_ok, p_put (ht σ h) (by decide) (by decide) (by decide) (by decide) rfl (show (0 : Int32) = nI 0 from rfl) hi (by decide), fcallv_ok]
        refine ⟨_, by rw [show i * 1 + 0 = i by omega, show σ (1 + 13 + 1) i = nI (P.2.2.1 i) from h.2.2.2.2.1 i hi], ?_, fun c hc => fu_cell (by omega)⟩
        exact h.wind hi
      · have e0 : (49 : Int32) + nI i = nI (49 + i) := nI_add 49 i
        unfold f_X8_setsWind
        rw [p_in, if_pos hin, fcall_ok, if_neg (by decide), p_in, if_pos a2, fcall_ok, if_neg (by decide), fb_x e0 (by omega) (by decide), fb_x e0 (by omega) (by decide), fL_ok, cl_x e0 (by omega)]
        refine ⟨_, by rw [h.2.2.1 i hi], ?_, fun c hc => fu_cell hc⟩
        rw [fu_row]
        refine h.low (by omega) rfl (fun q hq => ?_) (fun q hq => ?_) ?_
        · rw [if_neg (by omega)]; rfl
        · unfold setWi
          by_cases hqi : q = i
          · subst hqi; rw [if_pos rfl]; simp
          · rw [if_neg (by omega)]; simp [hqi]
        · rw [if_neg (by omega)]; rfl
    · refine Op.no hok eE2 (fun σ h => ?_) (fun σ h => ?_)
      · unfold f_X3_changeWind
        rw [p_has1 (ht σ h) (by decide) rfl hi, fcall_ok, if_neg (by decide), p_isOutside, if_neg a2, fcall_ok, if_neg (by decide)]
      · unfold f_X8_setsWind
        rw [p_in, if_pos hin, fcall_ok, if_neg (by decide), p_in, if_neg a2, fcall_ok, if_pos rfl]
  · have hin : ¬ ((0 : Int32) ≤ x1 ∧ x1 ≤ 47) := fun h => by
      obtain ⟨i, hi, rfl⟩ := (in48 (n := 47) (by decide) 47 rfl).mp h
      rcases o with q | q
      · exact nI_pos (by omega) q
      · exact nI_ge hi (by decide) q
    refine Op.no hok eE1 (fun σ h => ?_) (fun σ h => ?_)
    · unfold f_X3_changeWind
      rw [p_has0 (ht σ h) o, fcall_ok, if_pos rfl]
    · unfold f_X8_setsWind
      rw [p_in, if_neg hin, fcall_ok, if_pos rfl]
theorem st_7 : ∀ (σ : fS) (x1 : Int32) (x2 : Int32), LI σ → ∃ (r : Int32) (σ1 σ2 : fS), f_X7_setTide x1 x2 σ = some (r, σ1) ∧ f_X8_setTide x1 x2 σ1 = some (r, σ2) ∧ LI σ2 := fun _ x1 x2 h => op_step (fun P hP => op_tide P hP x1 x2) h
theorem st_8 : ∀ (σ : fS) (x1 : Int32) (x2 : Int32), LI σ → ∃ (r : Int32) (σ1 σ2 : fS), f_X7_setWind x1 x2 σ = some (r, σ1) ∧ f_X8_setWind x1 x2 σ1 = some (r, σ2) ∧ LI σ2 := fun _ x1 x2 h => op_step (fun P hP => op_wind P hP x1 x2) h
def mgC (n : Nat) (s : fS) : Option (Int32 × fS) := some (s 1 7, fu s 1 7 (nI n))
def mgM (n : Nat) (s : fS) : Option (Int32 × fS) := some (s 165 97, fu s 165 97 (nI n))
theorem op_margin (P : aP) (hok : aOK P) {n : Nat} (hn : n ≤ 200) : Op P (mgC n) (mgM n) := by
  have hok' : aOK (setMa P n) := by
    obtain ⟨b1, b2, b3, b4, b5, b6, b7, b8, b9⟩ := hok
    exact ⟨b1, b2, b3, b4, b5, b6, b7, b8, hn⟩
  refine ⟨nI P.2.2.2, setMa P n, hok', fun h => absurd h (nE (by have := hok.2.2.2.2.2.2.2.2; omega)), fun σ h => ⟨fu σ 1 7 (nI n), by unfold mgC; rw [h.2.2.2.2.2], h.margin, fun c hc => fu_cell (by omega)⟩, fun σ h => ⟨fu σ 165 97 (nI n), by unfold mgM; rw [h.2.2.2], ?_, fun c hc => fu_cell hc⟩⟩
  rw [fu_row]
  exact h.low (by decide) rfl (fun q hq => by rw [if_neg (by omega)]; rfl) (fun q hq => by rw [if_neg (by omega)]; rfl) (by rw [if_pos rfl]; rfl)
theorem fb97 {α : Type} (k : Option α) : fb (97 : Int32) 277 k = k := fb_x (show (97 : Int32) = nI 97 from rfl) (by decide) (by decide) k
theorem st_9 : ∀ (σ : fS) (x1 : Int32), LI σ → ∃ (r : Int32) (σ1 σ2 : fS), f_X7_setMargin x1 σ = some (r, σ1) ∧ f_X8_setMargin x1 σ1 = some (r, σ2) ∧ LI σ2 := by
  intro σ x1 hLI
  obtain ⟨⟨P, k, F, hR⟩, hXR⟩ := hLI
  by_cases a1 : (0 : Int32) ≤ x1 ∧ x1 ≤ 200
  · obtain ⟨n, rfl, -, u⟩ := rng_nI (a := 0) (b := 200) rfl rfl (by decide) (by decide) a1
    obtain ⟨r, s1, s2, e1, e2, h⟩ := op_stepP hR hXR (op_margin P hR.2.2.1 u)
    have hC : f_X3_changeMargin 1 (nI n) = mgC n := by
      funext s
      unfold f_X3_changeMargin
      rw [p_isOutside, if_pos a1, fcall_ok, if_pos rfl]
      rfl
    refine ⟨r, s1, s2, ?_, ?_, h⟩
    · rw [← e1, ← hC]
      rfl
    · rw [← e2]
      unfold f_X8_setMargin mgM
      rw [p_in, if_pos a1, fcall_ok, if_neg (by decide)]
      simp only [fb97, fL_ok, fcall_ok, show (97 : Int32).toNatClampNeg = 97 from rfl]
  · refine op_refuse (fc := f_X3_changeMargin 1 x1) (fm := f_X8_setMargin x1) hR hXR eE2 (fun s h => ?_) (fun s h => ?_)
    · unfold f_X3_changeMargin
      rw [p_isOutside, if_neg a1, fcall_ok, if_neg (by decide)]
    · unfold f_X8_setMargin
      rw [p_in, if_neg a1, fcall_ok, if_pos rfl]

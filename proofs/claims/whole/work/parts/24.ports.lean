/-! ===== what is in a port, and how it grows ===== -/
def setT (P : aP) (j : Nat) (T : aT) : aP := (fun q => if q = j then T else P.1 q, P.2)
theorem setT_self (P : aP) (j : Nat) (T : aT) : (setT P j T).1 j = T := by simp [setT]
theorem setT_ne {P : aP} {j q : Nat} {T : aT} (h : q ≠ j) : (setT P j T).1 q = P.1 q := by simp [setT, h]
/-- what every reachable port keeps -/
def aOK (P : aP) : Prop := aSz P ∧
  (∀ i, i < (P.1 0).length → 50 ≤ tg (P.1 0) i 0 ∧ tg (P.1 0) i 0 ≤ 900 ∧ 1 ≤ tg (P.1 0) i 1 ∧ tg (P.1 0) i 1 ≤ 4 ∧ 10 ≤ tg (P.1 0) i 2 ∧ tg (P.1 0) i 2 ≤ 200 ∧ tg (P.1 0) i 3 ≤ 99) ∧
  (∀ i, i < (P.1 1).length → tg (P.1 1) i 0 ≤ 999 ∧ 1 ≤ tg (P.1 1) i 1 ∧ tg (P.1 1) i 1 ≤ 2) ∧
  (∀ i, i < (P.1 2).length → tg (P.1 2) i 0 < (P.1 0).length ∧ tg (P.1 2) i 1 < (P.1 1).length ∧ tg (P.1 2) i 2 < tg (P.1 2) i 3 ∧ tg (P.1 2) i 3 ≤ tg (P.1 2) i 2 + 300 ∧ tg (P.1 2) i 3 ≤ 2800) ∧
  (∀ i, i < (P.1 3).length → tg (P.1 3) i 0 < (P.1 2).length ∧ 3 ≤ tg (P.1 3) i 1 ∧ tg (P.1 3) i 1 ≤ 30 ∧ tg (P.1 3) i 2 ≤ 5) ∧
  (∀ i, i < (P.1 4).length → tg (P.1 4) i 0 < (P.1 2).length ∧ tg (P.1 4) i 1 ≤ 2800 ∧ tg (P.1 4) i 2 ≤ 60 ∧ 1 ≤ tg (P.1 4) i 3 ∧ tg (P.1 4) i 3 ≤ 999) ∧
  (∀ h, h < 49 → -999 ≤ P.2.1 h ∧ P.2.1 h ≤ 999) ∧ (∀ h, h < 48 → P.2.2.1 h ≤ 99) ∧ P.2.2.2 ≤ 200
theorem tg_push {T : aT} {row : List Nat} {i c : Nat} (h : i < T.length) : tg (T ++ [row]) i c = tg T i c := by
  unfold tg
  have e : (T ++ [row]).getD i [] = T.getD i [] := by rw [List.getD_eq_getElem?_getD, List.getD_eq_getElem?_getD, List.getElem?_append_left h]
  rw [e]
theorem tg_last {T : aT} {row : List Nat} {c : Nat} : tg (T ++ [row]) T.length c = row.getD c 0 := by
  unfold tg
  have e : (T ++ [row]).getD T.length [] = row := by simp [List.getD_eq_getElem?_getD]
  rw [e]
theorem p_in {x lo hi : Int32} {σ : fS} : f_X8_in x lo hi σ = some (if lo ≤ x ∧ x ≤ hi then 1 else 0, σ) := by
  unfold f_X8_in
  by_cases h : x < lo
  · rw [if_pos h, if_neg (by rintro ⟨a, -⟩; exact absurd h (Int32.not_lt.mpr a))]
  · rw [if_neg h]
    by_cases h2 : hi < x
    · rw [if_pos h2, if_neg (by rintro ⟨-, a⟩; exact absurd h2 (Int32.not_lt.mpr a))]
    · rw [if_neg h2, if_pos ⟨Int32.not_lt.mp h, Int32.not_lt.mp h2⟩]
theorem p_isOutside {x lo hi : Int32} {σ : fS} : f_X7_isOutside x lo hi σ = some (if lo ≤ x ∧ x ≤ hi then 0 else 1, σ) := by
  unfold f_X7_isOutside
  by_cases h : x < lo
  · rw [if_pos h, if_neg (by rintro ⟨a, -⟩; exact absurd h (Int32.not_lt.mpr a))]
  · rw [if_neg h]
    by_cases h2 : x ≤ hi
    · rw [if_pos h2, if_pos ⟨Int32.not_lt.mp h, h2⟩]
    · rw [if_neg h2, if_neg (fun a => h2 a.2)]
/-- a value between two numbers is a number -/
theorem rng_nI {x lo hi : Int32} {a b : Nat} (hlo : lo = nI a) (hhi : hi = nI b) (hb : b < 2 ^ 31) (ha : a < 2 ^ 31) (h : lo ≤ x ∧ x ≤ hi) : ∃ n, x = nI n ∧ a ≤ n ∧ n ≤ b := by
  subst hlo
  subst hhi
  have h0 : ¬ x < 0 := fun hx => by
    have h1 := Int32.lt_iff_toInt_lt.mp hx
    have h2 := Int32.le_iff_toInt_le.mp h.1
    rw [nI_toInt ha] at h2
    rw [show (0 : Int32).toInt = 0 from rfl] at h1
    omega
  obtain ⟨n, hn, rfl⟩ := nI_of h0
  exact ⟨n, rfl, (nI_leI ha hn).mp h.1, (nI_leI hn hb).mp h.2⟩
theorem p_put {t r w : Nat} {σ : fS} {n : Nat} (hn : σ t 3 = nI n) (hr : n ≤ r) (hrw : r * w < 5000) (hr5 : r < 5000) (hw5 : w < 5000) {x1 x2 v : Int32} {i c : Nat} (e1 : x1 = nI i) (e2 : x2 = nI c) (hi : i < n) (hc : c < w) : f_X5_put t r w x1 x2 v σ = some (fu σ (t + 1) (i * w + c) v) := by
  have hb : i * w + c < r * w := by
    have : (i + 1) * w ≤ r * w := Nat.mul_le_mul_right w (by omega)
    rw [Nat.add_mul] at this
    omega
  have e3 : x1 * Int32.ofNat w + x2 = nI (i * w + c) := by rw [e1, e2, show Int32.ofNat w = nI w from rfl, nI_mul, nI_add]
  unfold f_X5_put
  rw [if_neg (by rw [e1]; exact nI_pos (by omega)), if_neg (by rw [hn, e1]; exact nI_ge hi (by omega)), if_neg (by rw [e2]; exact nI_pos (by omega)), if_pos (by rw [e2]; exact nI_lt hc (by omega)), fb_x e3 hb (by omega), cl_x e3 (by omega), fL_ok]
theorem p_putout {t r w : Nat} {σ : fS} {x1 x2 v : Int32} {c : Nat} (e2 : x2 = nI c) (hc : w ≤ c) (hc2 : c < 5000) : f_X5_put t r w x1 x2 v σ = some σ := by
  unfold f_X5_put
  split
  · rfl
  · split
    · rfl
    · split
      · rfl
      · rw [if_neg (by rw [e2]; exact nI_nlt hc (by omega))]
/-- four values into a row of width w; those beyond it are left out -/
theorem p_put4 {t r w : Nat} {σ : fS} {n : Nat} (hn : σ t 3 = nI n) (hr : n ≤ r) (hrw : r * w < 5000) (hr5 : r < 5000) (hw : 1 ≤ w ∧ w ≤ 4) {x : Int32} {i : Nat} (e1 : x = nI i) (hi : i < n) (v1 v2 v3 v4 : Int32) : ∃ σ', fcallv (f_X5_put t r w x 0 v1 σ) (fun s1 => fcallv (f_X5_put t r w x 1 v2 s1) (fun s2 => fcallv (f_X5_put t r w x 2 v3 s2) (fun s3 => f_X5_put t r w x 3 v4 s3))) = some σ' ∧ (∀ c, c ≠ t + 1 → σ' c = σ c) ∧ (∀ c, c < w → σ' (t + 1) (i * w + c) = (if c = 0 then v1 else if c = 1 then v2 else if c = 2 then v3 else v4)) ∧ ∀ k, (k < i * w ∨ i * w + w ≤ k) → σ' (t + 1) k = σ (t + 1) k := by
  have cell : ∀ (s : fS) k v, fu s (t + 1) k v t 3 = s t 3 := fun s k v => by rw [fu_cell (by omega)]
  rw [p_put hn hr hrw hr5 (by omega) e1 (show (0 : Int32) = nI 0 from rfl) hi (by omega), fcallv_ok]
  by_cases h1 : 1 < w
  · rw [p_put (by rw [cell]; exact hn) hr hrw hr5 (by omega) e1 (show (1 : Int32) = nI 1 from rfl) hi h1, fcallv_ok]
    by_cases h2 : 2 < w
    · rw [p_put (by rw [cell, cell]; exact hn) hr hrw hr5 (by omega) e1 (show (2 : Int32) = nI 2 from rfl) hi h2, fcallv_ok]
      by_cases h3 : 3 < w
      · rw [p_put (by rw [cell, cell, cell]; exact hn) hr hrw hr5 (by omega) e1 (show (3 : Int32) = nI 3 from rfl) hi h3]
        refine ⟨_, rfl, fun c hc => by rw [fu_cell hc, fu_cell hc, fu_cell hc, fu_cell hc], fun c hc => ?_, fun k hk => by rw [fu_slot (by omega), fu_slot (by omega), fu_slot (by omega), fu_slot (by omega)]⟩
        rcases (show c = 0 ∨ c = 1 ∨ c = 2 ∨ c = 3 by omega) with rfl | rfl | rfl | rfl
        · rw [fu_slot (by omega), fu_slot (by omega), fu_slot (by omega), fu_self]; rfl
        · rw [fu_slot (by omega), fu_slot (by omega), fu_self]; rfl
        · rw [fu_slot (by omega), fu_self]; rfl
        · rw [fu_self]; rfl
      · rw [p_putout (show (3 : Int32) = nI 3 from rfl) (by omega) (by decide)]
        refine ⟨_, rfl, fun c hc => by rw [fu_cell hc, fu_cell hc, fu_cell hc], fun c hc => ?_, fun k hk => by rw [fu_slot (by omega), fu_slot (by omega), fu_slot (by omega)]⟩
        rcases (show c = 0 ∨ c = 1 ∨ c = 2 by omega) with rfl | rfl | rfl
        · rw [fu_slot (by omega), fu_slot (by omega), fu_self]; rfl
        · rw [fu_slot (by omega), fu_self]; rfl
        · rw [fu_self]; rfl
    · rw [p_putout (show (2 : Int32) = nI 2 from rfl) (by omega) (by decide), fcallv_ok, p_putout (show (3 : Int32) = nI 3 from rfl) (by omega) (by decide)]
      refine ⟨_, rfl, fun c hc => by rw [fu_cell hc, fu_cell hc], fun c hc => ?_, fun k hk => by rw [fu_slot (by omega), fu_slot (by omega)]⟩
      rcases (show c = 0 ∨ c = 1 by omega) with rfl | rfl
      · rw [fu_slot (by omega), fu_self]; rfl
      · rw [fu_self]; rfl
  · rw [p_putout (show (1 : Int32) = nI 1 from rfl) (by omega) (by decide), fcallv_ok, p_putout (show (2 : Int32) = nI 2 from rfl) (by omega) (by decide), fcallv_ok, p_putout (show (3 : Int32) = nI 3 from rfl) (by omega) (by decide)]
    refine ⟨_, rfl, fun c hc => by rw [fu_cell hc], fun c hc => ?_, fun k hk => by rw [fu_slot (by omega)]⟩
    rcases (show c = 0 by omega) with rfl
    rw [fu_self]; rfl
theorem p_addRow {t r w : Nat} {σ : fS} {T : aT} (h : TV σ t w T) (hr : T.length ≤ r) (hrw : r * w < 5000) (hr5 : r < 5000) (hw : 1 ≤ w ∧ w ≤ 4) (n1 n2 n3 n4 : Nat) : (T.length = r → f_X5_addRow t r w (nI n1) (nI n2) (nI n3) (nI n4) σ = some (-10003, σ)) ∧ (T.length < r → ∃ σ', f_X5_addRow t r w (nI n1) (nI n2) (nI n3) (nI n4) σ = some (nI T.length, σ') ∧ (∀ c, c ≠ t → c ≠ t + 1 → σ' c = σ c) ∧ (∀ k, k ≠ 3 → σ' t k = σ t k) ∧ TV σ' t w (T ++ [[n1, n2, n3, n4]])) := by
  unfold f_X5_addRow f_X5_isFull
  refine ⟨fun hf => ?_, fun hf => ?_⟩
  · rw [if_neg (by rw [h.1, hf]; exact nI_nlt (Nat.le_refl _) (by omega)), fcall_ok, if_neg (by decide)]
  · rw [if_pos (by rw [h.1]; exact nI_lt hf (by omega)), fcall_ok, if_pos rfl, fL_ok, h.1, nI_1]
    obtain ⟨s, e, h1, h2, h3⟩ := p_put4 (t := t) (r := r) (w := w) (σ := fu σ t 3 (nI (T.length + 1))) (n := T.length + 1) (fu_self _ _ _ _) hf hrw hr5 hw (x := nI T.length) (i := T.length) rfl (by omega) (nI n1) (nI n2) (nI n3) (nI n4)
    have e2 : fcallv (f_X5_put t r w (nI T.length) 0 (nI n1) (fu σ t 3 (nI (T.length + 1)))) (fun σ3 => fcallv (f_X5_put t r w (nI T.length) 1 (nI n2) σ3) fun σ4 => fcallv (f_X5_put t r w (nI T.length) 2 (nI n3) σ4) fun σ5 => fcallv (f_X5_put t r w (nI T.length) 3 (nI n4) σ5) fun σ6 => some (nI T.length, σ6)) = some (nI T.length, s) := by
      obtain ⟨a1, b1, c1⟩ := fcallv_some e
      obtain ⟨a2, b2, c2⟩ := fcallv_some c1
      obtain ⟨a3, b3, c3⟩ := fcallv_some c2
      rw [b1, fcallv_ok, b2, fcallv_ok, b3, fcallv_ok, c3, fcallv_ok]
    rw [e2]
    refine ⟨s, rfl, fun c a b => by rw [h1 c b, fu_cell a], fun k hk => by rw [h1 t (by omega), fu_slot hk], ?_, fun i hi c hc => ?_⟩
    · rw [h1 t (by omega), fu_self, List.length_append]
      rfl
    · rw [List.length_append] at hi
      have hi : i < T.length + 1 := hi
      by_cases hil : i < T.length
      · rw [tg_push hil, h3 _ (by
          left
          have : (i + 1) * w ≤ T.length * w := Nat.mul_le_mul_right w hil
          rw [Nat.add_mul] at this
          omega), fu_cell (by omega)]
        exact h.2 i hil c hc
      · have : i = T.length := by omega
        subst this
        rw [tg_last, h2 c hc]
        rcases (show c = 0 ∨ c = 1 ∨ c = 2 ∨ c = 3 by omega) with rfl | rfl | rfl | rfl <;> rfl
/-- one table of a port of the class is another -/
theorem PV.set {b : Nat} {σ σ' : fS} {P : aP} {j : Nat} {T : aT} (hj : j < 5) (h : PV b σ P) (hT : TV σ' (b + 1 + 2 * j) (wd j) T) (hs : ∀ c, b ≤ c → c < b + 15 → c ≠ b + 1 + 2 * j → c ≠ b + 2 + 2 * j → σ' c = σ c) : PV b σ' (setT P j T) := by
  obtain ⟨h1, h2, h3, h4, h5, h6⟩ := h
  refine ⟨fun q hq => ?_, by rw [hs _ (by omega) (by omega) (by omega) (by omega)]; exact h2, by rw [hs _ (by omega) (by omega) (by omega) (by omega)]; exact h3, fun k hk => by rw [hs _ (by omega) (by omega) (by omega) (by omega)]; exact h4 k hk, fun k hk => by rw [hs _ (by omega) (by omega) (by omega) (by omega)]; exact h5 k hk, by rw [hs _ (by omega) (by omega) (by omega) (by omega)]; exact h6⟩
  by_cases hqj : q = j
  · subst hqj
    rw [setT_self]
    exact hT
  · rw [setT_ne hqj]
    exact (h1 q hq).of (by rw [hs _ (by omega) (by omega) (by omega) (by omega)]) (hs _ (by omega) (by omega) (by omega) (by omega))

/-! ===== the pure side: words ===== -/
theorem fcall_ok {α β : Type} (a : α) (s : fS) (k : α → fS → Option β) : fcall (some (a, s)) k = k a s := rfl
theorem fcallv_ok {β : Type} (s : fS) (k : fS → Option β) : fcallv (some s) k = k s := rfl
theorem fL_ok {α β : Type} (a : α) (k : α → β) : fL a k = k a := rfl
theorem fb_ok {α : Type} {i : Int32} {n : Nat} (h : vp_in i n) (k : Option α) : fb i n k = k := if_neg h
theorem fb_x {α : Type} {x : Int32} {i n : Nat} (hx : x = nI i) (h : i < n) (hn : n < 2 ^ 31) (k : Option α) : fb x n k = k := by
  rw [hx]
  exact fb_ok (vp_in_nI h hn) k
theorem fg_ok {α : Type} {c : Prop} [Decidable c] (h : c) (k : Option α) : fg c k = k := if_pos h
theorem cl_x {x : Int32} {i : Nat} (hx : x = nI i) (h : i < 2 ^ 31) : x.toNatClampNeg = i := by rw [hx, nI_clamp h]
theorem nI_mul (a b : Nat) : nI a * nI b = nI (a * b) := (Int32.ofNat_mul a b).symm
theorem nI_inj {a b : Nat} (ha : a < 2 ^ 31) (hb : b < 2 ^ 31) (h : nI a = nI b) : a = b := (nI_eq ha hb).mp h
theorem fu_self (σ : fS) (c k : Nat) (v : Int32) : fu σ c k v c k = v := by simp [fu, va_up, upd]
theorem fu_cell {σ : fS} {c k a : Nat} {v : Int32} (h : a ≠ c) : fu σ c k v a = σ a := by simp [fu, va_up, h]
theorem fu_slot {σ : fS} {c k a b : Nat} {v : Int32} (h : b ≠ k) : fu σ c k v a b = σ a b := by
  by_cases ha : a = c
  · subst ha
    simp [fu, va_up, upd, h]
  · rw [fu_cell ha]
theorem fu_at (σ : fS) (c k a b : Nat) (v : Int32) : fu σ c k v a b = if a = c ∧ b = k then v else σ a b := by
  by_cases h : a = c ∧ b = k
  · obtain ⟨rfl, rfl⟩ := h
    rw [fu_self, if_pos ⟨rfl, rfl⟩]
  · rw [if_neg h]
    by_cases ha : a = c
    · exact fu_slot (fun hb => h ⟨ha, hb⟩)
    · rw [fu_cell ha]
/-- an index: inside, as a number, or outside -/
theorem ix_cases (x : Int32) {n : Nat} (hn : n < 2 ^ 31) : (∃ i, i < n ∧ x = nI i) ∨ (x < 0 ∨ nI n ≤ x) := by
  by_cases h : x < 0
  · exact Or.inr (Or.inl h)
  · obtain ⟨j, hj, rfl⟩ := nI_of h
    rcases Nat.lt_or_ge j n with q | q
    · exact Or.inl ⟨j, q, rfl⟩
    · exact Or.inr (Or.inr (nI_le q hj))
/-! ===== the abstract port ===== -/
abbrev aT : Type := List (List Nat)
abbrev aP : Type := (Nat → aT) × (Nat → Int32) × (Nat → Nat) × Nat
def tg (T : aT) (i c : Nat) : Nat := (T.getD i []).getD c 0
def wd (j : Nat) : Nat := match j with
  | 0 => 4
  | 1 => 2
  | 2 => 4
  | 3 => 3
  | _ => 4
def rmx (j : Nat) : Nat := match j with
  | 0 => 4
  | 1 => 3
  | 2 => 12
  | 3 => 24
  | _ => 8
def cnx (j : Nat) : Nat := match j with
  | 0 => 98
  | 1 => 115
  | 2 => 122
  | 3 => 171
  | _ => 244
/-- a table of the class -/
def TV (σ : fS) (t w : Nat) (T : aT) : Prop := σ t 3 = nI T.length ∧ ∀ i, i < T.length → ∀ c, c < w → σ (t + 1) (i * w + c) = nI (tg T i c)
/-- a port of the class at its base -/
def PV (b : Nat) (σ : fS) (P : aP) : Prop := (∀ j, j < 5 → TV σ (b + 1 + 2 * j) (wd j) (P.1 j)) ∧ σ (b + 11) 3 = nI 49 ∧ σ (b + 13) 3 = nI 48 ∧ (∀ h, h < 49 → σ (b + 12) h = P.2.1 h) ∧ (∀ h, h < 48 → σ (b + 14) h = nI (P.2.2.1 h)) ∧ σ b 7 = nI P.2.2.2
/-- a row of the reference that holds a port -/
def GV (g : Nat → Int32) (P : aP) : Prop := (∀ j, j < 5 → g (cnx j) = nI (P.1 j).length ∧ ∀ i, i < (P.1 j).length → ∀ c, c < wd j → g (cnx j + 1 + wd j * i + c) = nI (tg (P.1 j) i c)) ∧ (∀ h, h < 49 → g h = P.2.1 h) ∧ (∀ h, h < 48 → g (49 + h) = nI (P.2.2.1 h)) ∧ g 97 = nI P.2.2.2
/-- sizes -/
def aSz (P : aP) : Prop := ∀ j, j < 5 → (P.1 j).length ≤ rmx j
theorem TV.of {σ σ' : fS} {t w : Nat} {T : aT} (h : TV σ t w T) (h1 : σ' t 3 = σ t 3) (h2 : σ' (t + 1) = σ (t + 1)) : TV σ' t w T := ⟨h1.trans h.1, fun i hi c hc => by rw [h2]; exact h.2 i hi c hc⟩
theorem PV.of {b : Nat} {σ σ' : fS} {P : aP} (h : PV b σ P) (hs : ∀ c, b ≤ c → c < b + 15 → σ' c = σ c) : PV b σ' P := by
  obtain ⟨h1, h2, h3, h4, h5, h6⟩ := h
  refine ⟨fun j hj => (h1 j hj).of (by rw [hs _ (by omega) (by omega)]) (hs _ (by omega) (by omega)), by rw [hs _ (by omega) (by omega)]; exact h2, by rw [hs _ (by omega) (by omega)]; exact h3, fun k hk => by rw [hs _ (by omega) (by omega)]; exact h4 k hk, fun k hk => by rw [hs _ (by omega) (by omega)]; exact h5 k hk, by rw [hs _ (by omega) (by omega)]; exact h6⟩
theorem GV.of {g g' : Nat → Int32} {P : aP} (hz : aSz P) (h : GV g P) (hs : ∀ k, k < 277 → g' k = g k) : GV g' P := by
  obtain ⟨h1, h2, h3, h4⟩ := h
  refine ⟨fun j hj => ⟨?_, fun i hi c hc => ?_⟩, fun k hk => ?_, fun k hk => ?_, ?_⟩
  · rw [hs _ (by match j, hj with
      | 0, _ => decide
      | 1, _ => decide
      | 2, _ => decide
      | 3, _ => decide
      | 4, _ => decide)]
    exact (h1 j hj).1
  · have hl := hz j hj
    rw [hs _ (by
      match j, hj with
      | 0, _ => simp only [cnx, wd, rmx] at *; omega
      | 1, _ => simp only [cnx, wd, rmx] at *; omega
      | 2, _ => simp only [cnx, wd, rmx] at *; omega
      | 3, _ => simp only [cnx, wd, rmx] at *; omega
      | 4, _ => simp only [cnx, wd, rmx] at *; omega)]
    exact (h1 j hj).2 i hi c hc
  · rw [hs _ (by omega)]; exact h2 k hk
  · rw [hs _ (by omega)]; exact h3 k hk
  · rw [hs _ (by omega)]; exact h4
/-! ===== tables of the class ===== -/
theorem p_size {t r w : Nat} {σ : fS} : f_X5_size t r w σ = some (σ t 3, σ) := rfl
theorem p_at {t r w : Nat} {σ : fS} {T : aT} (h : TV σ t w T) (hr : T.length ≤ r) (hrw : r * w < 5000) (hw : w < 50) {x1 x2 : Int32} {i c : Nat} (e1 : x1 = nI i) (e2 : x2 = nI c) (hi : i < T.length) (hc : c < w) : f_X5_at t r w x1 x2 σ = some (nI (tg T i c), σ) := by
  have hw0 : 0 < w := by omega
  have hrr : r ≤ r * w := Nat.le_mul_of_pos_right r hw0
  have hb : i * w + c < r * w := by
    have : (i + 1) * w ≤ r * w := Nat.mul_le_mul_right w (by omega)
    rw [Nat.add_mul] at this
    omega
  have e3 : x1 * Int32.ofNat w + x2 = nI (i * w + c) := by rw [e1, e2, show Int32.ofNat w = nI w from rfl, nI_mul, nI_add]
  unfold f_X5_at
  rw [if_neg (by rw [e1]; exact nI_pos (by omega)), if_neg (by rw [h.1, e1]; exact nI_ge hi (by omega)), if_neg (by rw [e2]; exact nI_pos (by omega)), if_pos (by rw [e2]; exact nI_lt hc (by omega)), fb_x e3 hb (by omega), cl_x e3 (by omega), h.2 i hi c hc]
theorem p_has {t r w : Nat} {σ : fS} {x : Int32} : f_X5_has t r w x σ = some (if 0 ≤ x ∧ x < σ t 3 then 1 else 0, σ) := by
  unfold f_X5_has
  by_cases h : x < 0
  · rw [if_pos h, if_neg (by rintro ⟨a, -⟩; exact absurd h (Int32.not_lt.mpr a))]
  · rw [if_neg h]
    by_cases h2 : σ t 3 ≤ x
    · rw [if_pos h2, if_neg (by rintro ⟨-, a⟩; exact absurd a (Int32.not_lt.mpr h2))]
    · rw [if_neg h2, if_pos ⟨Int32.not_lt.mp h, Int32.not_le.mp h2⟩]

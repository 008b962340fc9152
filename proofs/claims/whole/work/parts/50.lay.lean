/-! ===== append, layDown ===== -/
theorem LI.ofP {σ σ' : fS} (h : LI σ) (hf : ∀ c, ¬ scr c → c ≠ 157 → c ≠ 158 → c ≠ 162 → c ≠ 163 → c ≠ 164 → c ≠ 169 → c ≠ 187 → c ≠ 188 → σ' c = σ c) (h4 : ∀ j, j = 3 ∨ j = 5 → σ' 164 j = σ 164 j) (hX : XI σ') (hZ : ZI σ') : LI σ' := by
  obtain ⟨⟨P, k, F, hPV, hGV, hok, hHC, hHM, hF⟩, hS, -, -⟩ := h
  have g : ∀ c, (c < 16 ∨ (31 ≤ c ∧ c < 138) ∨ c = 165 ∨ c = 167 ∨ c = 168) → σ' c = σ c := fun c hc => hf c (by unfold scr; omega) (by omega) (by omega) (by omega) (by omega) (by omega) (by omega) (by omega) (by omega)
  refine ⟨⟨P, k, F, hPV.of (fun c a b => g c (by omega)), by rw [g 165 (by omega)]; exact hGV, hok, hHC.of (fun c a b => g c (by omega)), ?_, hF⟩, ?_, hX, hZ⟩
  · unfold HM
    rw [h4 3 (Or.inl rfl), g 167 (by omega)]
    exact hHM
  · rcases hS with ⟨a, b⟩ | ⟨a, b, S, c, d, e⟩
    · exact Or.inl ⟨by rw [g 0 (by omega)]; exact a, by rw [h4 5 (Or.inr rfl)]; exact b⟩
    · exact Or.inr ⟨by rw [g 0 (by omega)]; exact a, by rw [h4 5 (Or.inr rfl)]; exact b, S, c, d.of (fun q x y => g q (by omega)), by rw [g 168 (by omega)]; exact e⟩
def shf (i : Nat) : Int32 := match i with
  | 0 => 24
  | 1 => 16
  | 2 => 8
  | 3 => 0
  | _ => -8
theorem shf_s {i : Nat} (h : i < 4) : shf i + (-8 : Int32) = shf (i + 1) ∧ ¬ shf i < 0 := by
  have : ∀ i, i < 4 → shf i + (-8 : Int32) = shf (i + 1) ∧ ¬ shf i < 0 := by decide
  exact this i h
def sg (x : Int32) (i : Nat) : Int32 := ((x.toUInt32 >>> ((shf i).toUInt32 &&& Int32.toUInt32 31)).toInt32) &&& (255 : Int32)
def chr (v : Int32) : Int32 := vp_nar .char ((v.toUInt32 % 65536).toInt32)
theorem chr_nI {c : Nat} (h : c < 127) : chr (nI c) = nI c := by
  have : ∀ c, c < 127 → chr (nI c) = nI c := by decide +kernel
  exact this c h
def cntF (x : Int32) : Nat → Nat → Nat → Option Nat
  | 0, _, a => some a
  | d + 1, i, a => if sg x i = 0 then cntF x d (i + 1) a else if (33 : Int32) ≤ sg x i ∧ sg x i ≤ 126 then cntF x d (i + 1) (a + 1) else none
def nz (x : Int32) : Nat → Nat → Nat
  | 0, _ => 0
  | d + 1, i => (if sg x i = 0 then 0 else 1) + nz x d (i + 1)
def wrF (x : Int32) : Nat → Nat → Nat → (Nat → Int32) → Nat → Int32
  | 0, _, _, g => g
  | d + 1, i, m, g => if sg x i = 0 then wrF x d (i + 1) m g else wrF x d (i + 1) (m + 1) (upd g m (chr (sg x i)))
theorem cntF_nz {x : Int32} : ∀ d i a t, cntF x d i a = some t → t = a + nz x d i ∧ ∀ k, i ≤ k → k < i + d → sg x k = 0 ∨ ((33 : Int32) ≤ sg x k ∧ sg x k ≤ 126) := by
  intro d
  induction d with
  | zero => intro i a t h; cases h; exact ⟨rfl, fun k a b => by omega⟩
  | succ d ih =>
    intro i a t h
    unfold cntF at h
    unfold nz
    by_cases h0 : sg x i = 0
    · rw [if_pos h0] at h ⊢
      obtain ⟨e, f⟩ := ih _ _ _ h
      refine ⟨by omega, fun k x y => ?_⟩
      by_cases hk : k = i
      · subst hk; exact Or.inl h0
      · exact f k (by omega) (by omega)
    · rw [if_neg h0] at h ⊢
      by_cases h1 : (33 : Int32) ≤ sg x i ∧ sg x i ≤ 126
      · rw [if_pos h1] at h
        obtain ⟨e, f⟩ := ih _ _ _ h
        refine ⟨by omega, fun k x y => ?_⟩
        by_cases hk : k = i
        · subst hk; exact Or.inr h1
        · exact f k (by omega) (by omega)
      · rw [if_neg h1] at h; cases h
theorem wrF_ok {x : Int32} : ∀ d i m (g g' : Nat → Int32), (∀ k, i ≤ k → k < i + d → sg x k = 0 ∨ ((33 : Int32) ≤ sg x k ∧ sg x k ≤ 126)) → (∀ k, k < m → g k = g' k ∧ ∃ c, g k = nI c ∧ 33 ≤ c ∧ c ≤ 126) → ∀ k, k < m + nz x d i → wrF x d i m g k = wrF x d i m g' k ∧ ∃ c, wrF x d i m g k = nI c ∧ 33 ≤ c ∧ c ≤ 126 := by
  intro d
  induction d with
  | zero => intro i m g g' _ h k hk; exact h k hk
  | succ d ih =>
    intro i m g g' hs h k hk
    unfold nz at hk
    unfold wrF
    by_cases h0 : sg x i = 0
    · rw [if_pos h0] at hk
      rw [if_pos h0, if_pos h0]
      exact ih (i + 1) m g g' (fun k a b => hs k (by omega) (by omega)) h k (by omega)
    · rw [if_neg h0] at hk
      rw [if_neg h0, if_neg h0]
      refine ih (i + 1) (m + 1) _ _ (fun k a b => hs k (by omega) (by omega)) (fun q hq => ?_) k (by omega)
      by_cases hqm : q = m
      · subst hqm
        rw [upd_self, upd_self]
        refine ⟨rfl, ?_⟩
        rcases hs i (Nat.le_refl _) (by omega) with h1 | h1
        · exact absurd h1 h0
        · obtain ⟨c, e, a, b⟩ := rng_nI (a := 33) (b := 126) rfl rfl (by decide) (by decide) h1
          exact ⟨c, by rw [e, chr_nI (by omega)], a, b⟩
      · rw [upd_ne hqm, upd_ne hqm]
        exact h q (by omega)
theorem c_take1 {x : Int32} {σ : fS} : ∀ d i n a, i + d = 4 → d < n → f_X6_take_b5 n x (nI a) (shf i) σ = (cntF x d i a).elim (some (-10002, σ)) (fun t => if σ 157 0 + nI t ≤ 60 then f_X6_take_b76 fN x 24 σ else some (-10003, σ)) := by
  intro d
  induction d with
  | zero =>
    intro i n a hi hn
    obtain ⟨n, rfl⟩ : ∃ m, n = m + 1 := ⟨n - 1, by omega⟩
    have : i = 4 := by omega
    subst this
    rw [f_X6_take_b5, if_pos (by decide)]
    rfl
  | succ d ih =>
    intro i n a hi hn
    obtain ⟨n, rfl⟩ : ∃ m, n = m + 1 := ⟨n - 1, by omega⟩
    obtain ⟨h1, h2⟩ := shf_s (i := i) (by omega)
    rw [f_X6_take_b5, if_neg h2]
    unfold cntF f_X6_take_b39 f_X6_take_b50
    by_cases h0 : sg x i = 0
    · rw [if_pos (show (((x.toUInt32 >>> ((shf i).toUInt32 &&& Int32.toUInt32 31)).toInt32) &&& (255 : Int32)) = 0 from h0), if_pos (show (((x.toUInt32 >>> ((shf i).toUInt32 &&& Int32.toUInt32 31)).toInt32) &&& (255 : Int32)) = 0 from h0), if_pos h0, nI_a0, h1]
      exact ih (i + 1) n a (by omega) (by omega)
    · rw [if_neg (show ¬ (((x.toUInt32 >>> ((shf i).toUInt32 &&& Int32.toUInt32 31)).toInt32) &&& (255 : Int32)) = 0 from h0), if_neg h0, p_isOutside]
      by_cases h3 : (33 : Int32) ≤ sg x i ∧ sg x i ≤ 126
      · rw [if_pos (show (33 : Int32) ≤ (((x.toUInt32 >>> ((shf i).toUInt32 &&& Int32.toUInt32 31)).toInt32) &&& (255 : Int32)) ∧ (((x.toUInt32 >>> ((shf i).toUInt32 &&& Int32.toUInt32 31)).toInt32) &&& (255 : Int32)) ≤ 126 from h3), fcall_ok, if_pos rfl, if_neg (show ¬ (((x.toUInt32 >>> ((shf i).toUInt32 &&& Int32.toUInt32 31)).toInt32) &&& (255 : Int32)) = 0 from h0), if_pos h3, nI_1, h1]
        exact ih (i + 1) n (a + 1) (by omega) (by omega)
      · rw [if_neg (show ¬ ((33 : Int32) ≤ (((x.toUInt32 >>> ((shf i).toUInt32 &&& Int32.toUInt32 31)).toInt32) &&& (255 : Int32)) ∧ (((x.toUInt32 >>> ((shf i).toUInt32 &&& Int32.toUInt32 31)).toInt32) &&& (255 : Int32)) ≤ 126) from h3), fcall_ok, if_neg (by decide), if_neg h3]
        rfl
theorem m_take1 {x : Int32} {σ : fS} : ∀ d i n a, i + d = 4 → d < n → f_X8_append_b5 n x (nI a) (shf i) σ = (cntF x d i a).elim (some (-10002, σ)) (fun t => if σ 164 7 + nI t ≤ 60 then f_X8_append_b76 fN x 24 σ else some (-10003, σ)) := by
  intro d
  induction d with
  | zero =>
    intro i n a hi hn
    obtain ⟨n, rfl⟩ : ∃ m, n = m + 1 := ⟨n - 1, by omega⟩
    have : i = 4 := by omega
    subst this
    rw [f_X8_append_b5, if_pos (by decide)]
    rfl
  | succ d ih =>
    intro i n a hi hn
    obtain ⟨n, rfl⟩ : ∃ m, n = m + 1 := ⟨n - 1, by omega⟩
    obtain ⟨h1, h2⟩ := shf_s (i := i) (by omega)
    rw [f_X8_append_b5, if_neg h2]
    unfold cntF f_X8_append_b39 f_X8_append_b50
    by_cases h0 : sg x i = 0
    · rw [if_pos (show (((x.toUInt32 >>> ((shf i).toUInt32 &&& Int32.toUInt32 31)).toInt32) &&& (255 : Int32)) = 0 from h0), if_pos (show (((x.toUInt32 >>> ((shf i).toUInt32 &&& Int32.toUInt32 31)).toInt32) &&& (255 : Int32)) = 0 from h0), if_pos h0, nI_a0, h1]
      exact ih (i + 1) n a (by omega) (by omega)
    · rw [if_neg (show ¬ (((x.toUInt32 >>> ((shf i).toUInt32 &&& Int32.toUInt32 31)).toInt32) &&& (255 : Int32)) = 0 from h0), if_neg h0, p_in]
      by_cases h3 : (33 : Int32) ≤ sg x i ∧ sg x i ≤ 126
      · rw [if_pos (show (33 : Int32) ≤ (((x.toUInt32 >>> ((shf i).toUInt32 &&& Int32.toUInt32 31)).toInt32) &&& (255 : Int32)) ∧ (((x.toUInt32 >>> ((shf i).toUInt32 &&& Int32.toUInt32 31)).toInt32) &&& (255 : Int32)) ≤ 126 from h3), fcall_ok, if_neg (by decide), if_neg (show ¬ (((x.toUInt32 >>> ((shf i).toUInt32 &&& Int32.toUInt32 31)).toInt32) &&& (255 : Int32)) = 0 from h0), if_pos h3, nI_1, h1]
        exact ih (i + 1) n (a + 1) (by omega) (by omega)
      · rw [if_neg (show ¬ ((33 : Int32) ≤ (((x.toUInt32 >>> ((shf i).toUInt32 &&& Int32.toUInt32 31)).toInt32) &&& (255 : Int32)) ∧ (((x.toUInt32 >>> ((shf i).toUInt32 &&& Int32.toUInt32 31)).toInt32) &&& (255 : Int32)) ≤ 126) from h3), fcall_ok, if_pos rfl, if_neg h3]
        rfl
theorem c_take2 {x : Int32} : ∀ d i n m (σ : fS), i + d = 4 → d < n → m + nz x d i ≤ 60 → σ 157 0 = nI m → ∃ s, f_X6_take_b76 n x (shf i) σ = some (nI (m + nz x d i), s) ∧ (∀ q, q ≠ 157 → q ≠ 158 → s q = σ q) ∧ (∀ j, j ≠ 0 → s 157 j = σ 157 j) ∧ s 157 0 = nI (m + nz x d i) ∧ s 158 = wrF x d i m (σ 158) := by
  intro d
  induction d with
  | zero =>
    intro i n m σ hi hn hm h0
    obtain ⟨n, rfl⟩ : ∃ m, n = m + 1 := ⟨n - 1, by omega⟩
    have : i = 4 := by omega
    subst this
    rw [f_X6_take_b76, if_pos (by decide), h0]
    exact ⟨σ, rfl, fun _ _ _ => rfl, fun _ _ => rfl, h0, rfl⟩
  | succ d ih =>
    intro i n m σ hi hn hm h0
    obtain ⟨n, rfl⟩ : ∃ m, n = m + 1 := ⟨n - 1, by omega⟩
    obtain ⟨h1, h2⟩ := shf_s (i := i) (by omega)
    rw [f_X6_take_b76, if_neg h2]
    unfold nz at hm ⊢
    unfold wrF f_X6_take_b116
    by_cases hz : sg x i = 0
    · rw [if_pos hz] at hm ⊢
      rw [if_pos (show (((x.toUInt32 >>> ((shf i).toUInt32 &&& Int32.toUInt32 31)).toInt32) &&& (255 : Int32)) = 0 from hz), h1, if_pos hz, Nat.zero_add]
      exact ih (i + 1) n m σ (by omega) (by omega) (by omega) h0
    · rw [if_neg hz] at hm ⊢
      rw [if_neg (show ¬ (((x.toUInt32 >>> ((shf i).toUInt32 &&& Int32.toUInt32 31)).toInt32) &&& (255 : Int32)) = 0 from hz), h1, if_neg hz, h0, fb_x rfl (by omega) (by decide), fL_ok, fL_ok, nI_clamp (by omega), fu_cell (a := 157) (c := 158) (by decide), h0, nI_1]
      obtain ⟨s, e, g1, g2, g3, g4⟩ := ih (i + 1) n (m + 1) (fu (fu σ 158 m (chr (sg x i))) 157 0 (nI (m + 1))) (by omega) (by omega) (by omega) (fu_self _ _ _ _)
      rw [show m + (1 + nz x d (i + 1)) = m + 1 + nz x d (i + 1) by omega]
      refine ⟨s, e, fun q a b => by rw [g1 q a b, fu_cell a, fu_cell b], fun j hj => by rw [g2 j hj, fu_slot hj, fu_cell (by decide)], g3, ?_⟩
      rw [g4, fu_cell (by decide), fu_row]
theorem m_take2 {x : Int32} : ∀ d i n m (σ : fS), i + d = 4 → d < n → m + nz x d i ≤ 60 → σ 164 7 = nI m → ∃ s, f_X8_append_b76 n x (shf i) σ = some (nI (m + nz x d i), s) ∧ (∀ q, q ≠ 164 → q ≠ 169 → s q = σ q) ∧ (∀ j, j ≠ 7 → s 164 j = σ 164 j) ∧ s 164 7 = nI (m + nz x d i) ∧ s 169 = wrF x d i m (σ 169) := by
  intro d
  induction d with
  | zero =>
    intro i n m σ hi hn hm h0
    obtain ⟨n, rfl⟩ : ∃ m, n = m + 1 := ⟨n - 1, by omega⟩
    have : i = 4 := by omega
    subst this
    rw [f_X8_append_b76, if_pos (by decide), h0]
    exact ⟨σ, rfl, fun _ _ _ => rfl, fun _ _ => rfl, h0, rfl⟩
  | succ d ih =>
    intro i n m σ hi hn hm h0
    obtain ⟨n, rfl⟩ : ∃ m, n = m + 1 := ⟨n - 1, by omega⟩
    obtain ⟨h1, h2⟩ := shf_s (i := i) (by omega)
    rw [f_X8_append_b76, if_neg h2]
    unfold nz at hm ⊢
    unfold wrF f_X8_append_b116
    by_cases hz : sg x i = 0
    · rw [if_pos hz] at hm ⊢
      rw [if_pos (show (((x.toUInt32 >>> ((shf i).toUInt32 &&& Int32.toUInt32 31)).toInt32) &&& (255 : Int32)) = 0 from hz), h1, if_pos hz, Nat.zero_add]
      exact ih (i + 1) n m σ (by omega) (by omega) (by omega) h0
    · rw [if_neg hz] at hm ⊢
      rw [if_neg (show ¬ (((x.toUInt32 >>> ((shf i).toUInt32 &&& Int32.toUInt32 31)).toInt32) &&& (255 : Int32)) = 0 from hz), h1, if_neg hz, h0, fb_x rfl (by omega) (by decide), fL_ok, fL_ok, nI_clamp (by omega), fu_cell (a := 164) (c := 169) (by decide), h0, nI_1]
      obtain ⟨s, e, g1, g2, g3, g4⟩ := ih (i + 1) n (m + 1) (fu (fu σ 169 m (chr (sg x i))) 164 7 (nI (m + 1))) (by omega) (by omega) (by omega) (fu_self _ _ _ _)
      rw [show m + (1 + nz x d (i + 1)) = m + 1 + nz x d (i + 1) by omega]
      refine ⟨s, e, fun q a b => by rw [g1 q a b, fu_cell a, fu_cell b], fun j hj => by rw [g2 j hj, fu_slot hj, fu_cell (by decide)], g3, ?_⟩
      rw [g4, fu_cell (by decide), fu_row]
theorem nz_le (x : Int32) : ∀ d i, nz x d i ≤ d := by
  intro d
  induction d with
  | zero => intro i; exact Nat.le_refl _
  | succ d ih =>
    intro i
    have := ih (i + 1)
    unfold nz
    split <;> omega
theorem st_10 : ∀ (σ : fS) (x1 : Int32), LI σ → ∃ (r : Int32) (σ1 σ2 : fS), f_X7_append x1 σ = some (r, σ1) ∧ f_X8_append x1 σ1 = some (r, σ2) ∧ LI σ2 := by
  intro σ x hLI
  obtain ⟨-, -, ⟨n, a1, a2, a3, a4, a5⟩, hZ⟩ := id hLI
  have c1 : f_X6_take x σ = _ := c_take1 (x := x) (σ := σ) 4 0 fN 0 rfl (by unfold fN; omega)
  have m1 : ∀ s : fS, f_X8_append x s = _ := fun s => m_take1 (x := x) (σ := s) 4 0 fN 0 rfl (by unfold fN; omega)
  unfold f_X7_append
  cases hc : cntF x 4 0 0 with
  | none =>
    rw [c1, hc, Option.elim_none, fcall_ok]
    refine ⟨_, σ, σ, rfl, ?_, hLI⟩
    rw [m1, hc, Option.elim_none]
  | some t =>
    obtain ⟨e1, e2⟩ := cntF_nz _ _ _ _ hc
    rw [Nat.zero_add] at e1
    have hn4 := nz_le x 4 0
    rw [c1, hc, Option.elim_some, a2, nI_add]
    by_cases hr : n + t ≤ 60
    · obtain ⟨s, f1, f2, f3, f4, f5⟩ := c_take2 (x := x) 4 0 fN n σ rfl (by unfold fN; omega) (by omega) a2
      have f1 : f_X6_take_b76 fN x 24 σ = _ := f1
      rw [if_pos (show nI (n + t) ≤ (60 : Int32) from nI_le (b := 60) hr (by decide)), f1, fcall_ok]
      have b3 : s 164 7 = nI n := by rw [f2 164 (by decide) (by decide)]; exact a3
      obtain ⟨s2, g1, g2, g3, g4, g5⟩ := m_take2 (x := x) 4 0 fN n s rfl (by unfold fN; omega) (by omega) b3
      have g1 : f_X8_append_b76 fN x 24 s = _ := g1
      refine ⟨_, s, s2, rfl, ?_, ?_⟩
      · rw [m1, hc, Option.elim_some, b3, nI_add, if_pos (show nI (n + t) ≤ (60 : Int32) from nI_le (b := 60) hr (by decide)), g1]
      · refine hLI.ofP (fun c hc h157 h158 h162 h163 h164 h169 h187 h188 => by rw [g2 c h164 h169, f2 c h157 h158]) (fun j hj => by rw [g3 j (by omega), f2 164 (by decide) (by decide)]) ⟨n + nz x 4 0, by omega, by rw [g2 157 (by decide) (by decide)]; exact f4, g4, fun i hi => ?_, ?_⟩ ?_
        · have h9 : s 169 = σ 169 := f2 169 (by decide) (by decide)
          rw [g2 158 (by decide) (by decide), f5, g5, h9]
          exact wrF_ok 4 0 n (σ 158) (σ 169) e2 a4 i hi
        · rw [g2 157 (by decide) (by decide), f3 1 (by decide), g3 8 (by decide), f2 164 (by decide) (by decide)]
          exact a5
        · unfold ZI
          rw [g2 162 (by decide) (by decide), g2 163 (by decide) (by decide), g2 187 (by decide) (by decide), g2 188 (by decide) (by decide), f2 162 (by decide) (by decide), f2 163 (by decide) (by decide), f2 187 (by decide) (by decide), f2 188 (by decide) (by decide)]
          exact hZ
    · rw [if_neg (show ¬ nI (n + t) ≤ (60 : Int32) from nI_ge (a := 60) (by omega) (by omega)), fcall_ok]
      refine ⟨_, σ, σ, rfl, ?_, hLI⟩
      rw [m1, hc, Option.elim_some, a3, nI_add, if_neg (show ¬ nI (n + t) ≤ (60 : Int32) from nI_ge (a := 60) (by omega) (by omega))]

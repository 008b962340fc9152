/-! ===== the reference's copies ===== -/
theorem nI_lit_le {c : Int32} {n i : Nat} (hc : c = nI n) (h : i < n) (hn : n < 2 ^ 31) : ¬ c ≤ nI i := by rw [hc]; exact nI_ge h hn
theorem nI_lit_ge {c : Int32} {n i : Nat} (hc : c = nI n) (h : n ≤ i) (hi : i < 2 ^ 31) : c ≤ nI i := by rw [hc]; exact nI_le h hi
theorem p_rem_loop : ∀ (d i n : Nat) (σ : fS), i + d = 277 → d < n → ∃ σ', f_X8_remembers_b2 n (nI i) σ = some σ' ∧ (∀ c, c ≠ 166 → σ' c = σ c) ∧ (∀ k, i ≤ k → k < 277 → σ' 166 k = σ 165 k) ∧ ∀ k, k < i → σ' 166 k = σ 166 k := by
  intro d
  induction d with
  | zero =>
    intro i n σ hi hn
    obtain ⟨n, rfl⟩ : ∃ m, n = m + 1 := ⟨n - 1, by omega⟩
    have : i = 277 := by omega
    subst this
    rw [f_X8_remembers_b2, if_pos (nI_lit_ge (c := 277) (n := 277) (i := 277) rfl (Nat.le_refl 277) (by decide))]
    exact ⟨σ, rfl, fun _ _ => rfl, fun k h1 h2 => by omega, fun _ _ => rfl⟩
  | succ d ih =>
    intro i n σ hi hn
    obtain ⟨n, rfl⟩ : ∃ m, n = m + 1 := ⟨n - 1, by omega⟩
    rw [f_X8_remembers_b2, if_neg (nI_lit_le (c := 277) (n := 277) (i := i) rfl (by omega) (by decide)), fb_x rfl (by omega) (by decide), fb_x rfl (by omega) (by decide), fL_ok, nI_clamp (by omega), nI_1]
    obtain ⟨s2, e, h1, h2, h3⟩ := ih (i + 1) n (fu σ 166 i (σ 165 i)) (by omega) (by omega)
    refine ⟨s2, e, fun c hc => by rw [h1 c hc, fu_cell hc], fun k a b => ?_, fun k hk => ?_⟩
    · by_cases hk : k = i
      · subst hk
        rw [h3 k (by omega), fu_self]
      · rw [h2 k (by omega) b, fu_cell (by decide)]
    · rw [h3 k (by omega), fu_slot (by omega)]
theorem p_remembers (σ : fS) : ∃ σ', f_X8_remembers σ = some σ' ∧ (∀ c, c ≠ 166 → σ' c = σ c) ∧ ∀ k, k < 277 → σ' 166 k = σ 165 k := by
  obtain ⟨s, e, h1, h2, -⟩ := p_rem_loop 277 0 fN σ rfl (by decide)
  exact ⟨s, e, h1, fun k hk => h2 k (Nat.zero_le _) hk⟩
theorem p_bri_loop : ∀ (d i n : Nat) (σ : fS), i + d = 277 → d < n → ∃ σ', f_X8_brings_b2 n (nI i) σ = some σ' ∧ (∀ c, c ≠ 165 → σ' c = σ c) ∧ (∀ k, i ≤ k → k < 277 → σ' 165 k = σ 166 k) ∧ ∀ k, k < i → σ' 165 k = σ 165 k := by
  intro d
  induction d with
  | zero =>
    intro i n σ hi hn
    obtain ⟨n, rfl⟩ : ∃ m, n = m + 1 := ⟨n - 1, by omega⟩
    have : i = 277 := by omega
    subst this
    rw [f_X8_brings_b2, if_pos (nI_lit_ge (c := 277) (n := 277) (i := 277) rfl (Nat.le_refl 277) (by decide))]
    exact ⟨σ, rfl, fun _ _ => rfl, fun k h1 h2 => by omega, fun _ _ => rfl⟩
  | succ d ih =>
    intro i n σ hi hn
    obtain ⟨n, rfl⟩ : ∃ m, n = m + 1 := ⟨n - 1, by omega⟩
    rw [f_X8_brings_b2, if_neg (nI_lit_le (c := 277) (n := 277) (i := i) rfl (by omega) (by decide)), fb_x rfl (by omega) (by decide), fb_x rfl (by omega) (by decide), fL_ok, nI_clamp (by omega), nI_1]
    obtain ⟨s2, e, h1, h2, h3⟩ := ih (i + 1) n (fu σ 165 i (σ 166 i)) (by omega) (by omega)
    refine ⟨s2, e, fun c hc => by rw [h1 c hc, fu_cell hc], fun k a b => ?_, fun k hk => ?_⟩
    · by_cases hk : k = i
      · subst hk
        rw [h3 k (by omega), fu_self]
      · rw [h2 k (by omega) b, fu_cell (by decide)]
    · rw [h3 k (by omega), fu_slot (by omega)]
theorem p_brings (σ : fS) : ∃ σ', f_X8_brings σ = some σ' ∧ (∀ c, c ≠ 165 → σ' c = σ c) ∧ ∀ k, k < 277 → σ' 165 k = σ 166 k := by
  obtain ⟨s, e, h1, h2, -⟩ := p_bri_loop 277 0 fN σ rfl (by decide)
  exact ⟨s, e, h1, fun k hk => h2 k (Nat.zero_le _) hk⟩
/-- is an answer an error -/
def isE (x : Int32) : Prop := ¬ x < -10006 ∧ ¬ -10001 < x
theorem p_errs (x : Int32) (σ : fS) : (isE x → f_X8_errs x σ = some (1, σ)) ∧ (¬ isE x → f_X8_errs x σ = some (0, σ)) := by
  unfold isE f_X8_errs f_X8_in
  refine ⟨fun h => ?_, fun h => ?_⟩
  · rw [if_neg h.1, if_neg h.2, fcall_ok]
    rfl
  · by_cases h1 : x < -10006
    · rw [if_pos h1, fcall_ok]
      rfl
    · rw [if_neg h1]
      by_cases h2 : -10001 < x
      · rw [if_pos h2, fcall_ok]
        rfl
      · exact absurd ⟨h1, h2⟩ h
theorem p_isError (x : Int32) (σ : fS) : (isE x → f_X7_isError x σ = some (1, σ)) ∧ (¬ isE x → f_X7_isError x σ = some (0, σ)) := by
  unfold isE f_X7_isError
  refine ⟨fun h => ?_, fun h => ?_⟩
  · rw [if_neg h.1, if_neg h.2]
  · by_cases h1 : x < -10006
    · rw [if_pos h1]
    · rw [if_neg h1]
      by_cases h2 : -10001 < x
      · rw [if_pos h2]
      · exact absurd ⟨h1, h2⟩ h
/-- the end of kept: ahead goes behind the k that are there -/
theorem p_kept61 {x : Int32} : ∀ (d i n k : Nat) (σ : fS), i + d = 277 → d < n → k < 6 → σ 164 3 = nI k → ∃ σ', f_X8_kept_b61 n x (nI i) σ = some (x, σ') ∧ (∀ c, c ≠ 167 → c ≠ 164 → σ' c = σ c) ∧ σ' 164 3 = nI (k + 1) ∧ (∀ j, j ≠ 3 → σ' 164 j = σ 164 j) ∧ (∀ q, i ≤ q → q < 277 → σ' 167 (277 * k + q) = σ 166 q) ∧ ∀ q, q < 277 * k + i → σ' 167 q = σ 167 q := by
  intro d
  induction d with
  | zero =>
    intro i n k σ hi hn hk h3
    obtain ⟨n, rfl⟩ : ∃ m, n = m + 1 := ⟨n - 1, by omega⟩
    have : i = 277 := by omega
    subst this
    rw [f_X8_kept_b61, if_pos (nI_lit_ge (c := 277) (n := 277) (i := 277) rfl (Nat.le_refl 277) (by decide)), fL_ok, h3, nI_1]
    exact ⟨_, rfl, fun c _ h => fu_cell h, fu_self _ _ _ _, fun j hj => fu_slot hj, fun q a b => by omega, fun q _ => by rw [fu_cell (by decide)]⟩
  | succ d ih =>
    intro i n k σ hi hn hk h3
    obtain ⟨n, rfl⟩ : ∃ m, n = m + 1 := ⟨n - 1, by omega⟩
    have e1 : (277 : Int32) * σ 164 3 + nI i = nI (277 * k + i) := by
      rw [h3, show (277 : Int32) = nI 277 from rfl, nI_mul, nI_add]
    rw [f_X8_kept_b61, if_neg (nI_lit_le (c := 277) (n := 277) (i := i) rfl (by omega) (by decide)), fb_x rfl (by omega) (by decide), fb_x e1 (by omega) (by decide), fL_ok, cl_x e1 (by omega), nI_clamp (by omega), nI_1]
    obtain ⟨s2, e, h4, h5, h6, h7, h8⟩ := ih (i + 1) n k (fu σ 167 (277 * k + i) (σ 166 i)) (by omega) (by omega) hk (by rw [fu_cell (by decide)]; exact h3)
    refine ⟨s2, e, fun c a b => by rw [h4 c a b, fu_cell a], h5, fun j hj => by rw [h6 j hj, fu_cell (by decide)], fun q a b => ?_, fun q hq => ?_⟩
    · by_cases hqi : q = i
      · subst hqi
        rw [h8 _ (by omega), fu_self]
      · rw [h7 q (by omega) b, fu_cell (by decide)]
    · rw [h8 q (by omega), fu_slot (by omega)]
theorem p_kept20 {x : Int32} : ∀ (d i n : Nat) (σ : fS), i + d = 1385 → d < n → σ 164 3 = nI 6 → ∃ σ1, f_X8_kept_b20 n x (nI i) σ = f_X8_kept_b59 x σ1 ∧ (∀ c, c ≠ 167 → c ≠ 164 → σ1 c = σ c) ∧ σ1 164 3 = nI 5 ∧ (∀ j, j ≠ 3 → σ1 164 j = σ 164 j) ∧ (∀ q, i ≤ q → q < 1385 → σ1 167 q = σ 167 (q + 277)) ∧ ∀ q, q < i → σ1 167 q = σ 167 q := by
  intro d
  induction d with
  | zero =>
    intro i n σ hi hn h3
    obtain ⟨n, rfl⟩ : ∃ m, n = m + 1 := ⟨n - 1, by omega⟩
    have : i = 1385 := by omega
    subst this
    rw [f_X8_kept_b20, if_pos (nI_lit_ge (c := 1385) (n := 1385) (i := 1385) rfl (Nat.le_refl 1385) (by decide)), fL_ok, h3, show nI 6 - (1 : Int32) = nI 5 from nI_pred 5]
    exact ⟨_, rfl, fun c _ h => fu_cell h, fu_self _ _ _ _, fun j hj => fu_slot hj, fun q a b => by omega, fun q _ => by rw [fu_cell (by decide)]⟩
  | succ d ih =>
    intro i n σ hi hn h3
    obtain ⟨n, rfl⟩ : ∃ m, n = m + 1 := ⟨n - 1, by omega⟩
    have e1 : nI i + (277 : Int32) = nI (i + 277) := nI_add i 277
    rw [f_X8_kept_b20, if_neg (nI_lit_le (c := 1385) (n := 1385) (i := i) rfl (by omega) (by decide)), fb_x e1 (by omega) (by decide), fb_x rfl (by omega) (by decide), fL_ok, cl_x e1 (by omega), nI_clamp (by omega), nI_1]
    obtain ⟨s2, e, h4, h5, h6, h7, h8⟩ := ih (i + 1) n (fu σ 167 i (σ 167 (i + 277))) (by omega) (by omega) (by rw [fu_cell (by decide)]; exact h3)
    refine ⟨s2, e, fun c a b => by rw [h4 c a b, fu_cell a], h5, fun j hj => by rw [h6 j hj, fu_cell (by decide)], fun q a b => ?_, fun q hq => ?_⟩
    · by_cases hqi : q = i
      · subst hqi
        rw [h8 _ (by omega), fu_self]
      · rw [h7 q (by omega) b, fu_slot (by omega)]
    · rw [h8 q (by omega), fu_slot (by omega)]
theorem p_kept {x : Int32} {σ : fS} {k : Nat} {F : Nat → aP} {P : aP} (hk : k ≤ 6) (h : HM σ k F) (hz : ∀ i, i < k → aSz (F i)) (hP : GV (σ 166) P) (hzP : aSz P) (hx : ¬ isE x) : ∃ σ', f_X8_kept x σ = some (x, σ') ∧ (∀ c, c ≠ 167 → c ≠ 164 → σ' c = σ c) ∧ (∀ j, j ≠ 3 → σ' 164 j = σ 164 j) ∧ HM σ' (hkK k) (hkF k F P) := by
  unfold f_X8_kept
  rw [(p_errs x σ).2 hx, fcall_ok, if_pos rfl]
  by_cases h6 : k < 6
  · rw [if_neg (by rw [h.1]; exact fun e => by have := nI_inj (a := k) (b := 6) (by omega) (by decide) e; omega)]
    unfold f_X8_kept_b59
    obtain ⟨s2, e, h4, h5, h7, h8, h9⟩ := p_kept61 (x := x) 277 0 fN k σ rfl (by decide) h6 h.1
    refine ⟨s2, e, h4, h7, ?_, fun i hi => ?_⟩
    · unfold hkK
      rw [if_pos h6]
      exact h5
    · unfold hkK at hi
      rw [if_pos h6] at hi
      unfold hkF
      simp only [h6, if_true]
      by_cases hik : i = k
      · subst hik
        rw [if_pos rfl]
        exact hP.of hzP (fun q hq => h8 q (Nat.zero_le _) hq)
      · rw [if_neg hik]
        exact (h.2 i (by omega)).of (hz i (by omega)) (fun q hq => h9 _ (by omega))
  · have hk6 : k = 6 := by omega
    subst hk6
    rw [if_pos (by rw [h.1]; rfl)]
    obtain ⟨s1, e, h4, h5, h7, h8, -⟩ := p_kept20 (x := x) 1385 0 fN σ rfl (by decide) h.1
    have e : f_X8_kept_b20 fN x 0 σ = f_X8_kept_b59 x s1 := e
    rw [e]
    unfold f_X8_kept_b59
    obtain ⟨s2, e2, k4, k5, k7, k8, k9⟩ := p_kept61 (x := x) 277 0 fN 5 s1 rfl (by decide) (by decide) h5
    refine ⟨s2, e2, fun c a b => by rw [k4 c a b, h4 c a b], fun j hj => by rw [k7 j hj, h7 j hj], k5, fun i hi => ?_⟩
    unfold hkK at hi
    rw [if_neg (by decide)] at hi
    unfold hkF
    simp only [show ¬ (6 : Nat) < 6 by decide, if_false]
    by_cases hik : i = 5
    · subst hik
      rw [if_pos rfl]
      exact hP.of hzP (fun q hq => by
        show s2 167 (277 * 5 + q) = _
        rw [k8 q (Nat.zero_le _) hq, h4 166 (by decide) (by decide)])
    · rw [if_neg hik]
      exact (h.2 (i + 1) (by omega)).of (hz (i + 1) (by omega)) (fun q hq => by
        show s2 167 (277 * i + q) = σ 167 (277 * (i + 1) + q)
        rw [k9 _ (by omega), h8 _ (Nat.zero_le _) (by omega), show 277 * (i + 1) + q = 277 * i + q + 277 by omega])
theorem p_keptE {x : Int32} {σ : fS} (hx : isE x) : f_X8_kept x σ = some (x, σ) := by
  unfold f_X8_kept
  rw [(p_errs x σ).1 hx, fcall_ok, if_neg (by decide)]
theorem p_notedE {x : Int32} {σ : fS} (hx : isE x) : f_X7_noted x σ = some (x, σ) := by
  unfold f_X7_noted
  rw [(p_isError x σ).1 hx, fcall_ok, if_neg (by decide)]
theorem p_noted {x : Int32} {σ : fS} {k : Nat} {F : Nat → aP} {P : aP} (h : HC σ k F) (hP : PV 16 σ P) (hz : aSz P) (hx : ¬ isE x) : ∃ σ', f_X7_noted x σ = some (x, σ') ∧ (∀ c, c < 46 ∨ 138 ≤ c → σ' c = σ c) ∧ HC σ' (hkK k) (hkF k F P) := by
  unfold f_X7_noted
  rw [(p_isError x σ).2 hx, fcall_ok, if_pos rfl]
  obtain ⟨s, e, h1, h2⟩ := p_keep h hP hz (by decide)
  rw [e, fcallv_ok]
  exact ⟨s, rfl, h1, h2⟩

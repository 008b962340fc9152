/-! ===== unloading ===== -/
abbrev aU : Type := (Nat → Nat) × Nat × (Nat → Nat)
def uV (P : aP) (c l : Nat) (U : aU) : Nat := lv (lA P) (4 * c + l) (if rmP P c = 1 then ll (lA P) (4 * c + l) - 1 - U.1 l else U.1 l)
def uB (P : aP) (c p l : Nat) (U : aU) : Bool := decide (U.1 l < ll (lA P) (4 * c + l) ∧ tg (P.1 3) (uV P c l U) 2 = p)
def uTk (P : aP) (c l : Nat) (U : aU) : aU := (up1 U.1 l (U.1 l + 1), U.2.1 + 1, up1 U.2.2 U.2.1 (uV P c l U))
def uLn (P : aP) (c p l : Nat) : Nat → aU → aU
  | 0, U => U
  | f + 1, U => if uB P c p l U = true then uLn P c p l f (uTk P c l U) else U
def uLs (P : aP) (c p : Nat) : Nat → Nat → aU → aU
  | 0, _, U => U
  | d + 1, l, U => uLs P c p d (l + 1) (uLn P c p l 25 U)
def uAl (P : aP) (c : Nat) : Nat → aU
  | 0 => (fun _ => 0, 0, fun _ => 0)
  | p + 1 => uLs P c p 4 0 (uAl P c p)
def UI (P : aP) (c : Nat) (U : aU) : Prop := (∀ l, l < 4 → U.1 l ≤ ll (lA P) (4 * c + l)) ∧ U.2.1 = U.1 0 + U.1 1 + U.1 2 + U.1 3
theorem UI.take {P : aP} {c p l : Nat} {U : aU} (h : UI P c U) (hl : l < 4) (hb : uB P c p l U = true) : UI P c (uTk P c l U) := by
  obtain ⟨b1, -⟩ := of_decide_eq_true hb
  obtain ⟨h1, h2⟩ := h
  refine ⟨fun k hk => ?_, ?_⟩
  · show up1 U.1 l (U.1 l + 1) k ≤ _
    by_cases hkl : k = l
    · subst hkl; rw [up1_self]; omega
    · rw [up1_ne hkl]; exact h1 k hk
  · show U.2.1 + 1 = up1 U.1 l (U.1 l + 1) 0 + up1 U.1 l (U.1 l + 1) 1 + up1 U.1 l (U.1 l + 1) 2 + up1 U.1 l (U.1 l + 1) 3
    rcases (show l = 0 ∨ l = 1 ∨ l = 2 ∨ l = 3 by omega) with rfl | rfl | rfl | rfl
    · rw [up1_self, up1_ne (by decide), up1_ne (by decide), up1_ne (by decide)]; omega
    · rw [up1_self, up1_ne (by decide), up1_ne (by decide), up1_ne (by decide)]; omega
    · rw [up1_self, up1_ne (by decide), up1_ne (by decide), up1_ne (by decide)]; omega
    · rw [up1_self, up1_ne (by decide), up1_ne (by decide), up1_ne (by decide)]; omega
theorem uLn_UI {P : aP} {c p l : Nat} (hl : l < 4) : ∀ f U, UI P c U → UI P c (uLn P c p l f U) := by
  intro f
  induction f with
  | zero => intro U h; exact h
  | succ f ih =>
    intro U h
    unfold uLn
    by_cases hb : uB P c p l U = true
    · rw [if_pos hb]; exact ih _ (h.take hl hb)
    · rw [if_neg hb]; exact h
theorem uLs_UI {P : aP} {c p : Nat} : ∀ d l U, l + d ≤ 4 → UI P c U → UI P c (uLs P c p d l U) := by
  intro d
  induction d with
  | zero => intro l U _ h; exact h
  | succ d ih => intro l U hl h; exact ih (l + 1) _ (by omega) (uLn_UI (by omega) 25 U h)
theorem uAl_UI {P : aP} {c : Nat} : ∀ p, UI P c (uAl P c p) := by
  intro p
  induction p with
  | zero => exact ⟨fun _ _ => Nat.zero_le _, rfl⟩
  | succ p ih => exact uLs_UI 4 0 _ (by decide) ih
theorem sumN_add {g h : Nat → Nat} : ∀ d i, sumN g i d + sumN h i d = sumN (fun k => g k + h k) i d := by
  intro d
  induction d with
  | zero => intro i; rfl
  | succ d ih =>
    intro i
    have := ih (i + 1)
    unfold sumN
    omega
theorem atB_4 (a : Option (Nat × Nat × Nat)) (c : Nat) : (if atB a c 0 = true then 1 else 0) + (if atB a c 1 = true then 1 else 0) + (if atB a c 2 = true then 1 else 0) + (if atB a c 3 = true then 1 else 0) ≤ 1 := by
  cases a with
  | none => simp [atB]
  | some t =>
    obtain ⟨c', l', k'⟩ := t
    unfold atB
    simp only [decide_eq_true_eq]
    by_cases h0 : c' = c ∧ l' = 0
    · rw [if_pos h0, if_neg (by omega), if_neg (by omega), if_neg (by omega)]; decide
    · rw [if_neg h0]
      by_cases h1 : c' = c ∧ l' = 1
      · rw [if_pos h1, if_neg (by omega), if_neg (by omega)]; decide
      · rw [if_neg h1]
        by_cases h2 : c' = c ∧ l' = 2
        · rw [if_pos h2, if_neg (by omega)]; decide
        · rw [if_neg h2]
          split <;> decide
theorem tot24 {P : aP} (hok : aOK P) {c : Nat} (hc : c < (P.1 2).length) : ll (lA P) (4 * c + 0) + ll (lA P) (4 * c + 1) + ll (lA P) (4 * c + 2) + ll (lA P) (4 * c + 3) ≤ 24 := by
  have z3 : (P.1 3).length ≤ 24 := hok.1 3 (by decide)
  have V := (VI_A hok).2.2.2.2.2.2.1
  rw [V c 0 hc (by decide), V c 1 hc (by decide), V c 2 hc (by decide), V c 3 hc (by decide), sumN_add, sumN_add, sumN_add]
  have := sumN_le (g := fun k => (if atB (ab (lA P) k) c 0 = true then 1 else 0) + (if atB (ab (lA P) k) c 1 = true then 1 else 0) + (if atB (ab (lA P) k) c 2 = true then 1 else 0) + (if atB (ab (lA P) k) c 3 = true then 1 else 0)) (h := fun _ => 1) (P.1 3).length 0 (fun k _ _ => atB_4 _ _)
  rw [sumN_one] at this
  omega
theorem UI.out {P : aP} (hok : aOK P) {c l : Nat} {U : aU} (h : UI P c U) (hc : c < (P.1 2).length) : U.2.1 ≤ 24 ∧ (l < 4 → U.1 l < ll (lA P) (4 * c + l) → U.2.1 < 24) := by
  have t := tot24 hok hc
  have a0 := h.1 0 (by decide)
  have a1 := h.1 1 (by decide)
  have a2 := h.1 2 (by decide)
  have a3 := h.1 3 (by decide)
  have e := h.2
  refine ⟨by omega, fun hl hlt => ?_⟩
  rcases (show l = 0 ∨ l = 1 ∨ l = 2 ∨ l = 3 by omega) with rfl | rfl | rfl | rfl <;> omega
theorem uLn_id {P : aP} {c p l : Nat} (h0 : ll (lA P) (4 * c + l) = 0) : ∀ f U, uLn P c p l f U = U := by
  intro f U
  cases f with
  | zero => rfl
  | succ f =>
    unfold uLn
    rw [if_neg (fun h => by
      have := (of_decide_eq_true h).1
      omega)]
theorem uLs_add {P : aP} {c p : Nat} : ∀ d e l U, uLs P c p (d + e) l U = uLs P c p e (l + d) (uLs P c p d l U) := by
  intro d
  induction d with
  | zero => intro e l U; rw [Nat.zero_add, Nat.add_zero]; rfl
  | succ d ih =>
    intro e l U
    rw [show d + 1 + e = (d + e) + 1 by omega]
    show uLs P c p (d + e) (l + 1) (uLn P c p l 25 U) = uLs P c p e (l + (d + 1)) (uLs P c p d (l + 1) (uLn P c p l 25 U))
    rw [ih, show l + 1 + d = l + (d + 1) by omega]
theorem uLs_id {P : aP} {c p : Nat} : ∀ d l U, (∀ k, l ≤ k → k < l + d → ll (lA P) (4 * c + k) = 0) → uLs P c p d l U = U := by
  intro d
  induction d with
  | zero => intro l U _; rfl
  | succ d ih =>
    intro l U h
    show uLs P c p d (l + 1) (uLn P c p l 25 U) = U
    rw [uLn_id (h l (Nat.le_refl _) (by omega)), ih (l + 1) U (fun k a b => h k (by omega) (by omega))]
theorem uLs_cut {P : aP} (hok : aOK P) {c p : Nat} (hc : c < (P.1 2).length) (U : aU) : uLs P c p 4 0 U = uLs P c p (laN P c) 0 U := by
  have lb := laN_b hok hc
  have := uLs_add (P := P) (c := c) (p := p) (laN P c) (4 - laN P c) 0 U
  rw [show laN P c + (4 - laN P c) = 4 by omega] at this
  rw [this]
  exact uLs_id _ _ _ (fun k a b => (VI_A hok).2.2.2.2.2.2.2.2 c k hc (by omega) (by omega))
/-! ===== the class unloads ===== -/
def UVc (s : fS) (U : aU) : Prop := (∀ l, l < 4 → s 156 l = nI (U.1 l)) ∧ ∀ i, i < U.2.1 → s 148 i = nI (U.2.2 i)
theorem UVc.take {s : fS} {P : aP} {c l : Nat} {U : aU} (h : UVc s U) : UVc (fu (fu s 148 U.2.1 (nI (uV P c l U))) 156 l (nI (U.1 l + 1))) (uTk P c l U) := by
  refine ⟨fun k hk => ?_, fun i hi => ?_⟩
  · show _ = nI (up1 U.1 l (U.1 l + 1) k)
    by_cases hkl : k = l
    · subst hkl; rw [up1_self, fu_self]
    · rw [up1_ne hkl, fu_slot hkl, fu_cell (by decide)]; exact h.1 k hk
  · have hi : i < U.2.1 + 1 := hi
    show _ = nI (up1 U.2.2 U.2.1 (uV P c l U) i)
    rw [fu_cell (by decide)]
    by_cases hio : i = U.2.1
    · subst hio; rw [up1_self, fu_self]
    · rw [up1_ne hio, fu_slot hio]; exact h.2 i (by omega)
theorem gIn_ll {P : aP} (hok : aOK P) {c l : Nat} (hc : c < (P.1 2).length) (hl : l < 4) : sumN (gIn P c l) 0 (P.1 3).length = ll (lA P) (4 * c + l) ∧ sumN (gMe P c l) 0 (P.1 3).length ≤ laL P c := by
  have z2 : (P.1 2).length ≤ 12 := hok.1 2 (by decide)
  have V := VI_A hok
  have key : ∀ v, v < (P.1 3).length → ((abA (ab (lA P) v) = nI c ∧ abL (ab (lA P) v) = nI l) ↔ atB (ab (lA P) v) c l = true) := fun v hv => by
    cases hab : ab (lA P) v with
    | none =>
      refine ⟨fun h => absurd h.1.symm (nI_NONE (by omega)), fun h => by cases h⟩
    | some t =>
      obtain ⟨c', l', k'⟩ := t
      obtain ⟨x1, x2, x3, x4⟩ := V.2.2.2.2.2.1 v hv c' l' k' hab
      unfold atB
      rw [decide_eq_true_eq]
      exact ⟨fun h => ⟨nI_inj (by omega) (by omega) h.1, nI_inj (by omega) (by omega) h.2⟩, fun h => ⟨by rw [h.1]; rfl, by rw [h.2]; rfl⟩⟩
  refine ⟨?_, ?_⟩
  · rw [V.2.2.2.2.2.2.1 c l hc hl]
    refine sumN_congr _ 0 (fun k _ hk => ?_)
    unfold gIn
    rw [Nat.zero_add] at hk
    by_cases h : atB (ab (lA P) k) c l = true
    · rw [if_pos h, if_pos ((key k hk).mpr h)]
    · rw [if_neg h, if_neg (fun e => h ((key k hk).mp e))]
  · have h8 := V.2.2.2.2.2.2.2.1 c l hc hl
    have : sumN (gMe P c l) 0 (P.1 3).length = sumN (fun v => if atB (ab (lA P) v) c l = true then tg (P.1 3) v 1 else 0) 0 (P.1 3).length := by
      refine sumN_congr _ 0 (fun k _ hk => ?_)
      unfold gMe
      rw [Nat.zero_add] at hk
      by_cases h : atB (ab (lA P) k) c l = true
      · rw [if_pos h, if_pos ((key k hk).mpr h)]
      · rw [if_neg h, if_neg (fun e => h ((key k hk).mp e))]
    omega
theorem c_unLane {b : Nat} {σ : fS} {P : aP} (hb : b + 15 ≤ 138) (hp : PV b σ P) (hok : aOK P) (hL : LVc σ P) {c l p : Nat} (hc : c < (P.1 2).length) (hl : l < 4) (hp5 : p ≤ 5) : ∀ f n U s, (∀ q, q ≠ 148 → q ≠ 156 → s q = σ q) → UI P c U → UVc s U → ll (lA P) (4 * c + l) - U.1 l < f → f ≤ n → ∃ s', f_X2_unloadLane_b13 b n (nI c) (nI l) (nI p) (nI (ll (lA P) (4 * c + l))) (nI U.2.1) s = some (nI (uLn P c p l f U).2.1, s') ∧ UVc s' (uLn P c p l f U) ∧ ∀ q, q ≠ 148 → q ≠ 156 → s' q = σ q := by
  have z2 : (P.1 2).length ≤ 12 := hok.1 2 (by decide)
  have z3 : (P.1 3).length ≤ 24 := hok.1 3 (by decide)
  have V := VI_A hok
  have h24 := V.ll24 z3 hc hl
  have rb := rmP_b hok hc
  intro f
  induction f with
  | zero => intro n U s _ _ _ h; omega
  | succ f ih =>
    intro n U s hs hU hV hf hn
    obtain ⟨n, rfl⟩ : ∃ m, n = m + 1 := ⟨n - 1, by omega⟩
    have hp' : PV b s P := hp.of (fun q a x => hs q (by omega) (by omega))
    have hL' : LVc s P := hL.of (hs _ (by decide) (by decide)) (hs _ (by decide) (by decide)) (hs _ (by decide) (by decide)) (hs _ (by decide) (by decide)) (hs _ (by decide) (by decide)) (hs _ (by decide) (by decide)) (hs _ (by decide) (by decide)) (hs _ (by decide) (by decide))
    have hg := hU.1 l hl
    unfold uLn
    rw [f_X2_unloadLane_b13, fb_x rfl hl (by decide), nI_clamp (by omega), hV.1 l hl]
    by_cases hlt : U.1 l < ll (lA P) (4 * c + l)
    · have hout := (hU.out hok hc).2 hl hlt
      rw [if_neg (nI_ge hlt (by omega)), if_neg (show ¬ (24 : Int32) ≤ nI U.2.1 from nI_ge (b := 24) hout (by decide)), c_rmP hp' hok hc, fcall_ok]
      have b60 : ∀ j, j < ll (lA P) (4 * c + l) → lv (lA P) (4 * c + l) j = uV P c l U → ∃ s', f_X2_unloadLane_b60 b (fun v2 v3 v4 v6 v7 σ => f_X2_unloadLane_b13 b n v2 v3 v4 v6 v7 σ) (nI c) (nI l) (nI p) (nI (ll (lA P) (4 * c + l))) (nI U.2.1) (nI j) s = some (nI (if uB P c p l U = true then uLn P c p l f (uTk P c l U) else U).2.1, s') ∧ UVc s' (if uB P c p l U = true then uLn P c p l f (uTk P c l U) else U) ∧ ∀ q, q ≠ 148 → q ≠ 156 → s' q = σ q := fun j hj hvj => by
        have hv := (V.2.2.2.2.1 c l hc hl j hj).1
        have pb := (hok.2.2.2.2.1 _ hv).2.2.2
        unfold f_X2_unloadLane_b60
        rw [c_standing hp' hok hL' c l (nI j), stand_in hok hc hl hj, fcall_ok, show orI (-10004) nI (some (lv (lA P) (4 * c + l) j)) = nI (lv (lA P) (4 * c + l) j) from rfl, if_neg (nI_NONE (by omega)), cV2 hp' hok.1 hv, fcall_ok]
        rw [hvj] at hv pb ⊢
        by_cases hpp : tg (P.1 3) (uV P c l U) 2 = p
        · have hbt : uB P c p l U = true := decide_eq_true ⟨hlt, hpp⟩
          rw [if_pos (by rw [hpp]), fb_x rfl (by omega) (by decide), fL_ok, fb_x rfl hl (by decide), fb_x rfl hl (by decide), fL_ok, nI_clamp (by omega), nI_clamp (by omega), fu_cell (by decide), hV.1 l hl, nI_1, nI_1, if_pos hbt]
          have hll : ll (lA P) (4 * c + l) - (uTk P c l U).1 l < f := by
            show ll (lA P) (4 * c + l) - up1 U.1 l (U.1 l + 1) l < f
            rw [up1_self]
            omega
          exact ih n (uTk P c l U) _ (fun q a x => by rw [fu_cell x, fu_cell a]; exact hs q a x) (hU.take hl hbt) hV.take hll (by omega)
        · rw [if_neg (fun e => hpp (nI_inj (by omega) (by omega) e)), if_neg (fun e => hpp (of_decide_eq_true e).2)]
          exact ⟨s, rfl, hV, hs⟩
      by_cases hr : rmP P c = 1
      · rw [if_pos (by rw [hr]; rfl), fb_x rfl hl (by decide), hV.1 l hl, show nI (ll (lA P) (4 * c + l)) - (1 : Int32) = nI (ll (lA P) (4 * c + l) - 1) from nI_sub (b := 1) (by omega), nI_sub (by omega)]
        exact b60 _ (by omega) (by unfold uV; rw [if_pos hr])
      · rw [if_neg (show ¬ nI (rmP P c) = (1 : Int32) from fun e => hr (nI_inj (b := 1) (by omega) (by decide) e)), fb_x rfl hl (by decide), hV.1 l hl]
        exact b60 _ hlt (by unfold uV; rw [if_neg hr])
    · rw [if_pos (nI_le (by omega) (by omega)), if_neg (fun e => hlt (of_decide_eq_true e).1)]
      exact ⟨s, rfl, hV, hs⟩
theorem c_unLanes {b : Nat} {σ : fS} {P : aP} (hb : b + 15 ≤ 138) (hp : PV b σ P) (hok : aOK P) (hL : LVc σ P) {c p : Nat} (hc : c < (P.1 2).length) (hp5 : p ≤ 5) (K : Int32 → Int32 → Int32 → fS → Option (Int32 × fS)) : ∀ d l n U s, l + d = laN P c → d < n → (∀ q, q ≠ 148 → q ≠ 156 → s q = σ q) → UI P c U → UVc s U → ∃ s', f_X2_unload_b34 b K n (nI c) (nI U.2.1) (nI p) (nI l) s = K (nI c) (nI (uLs P c p d l U).2.1) (nI (p + 1)) s' ∧ UVc s' (uLs P c p d l U) ∧ ∀ q, q ≠ 148 → q ≠ 156 → s' q = σ q := by
  have z3 : (P.1 3).length ≤ 24 := hok.1 3 (by decide)
  have lb := laN_b hok hc
  intro d
  induction d with
  | zero =>
    intro l n U s hl hn hs hU hV
    obtain ⟨n, rfl⟩ : ∃ m, n = m + 1 := ⟨n - 1, by omega⟩
    have hp' : PV b s P := hp.of (fun q a x => hs q (by omega) (by omega))
    rw [f_X2_unload_b34, c_laN hp' hok hc, fcall_ok, if_pos (nI_le (by omega) (by omega)), nI_1]
    exact ⟨s, rfl, hV, hs⟩
  | succ d ih =>
    intro l n U s hl hn hs hU hV
    obtain ⟨n, rfl⟩ : ∃ m, n = m + 1 := ⟨n - 1, by omega⟩
    have hl4 : l < 4 := by omega
    have h24 := (VI_A hok).ll24 z3 hc hl4
    have hp' : PV b s P := hp.of (fun q a x => hs q (by omega) (by omega))
    have hL' : LVc s P := hL.of (hs _ (by decide) (by decide)) (hs _ (by decide) (by decide)) (hs _ (by decide) (by decide)) (hs _ (by decide) (by decide)) (hs _ (by decide) (by decide)) (hs _ (by decide) (by decide)) (hs _ (by decide) (by decide)) (hs _ (by decide) (by decide))
    obtain ⟨s1, e1, v1, f1⟩ := c_unLane hb hp hok hL (p := p) hc hl4 hp5 25 fN U s hs hU hV (by omega) (by unfold fN; omega)
    obtain ⟨s2, e2, v2, f2⟩ := ih (l + 1) n (uLn P c p l 25 U) s1 (by omega) (by omega) f1 (uLn_UI hl4 25 U hU) v1
    refine ⟨s2, ?_, v2, f2⟩
    rw [f_X2_unload_b34, c_laN hp' hok hc, fcall_ok, if_neg (nI_ge (by omega) (by omega))]
    unfold f_X2_unloadLane
    rw [c_inLane hp' hok hL' c l, fcall_ok, (gIn_ll hok hc hl4).1, e1, fcall_ok, nI_1]
    exact e2
theorem c_unload {b : Nat} {σ : fS} {P : aP} (hb : b + 15 ≤ 138) (hp : PV b σ P) (hok : aOK P) (hL : LVc σ P) {c : Nat} (hc : c < (P.1 2).length) : ∃ s', f_X2_unload b (nI c) σ = some (nI (uAl P c 6).2.1, s') ∧ UVc s' (uAl P c 6) ∧ ∀ q, q ≠ 148 → q ≠ 156 → s' q = σ q := by
  have lb := laN_b hok hc
  have ports : ∀ d p n s, p + d = 6 → d < n → (∀ q, q ≠ 148 → q ≠ 156 → s q = σ q) → UVc s (uAl P c p) → ∃ s', f_X2_unload_b25 b n (nI c) (nI (uAl P c p).2.1) (nI p) s = some (nI (uAl P c 6).2.1, s') ∧ UVc s' (uAl P c 6) ∧ ∀ q, q ≠ 148 → q ≠ 156 → s' q = σ q := by
    intro d
    induction d with
    | zero =>
      intro p n s hpd hn hs hV
      obtain ⟨n, rfl⟩ : ∃ m, n = m + 1 := ⟨n - 1, by omega⟩
      have : p = 6 := by omega
      subst this
      rw [f_X2_unload_b25, if_pos (show (5 : Int32) < nI 6 from by decide)]
      exact ⟨s, rfl, hV, hs⟩
    | succ d ih =>
      intro p n s hpd hn hs hV
      obtain ⟨n, rfl⟩ : ∃ m, n = m + 1 := ⟨n - 1, by omega⟩
      obtain ⟨s1, e1, v1, f1⟩ := c_unLanes hb hp hok hL (p := p) hc (by omega) (fun v2 v3 v4 σ => f_X2_unload_b25 b n v2 v3 v4 σ) (laN P c) 0 fN (uAl P c p) s (Nat.zero_add _) (by unfold fN; omega) hs (uAl_UI p) hV
      have eU : uAl P c (p + 1) = uLs P c p (laN P c) 0 (uAl P c p) := uLs_cut hok hc _
      obtain ⟨s2, e2, v2, f2⟩ := ih (p + 1) n s1 (by omega) (by omega) f1 (by rw [eU]; exact v1)
      refine ⟨s2, ?_, v2, f2⟩
      rw [f_X2_unload_b25, if_neg (show ¬ (5 : Int32) < nI p from nI_nlt (a := 5) (by omega) (by decide))]
      have e1 : f_X2_unload_b34 b (fun v2 v3 v4 σ => f_X2_unload_b25 b n v2 v3 v4 σ) fN (nI c) (nI (uAl P c p).2.1) (nI p) 0 s = _ := e1
      rw [e1, ← eU]
      exact e2
  unfold f_X2_unload
  obtain ⟨s1, ⟨a1, a2⟩, e1⟩ := do_all (f := fun n v s => f_X2_unload_b2 b n (nI c) v s) (N := 4) (I := fun l s => (∀ q, q ≠ 148 → q ≠ 156 → s q = σ q) ∧ ∀ k, k < l → s 156 k = 0) (fin := fun s => f_X2_unload_b25 b fN (nI c) 0 0 s) (by decide) (fun n s hI => by
    show f_X2_unload_b2 b (n + 1) (nI c) (nI 4) s = _
    rw [f_X2_unload_b2, if_pos (show (4 : Int32) ≤ nI 4 from by decide)]) (fun n l s hl hI => by
    refine ⟨fu s 156 l 0, ⟨fun q a x => by rw [fu_cell x]; exact hI.1 q a x, fun k hk => ?_⟩, ?_⟩
    · by_cases hkl : k = l
      · subst hkl; rw [fu_self]
      · rw [fu_slot hkl]; exact hI.2 k (by omega)
    · show f_X2_unload_b2 b (n + 1) (nI c) (nI l) s = f_X2_unload_b2 b n (nI c) (nI (l + 1)) _
      rw [f_X2_unload_b2, if_neg (show ¬ (4 : Int32) ≤ nI l from nI_ge (b := 4) hl (by decide)), fb_x rfl hl (by decide), fL_ok, nI_clamp (by omega), nI_1]) (σ := σ) ⟨fun _ _ _ => rfl, fun k hk => by omega⟩
  obtain ⟨s2, e2, v2, f2⟩ := ports 6 0 fN s1 rfl (by unfold fN; omega) a1 ⟨fun k hk => by rw [a2 k hk]; rfl, fun i hi => absurd hi (Nat.not_lt_zero _)⟩
  exact ⟨s2, e1.trans e2, v2, f2⟩
/-! ===== the reference unloads ===== -/
def UVm (s : fS) (U : aU) : Prop := (∀ l, l < 4 → s 186 l = nI (U.1 l)) ∧ (∀ i, i < U.2.1 → s 185 i = nI (U.2.2 i)) ∧ s 164 27 = nI U.2.1
/-- a state that differs from σ in the reference's unloading alone -/
def UFm (s σ : fS) : Prop := (∀ q, q ≠ 164 → q ≠ 185 → q ≠ 186 → s q = σ q) ∧ ∀ j, j ≠ 27 → s 164 j = σ 164 j
theorem UVm.take {s : fS} {P : aP} {c l : Nat} {U : aU} (h : UVm s U) : UVm (fu (fu (fu s 185 U.2.1 (nI (uV P c l U))) 164 27 (nI (U.2.1 + 1))) 186 l (nI (U.1 l + 1))) (uTk P c l U) := by
  refine ⟨fun k hk => ?_, fun i hi => ?_, ?_⟩
  · show _ = nI (up1 U.1 l (U.1 l + 1) k)
    by_cases hkl : k = l
    · subst hkl; rw [up1_self, fu_self]
    · rw [up1_ne hkl, fu_slot hkl, fu_cell (by decide), fu_cell (by decide)]; exact h.1 k hk
  · have hi : i < U.2.1 + 1 := hi
    show _ = nI (up1 U.2.2 U.2.1 (uV P c l U) i)
    rw [fu_cell (by decide), fu_cell (by decide)]
    by_cases hio : i = U.2.1
    · subst hio; rw [up1_self, fu_self]
    · rw [up1_ne hio, fu_slot hio]; exact h.2.1 i (by omega)
  · show _ = nI (U.2.1 + 1)
    rw [fu_cell (by decide), fu_self]
theorem m_unLane {σ : fS} {P : aP} (hg : GV (σ 165) P) (hok : aOK P) (hL : LVm σ P) (hR : LRt σ P (lA P)) {c l p : Nat} (hc : c < (P.1 2).length) (hl : l < 4) (hp5 : p ≤ 5) (K48 : Int32 → Int32 → Int32 → fS → Option fS) (K57 : Int32 → Int32 → Int32 → Int32 → fS → Option fS) : ∀ f n U s, UFm s σ → UI P c U → UVm s U → ll (lA P) (4 * c + l) - U.1 l < f → f < n → ∃ s', f_X8_tellLeaving_b74 K48 K57 n (nI c) (bI (decide (rmP P c = 1))) (nI p) (nI l) (nI (4 * c + l)) 1 s = K57 (nI c) (bI (decide (rmP P c = 1))) (nI p) (nI (l + 1)) s' ∧ UVm s' (uLn P c p l f U) ∧ UFm s' σ := by
  have z2 : (P.1 2).length ≤ 12 := hok.1 2 (by decide)
  have z3 : (P.1 3).length ≤ 24 := hok.1 3 (by decide)
  have V := VI_A hok
  have h24 := V.ll24 z3 hc hl
  intro f
  induction f with
  | zero => intro n U s _ _ _ h; omega
  | succ f ih =>
    intro n U s hs hU hV hf hn
    obtain ⟨n, rfl⟩ : ∃ m, n = m + 1 := ⟨n - 1, by omega⟩
    have hg' : GV (s 165) P := by rw [hs.1 165 (by decide) (by decide) (by decide)]; exact hg
    have k2 : s 182 (4 * c + l) = nI (ll (lA P) (4 * c + l)) := by rw [hs.1 182 (by decide) (by decide) (by decide)]; exact (hL.2.1 _ (by omega)).2
    have hg := hU.1 l hl
    unfold uLn
    rw [f_X8_tellLeaving_b74, if_neg (by decide), fb_x rfl hl (by decide), fb_x rfl (by omega) (by decide), nI_clamp (n := 4 * c + l) (by omega), nI_clamp (n := l) (by omega), k2, hV.1 l hl]
    by_cases hlt : U.1 l < ll (lA P) (4 * c + l)
    · have hout := (hU.out hok hc).2 hl hlt
      rw [if_neg (nI_ge hlt (by omega))]
      have b136 : ∀ j, j < ll (lA P) (4 * c + l) → lv (lA P) (4 * c + l) j = uV P c l U → ∃ s', f_X8_tellLeaving_b136 K48 K57 (fun v1 v2 v3 v4 v5 v6 σ => f_X8_tellLeaving_b74 K48 K57 n v1 v2 v3 v4 v5 v6 σ) (nI c) (bI (decide (rmP P c = 1))) (nI p) (nI l) (nI (4 * c + l)) (nI j) ((24 : Int32) * nI (4 * c + l)) s = K57 (nI c) (bI (decide (rmP P c = 1))) (nI p) (nI (l + 1)) s' ∧ UVm s' (if uB P c p l U = true then uLn P c p l f (uTk P c l U) else U) ∧ UFm s' σ := fun j hj hvj => by
        have hv := (V.2.2.2.2.1 c l hc hl j hj).1
        have pb := (hok.2.2.2.2.1 _ hv).2.2.2
        have e183 : s 183 (24 * (4 * c + l) + j) = nI (lv (lA P) (4 * c + l) j) := by rw [hs.1 183 (by decide) (by decide) (by decide)]; exact hR _ (by omega) j hj
        unfold f_X8_tellLeaving_b136
        rw [iy24, fb_x rfl (by omega) (by decide), nI_clamp (n := 24 * (4 * c + l) + j) (by omega), e183, mV2 hg' hok.1 hv, fcall_ok]
        rw [hvj] at hv pb ⊢
        unfold f_X8_tellLeaving_b156 f_X8_tellLeaving_b195
        by_cases hpp : tg (P.1 3) (uV P c l U) 2 = p
        · have hbt : uB P c p l U = true := decide_eq_true ⟨hlt, hpp⟩
          rw [if_pos (by rw [hpp]), if_neg (by decide), hV.2.2, fb_x rfl (by omega) (by decide), fL_ok, fL_ok, fb_x rfl hl (by decide), fb_x rfl hl (by decide), fL_ok, nI_clamp (n := U.2.1) (by omega), nI_clamp (n := l) (by omega), fu_cell (a := 164) (c := 185) (by decide), hV.2.2, nI_1, fu_cell (a := 186) (c := 164) (by decide), fu_cell (a := 186) (c := 185) (by decide), hV.1 l hl, nI_1, if_pos hbt]
          have hll : ll (lA P) (4 * c + l) - (uTk P c l U).1 l < f := by
            show ll (lA P) (4 * c + l) - up1 U.1 l (U.1 l + 1) l < f
            rw [up1_self]
            omega
          exact ih n (uTk P c l U) _ ⟨fun q a x y => by rw [fu_cell y, fu_cell a, fu_cell x]; exact hs.1 q a x y, fun j hj => by rw [fu_cell (by decide), fu_slot hj, fu_cell (by decide)]; exact hs.2 j hj⟩ (hU.take hl hbt) hV.take hll (by omega)
        · rw [if_neg (fun e => hpp (nI_inj (by omega) (by omega) e)), if_pos rfl, if_neg (fun e => hpp (of_decide_eq_true e).2)]
          obtain ⟨n, rfl⟩ : ∃ m, n = m + 1 := ⟨n - 1, by omega⟩
          refine ⟨s, ?_, hV, hs⟩
          show f_X8_tellLeaving_b74 K48 K57 (n + 1) (nI c) (bI (decide (rmP P c = 1))) (nI p) (nI l) (nI (4 * c + l)) 0 s = _
          rw [f_X8_tellLeaving_b74, if_pos rfl]
          unfold f_X8_tellLeaving_b198
          rw [nI_1]
      by_cases hr : rmP P c = 1
      · have b136' := b136 (ll (lA P) (4 * c + l) - 1 - U.1 l) (by omega) (by unfold uV; rw [if_pos hr])
        rw [decide_eq_true hr] at b136' ⊢
        rw [if_neg bI_t, fb_x rfl (by omega) (by decide), fb_x rfl hl (by decide), show nI (ll (lA P) (4 * c + l)) - (1 : Int32) = nI (ll (lA P) (4 * c + l) - 1) from nI_sub (b := 1) (by omega), nI_sub (by omega)]
        exact b136'
      · have b136' := b136 (U.1 l) hlt (by unfold uV; rw [if_neg hr])
        rw [decide_eq_false hr] at b136' ⊢
        rw [if_pos bI_f, fb_x rfl hl (by decide)]
        exact b136'
    · rw [if_pos (nI_le (by omega) (by omega)), if_neg (fun e => hlt (of_decide_eq_true e).1)]
      unfold f_X8_tellLeaving_b198
      rw [nI_1]
      exact ⟨s, rfl, hV, hs⟩
theorem m_unLanes {σ : fS} {P : aP} (hg : GV (σ 165) P) (hok : aOK P) (hL : LVm σ P) (hR : LRt σ P (lA P)) {c p : Nat} (hc : c < (P.1 2).length) (hp5 : p ≤ 5) (K48 : Int32 → Int32 → Int32 → fS → Option fS) : ∀ d l n U s, l + d = 4 → d < n → UFm s σ → UI P c U → UVm s U → ∃ s', f_X8_tellLeaving_b57 K48 n (nI c) (bI (decide (rmP P c = 1))) (nI p) (nI l) s = K48 (nI c) (bI (decide (rmP P c = 1))) (nI (p + 1)) s' ∧ UVm s' (uLs P c p d l U) ∧ UFm s' σ := by
  have z3 : (P.1 3).length ≤ 24 := hok.1 3 (by decide)
  intro d
  induction d with
  | zero =>
    intro l n U s hl hn hs hU hV
    obtain ⟨n, rfl⟩ : ∃ m, n = m + 1 := ⟨n - 1, by omega⟩
    have : l = 4 := by omega
    subst this
    rw [f_X8_tellLeaving_b57, if_pos (show (4 : Int32) ≤ nI 4 from by decide), nI_1]
    exact ⟨s, rfl, hV, hs⟩
  | succ d ih =>
    intro l n U s hl hn hs hU hV
    obtain ⟨n, rfl⟩ : ∃ m, n = m + 1 := ⟨n - 1, by omega⟩
    have hl4 : l < 4 := by omega
    have h24 := (VI_A hok).ll24 z3 hc hl4
    obtain ⟨s1, e1, v1, f1⟩ := m_unLane hg hok hL hR (p := p) hc hl4 hp5 K48 (fun v1 v2 v3 v4 σ => f_X8_tellLeaving_b57 K48 n v1 v2 v3 v4 σ) 25 fN U s hs hU hV (by omega) (by unfold fN; omega)
    obtain ⟨s2, e2, v2, f2⟩ := ih (l + 1) n (uLn P c p l 25 U) s1 (by omega) (by omega) f1 (uLn_UI hl4 25 U hU) v1
    refine ⟨s2, ?_, v2, f2⟩
    rw [f_X8_tellLeaving_b57, if_neg (show ¬ (4 : Int32) ≤ nI l from nI_ge (b := 4) hl4 (by decide)), iy4, e1]
    exact e2
theorem m_unload {σ : fS} {P : aP} (hg : GV (σ 165) P) (hok : aOK P) (hL : LVm σ P) (hR : LRt σ P (lA P)) {c : Nat} (hc : c < (P.1 2).length) : ∃ s', f_X8_tellLeaving (nI c) σ = some s' ∧ UVm s' (uAl P c 6) ∧ UFm s' σ := by
  have rb := rmP_b hok hc
  have sc := (hok.2.2.2.1 c hc).2.1
  have ports : ∀ d p n s, p + d = 6 → d < n → UFm s σ → UVm s (uAl P c p) → ∃ s', f_X8_tellLeaving_b48 n (nI c) (bI (decide (rmP P c = 1))) (nI p) s = some s' ∧ UVm s' (uAl P c 6) ∧ UFm s' σ := by
    intro d
    induction d with
    | zero =>
      intro p n s hpd hn hs hV
      obtain ⟨n, rfl⟩ : ∃ m, n = m + 1 := ⟨n - 1, by omega⟩
      have : p = 6 := by omega
      subst this
      rw [f_X8_tellLeaving_b48, if_pos (show (6 : Int32) ≤ nI 6 from by decide)]
      exact ⟨s, rfl, hV, hs⟩
    | succ d ih =>
      intro p n s hpd hn hs hV
      obtain ⟨n, rfl⟩ : ∃ m, n = m + 1 := ⟨n - 1, by omega⟩
      obtain ⟨s1, e1, v1, f1⟩ := m_unLanes hg hok hL hR (p := p) hc (by omega) (fun v1 v2 v3 σ => f_X8_tellLeaving_b48 n v1 v2 v3 σ) 4 0 fN (uAl P c p) s rfl (by unfold fN; omega) hs (uAl_UI p) hV
      obtain ⟨s2, e2, v2, f2⟩ := ih (p + 1) n s1 (by omega) (by omega) f1 v1
      refine ⟨s2, ?_, v2, f2⟩
      rw [f_X8_tellLeaving_b48, if_neg (show ¬ (6 : Int32) ≤ nI p from nI_ge (b := 6) (by omega) (by decide))]
      have e1 : f_X8_tellLeaving_b57 (fun v1 v2 v3 σ => f_X8_tellLeaving_b48 n v1 v2 v3 σ) fN (nI c) (bI (decide (rmP P c = 1))) (nI p) 0 s = _ := e1
      rw [e1]
      exact e2
  have g1 : GV (fu σ 164 27 0 165) P := by rw [fu_cell (by decide)]; exact hg
  unfold f_X8_tellLeaving
  rw [fL_ok, mC1 g1 hok.1 hc, fcall_ok, mB1 g1 hok.1 sc, fcall_ok, show tg (P.1 1) (tg (P.1 2) c 1) 1 = rmP P c from rfl]
  have b25 : (if nI (rmP P c) = (1 : Int32) then f_X8_tellLeaving_b25 (nI c) 1 (fu σ 164 27 0) else f_X8_tellLeaving_b25 (nI c) 0 (fu σ 164 27 0)) = f_X8_tellLeaving_b25 (nI c) (bI (decide (rmP P c = 1))) (fu σ 164 27 0) := by
    by_cases hr : rmP P c = 1
    · rw [if_pos (by rw [hr]; rfl), decide_eq_true hr]; rfl
    · rw [if_neg (show ¬ nI (rmP P c) = (1 : Int32) from fun e => hr (nI_inj (b := 1) (by omega) (by decide) e)), decide_eq_false hr]; rfl
  rw [b25]
  unfold f_X8_tellLeaving_b25
  obtain ⟨s1, ⟨a1, a2, a3⟩, e1⟩ := do_all (f := fun n v s => f_X8_tellLeaving_b28 n (nI c) (bI (decide (rmP P c = 1))) v s) (N := 4) (I := fun l s => UFm s σ ∧ s 164 27 = 0 ∧ ∀ k, k < l → s 186 k = 0) (fin := fun s => f_X8_tellLeaving_b48 fN (nI c) (bI (decide (rmP P c = 1))) 0 s) (by decide) (fun n s hI => by
    show f_X8_tellLeaving_b28 (n + 1) (nI c) (bI (decide (rmP P c = 1))) (nI 4) s = _
    rw [f_X8_tellLeaving_b28, if_pos (show (4 : Int32) ≤ nI 4 from by decide)]) (fun n l s hl hI => by
    refine ⟨fu s 186 l 0, ⟨⟨fun q a x y => by rw [fu_cell y]; exact hI.1.1 q a x y, fun j hj => by rw [fu_cell (by decide)]; exact hI.1.2 j hj⟩, by rw [fu_cell (by decide)]; exact hI.2.1, fun k hk => ?_⟩, ?_⟩
    · by_cases hkl : k = l
      · subst hkl; rw [fu_self]
      · rw [fu_slot hkl]; exact hI.2.2 k (by omega)
    · show f_X8_tellLeaving_b28 (n + 1) (nI c) (bI (decide (rmP P c = 1))) (nI l) s = f_X8_tellLeaving_b28 n (nI c) (bI (decide (rmP P c = 1))) (nI (l + 1)) _
      rw [f_X8_tellLeaving_b28, if_neg (show ¬ (4 : Int32) ≤ nI l from nI_ge (b := 4) hl (by decide)), fb_x rfl hl (by decide), fL_ok, nI_clamp (by omega), nI_1]) (σ := fu σ 164 27 0) ⟨⟨fun q a x y => fu_cell a, fun j hj => fu_slot hj⟩, fu_self _ _ _ _, fun k hk => by omega⟩
  obtain ⟨s2, e2, v2, f2⟩ := ports 6 0 fN s1 rfl (by unfold fN; omega) a1 ⟨fun k hk => by rw [a3 k hk]; rfl, fun i hi => absurd hi (Nat.not_lt_zero _), by rw [a2]; rfl⟩
  exact ⟨s2, e1.trans e2, v2, f2⟩

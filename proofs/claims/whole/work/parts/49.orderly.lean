/-! ===== leaves, isOrderly ===== -/
theorem LI.finU {σ s s3 s4 : fS} (h : LI σ) (h1 : ∀ q, q < 16 ∨ (31 ≤ q ∧ q < 138) ∨ 157 ≤ q → s q = σ q) (h2 : ∀ q, q < 171 ∨ 187 ≤ q → s3 q = s q) (h3 : UFm s4 s3) : LI s4 := (h.fin h1 h2).of (fun c hc h4 => h3.1 c h4 (by unfold scr at hc; omega) (by unfold scr at hc; omega)) (fun j hj => h3.2 j (by omega))
theorem isOut_in {σ : fS} {n i : Nat} (hn : n < 2 ^ 31) (hi : i < n) : f_X7_isOutside (nI i) 0 (nI n - 1) σ = some (0, σ) := by rw [p_isOutside, if_pos ⟨nI_pos' (by omega), le_pred hn hi⟩]
theorem isOut_out {σ : fS} {n : Nat} {x : Int32} (hn : n < 2 ^ 31) (hx : x < 0 ∨ nI n ≤ x) : f_X7_isOutside x 0 (nI n - 1) σ = some (1, σ) := by
  rw [p_isOutside, if_neg]
  rintro ⟨a, b⟩
  rcases hx with q | q
  · exact absurd q (Int32.not_lt.mpr a)
  · exact lt_pred hn q b
theorem st_29 : ∀ (σ : fS) (x1 : Int32) (x2 : Int32), LI σ → ∃ (r : Int32) (σ1 σ2 : fS), f_X7_leaves x1 x2 σ = some (r, σ1) ∧ f_X8_leaves x1 x2 σ1 = some (r, σ2) ∧ LI σ2 := by
  intro σ x1 x2 hLI
  obtain ⟨⟨P, k, F, hPV, hGV, hok, -⟩, -⟩ := id hLI
  have z2 : (P.1 2).length ≤ 12 := hok.1 2 (by decide)
  have nc : σ 6 3 = nI (P.1 2).length := (hPV.1 2 (by decide)).1
  unfold f_X7_leaves f_X8_leaves
  rcases ix_cases x1 (n := (P.1 2).length) (by omega) with ⟨c, hc, rfl⟩ | o
  · obtain ⟨s1, e1, p1, g1, d1, t1, f1⟩ := run1 hPV hGV hok
    obtain ⟨s2, e2, p2, g2, d2, t2, l2, f2⟩ := run2 p1 g1 hok d1 t1
    obtain ⟨s3, e3, v3, f3⟩ := c_unload (b := 1) (by decide) p2 hok l2 hc
    have hs : ∀ q, q < 16 ∨ (31 ≤ q ∧ q < 138) ∨ 157 ≤ q → s3 q = σ q := fun q hq => by rw [f3 q (by omega) (by omega), f2 q (by omega), f1 q (by omega)]
    have g3 : GV (s3 165) P := by rw [hs 165 (by omega)]; exact hGV
    obtain ⟨s4, e4, g4, d4, l4, r4, f4⟩ := run3 g3 hok
    obtain ⟨s5, e5, v5, f5⟩ := m_unload g4 hok l4 r4 hc
    have ho := ((uAl_UI (P := P) (c := c) 6).out (l := 0) hok hc).1
    rw [p_has1 nc (by omega) rfl hc, fcall_ok, if_neg (by decide), e1, fcallv_ok, e2, fcallv_ok, e3, fcall_ok]
    have pre : ∀ s, GV (s 165) P → f_X8_isCrossing (nI c) s = some (1, s) := fun s g => p_isCrossing1 (gn (j := 2) (k := 122) g (by decide) rfl) (by omega) rfl hc
    rcases ix_cases x2 (n := (uAl P c 6).2.1) (by omega) with ⟨i, hi, rfl⟩ | o
    · rw [isOut_in (by omega) hi, fcall_ok, if_pos rfl, fb_x rfl (by omega) (by decide), nI_clamp (by omega), v3.2 i hi]
      refine ⟨_, s3, s5, rfl, ?_, hLI.finU hs (fun q hq => f4 q (by omega)) f5⟩
      rw [pre s3 g3, fcall_ok, if_neg (by decide), e4, fcallv_ok, e5, fcallv_ok, v5.2.2, p_in1 (by omega) rfl hi, fcall_ok, if_neg (by decide), fb_x rfl (by omega) (by decide), v5.2.1 i hi]
    · rw [isOut_out (by omega) o, fcall_ok, if_neg (by decide)]
      refine ⟨_, s3, s5, rfl, ?_, hLI.finU hs (fun q hq => f4 q (by omega)) f5⟩
      rw [pre s3 g3, fcall_ok, if_neg (by decide), e4, fcallv_ok, e5, fcallv_ok, v5.2.2, p_in0 (by omega) o, fcall_ok, if_pos rfl]
  · rw [p_has0 nc o, fcall_ok, if_pos rfl]
    refine ⟨_, σ, σ, rfl, ?_, hLI⟩
    rw [p_isCrossing0 (gn (j := 2) (k := 122) hGV (by decide) rfl) (by omega) o, fcall_ok, if_pos rfl]
def okO (P : aP) (c : Nat) : Bool := decide ((uAl P c 6).2.1 = sumN (gB P c) 0 (P.1 3).length)
def allO (P : aP) : Nat → Nat → Bool
  | _, 0 => true
  | i, d + 1 => okO P i && allO P (i + 1) d
theorem gB_le {P : aP} (hok : aOK P) (c : Nat) : sumN (gB P c) 0 (P.1 3).length ≤ 24 := by
  have z3 : (P.1 3).length ≤ 24 := hok.1 3 (by decide)
  have := sumN_le (g := gB P c) (h := fun _ => 1) (P.1 3).length 0 (fun k _ _ => by unfold gB; split <;> omega)
  rw [sumN_one] at this
  omega
theorem c_isRight {σ : fS} {P : aP} (hp : PV 1 σ P) (hok : aOK P) (hL : LVc σ P) {c : Nat} (hc : c < (P.1 2).length) : ∃ s', f_X2_isRight 1 (nI c) σ = some (bI (okO P c), s') ∧ ∀ q, q ≠ 148 → q ≠ 156 → s' q = σ q := by
  have z3 : (P.1 3).length ≤ 24 := hok.1 3 (by decide)
  have lb := laN_b hok hc
  have ll2 := laL_b hok hc
  have ho := ((uAl_UI (P := P) (c := c) 6).out (l := 0) hok hc).1
  have hb := gB_le hok c
  obtain ⟨s1, e1, v1, f1⟩ := c_unload (b := 1) (by decide) hp hok hL hc
  have p1 : PV 1 s1 P := hp.of (fun q a x => f1 q (by omega) (by omega))
  have l1 : LVc s1 P := hL.of (f1 _ (by decide) (by decide)) (f1 _ (by decide) (by decide)) (f1 _ (by decide) (by decide)) (f1 _ (by decide) (by decide)) (f1 _ (by decide) (by decide)) (f1 _ (by decide) (by decide)) (f1 _ (by decide) (by decide)) (f1 _ (by decide) (by decide))
  have key : ∀ d l n, l + d = laN P c → d < n → f_X2_isRight_b2 1 n (nI c) (nI l) σ = some (bI (okO P c), s1) := by
    intro d
    induction d with
    | zero =>
      intro l n hl hn
      obtain ⟨n, rfl⟩ : ∃ m, n = m + 1 := ⟨n - 1, by omega⟩
      rw [f_X2_isRight_b2, c_laN hp hok hc, fcall_ok, if_pos (nI_le (by omega) (by omega)), e1, fcall_ok, c_countAboard (b := 1) p1 hok l1 c, fcall_ok]
      unfold okO
      by_cases h : (uAl P c 6).2.1 = sumN (gB P c) 0 (P.1 3).length
      · rw [if_pos (by rw [h]), decide_eq_true h]; rfl
      · rw [if_neg (fun e => h (nI_inj (by omega) (by omega) e)), decide_eq_false h]; rfl
    | succ d ih =>
      intro l n hl hn
      obtain ⟨n, rfl⟩ : ∃ m, n = m + 1 := ⟨n - 1, by omega⟩
      have hm := (gIn_ll hok hc (l := l) (by omega)).2
      rw [f_X2_isRight_b2, c_laN hp hok hc, fcall_ok, if_neg (nI_ge (by omega) (by omega)), c_metersIn (b := 1) hp hok hL c l, fcall_ok, c_laL hp hok hc, fcall_ok, if_pos (nI_le hm (by omega)), nI_1]
      exact ih (l + 1) n (by omega) (by omega)
  exact ⟨s1, key (laN P c) 0 fN (Nat.zero_add _) (by unfold fN; omega), f1⟩
theorem c_orderly {σ : fS} {P : aP} (hp : PV 1 σ P) (hok : aOK P) (hL : LVc σ P) : ∀ d i n s, i + d = (P.1 2).length → d < n → (∀ q, q ≠ 148 → q ≠ 156 → s q = σ q) → ∃ s', f_X7_isOrderly_b28 n (nI i) s = some (bI (allO P i d), s') ∧ ∀ q, q ≠ 148 → q ≠ 156 → s' q = σ q := by
  have z2 : (P.1 2).length ≤ 12 := hok.1 2 (by decide)
  intro d
  induction d with
  | zero =>
    intro i n s hi hn hs
    obtain ⟨n, rfl⟩ : ∃ m, n = m + 1 := ⟨n - 1, by omega⟩
    have p1 : PV 1 s P := hp.of (fun q a x => hs q (by omega) (by omega))
    rw [f_X7_isOrderly_b28, show f_X5_size 6 12 4 s = _ from cCn (b := 1) p1, fcall_ok, if_pos (nI_le (by omega) (by omega))]
    exact ⟨s, rfl, hs⟩
  | succ d ih =>
    intro i n s hi hn hs
    obtain ⟨n, rfl⟩ : ∃ m, n = m + 1 := ⟨n - 1, by omega⟩
    have p1 : PV 1 s P := hp.of (fun q a x => hs q (by omega) (by omega))
    have l1 : LVc s P := hL.of (hs _ (by decide) (by decide)) (hs _ (by decide) (by decide)) (hs _ (by decide) (by decide)) (hs _ (by decide) (by decide)) (hs _ (by decide) (by decide)) (hs _ (by decide) (by decide)) (hs _ (by decide) (by decide)) (hs _ (by decide) (by decide))
    obtain ⟨s1, e1, f1⟩ := c_isRight p1 hok l1 (c := i) (by omega)
    have hs1 : ∀ q, q ≠ 148 → q ≠ 156 → s1 q = σ q := fun q a x => by rw [f1 q a x]; exact hs q a x
    rw [f_X7_isOrderly_b28, show f_X5_size 6 12 4 s = _ from cCn (b := 1) p1, fcall_ok, if_neg (nI_ge (by omega) (by omega)), e1, fcall_ok]
    unfold allO
    cases okO P i with
    | false => rw [if_pos bI_f]; exact ⟨s1, rfl, hs1⟩
    | true => rw [if_neg bI_t, nI_1]; exact ih (i + 1) n s1 (by omega) (by omega) hs1
theorem m_lanes0 {s : fS} {P : aP} (hok : aOK P) (hL : LVm s P) {c : Nat} (hc : c < (P.1 2).length) (K : Int32 → Int32 → fS → Option (Int32 × fS)) (t : Bool) : ∀ d l n, l + d = 4 → d < n → f_X8_isOrderly_b48 K n (bI t) (nI c) (nI l) s = K (bI t) (nI (c + 1)) s := by
  have z2 : (P.1 2).length ≤ 12 := hok.1 2 (by decide)
  intro d
  induction d with
  | zero =>
    intro l n hl hn
    obtain ⟨n, rfl⟩ : ∃ m, n = m + 1 := ⟨n - 1, by omega⟩
    have : l = 4 := by omega
    subst this
    rw [f_X8_isOrderly_b48, if_pos (show (4 : Int32) ≤ nI 4 from by decide), nI_1]
  | succ d ih =>
    intro l n hl hn
    obtain ⟨n, rfl⟩ : ∃ m, n = m + 1 := ⟨n - 1, by omega⟩
    have hl4 : l < 4 := by omega
    have hlf := (VI_A hok).lf200 hok hc hl4
    have ih' := ih (l + 1) n (by omega) (by omega)
    rw [f_X8_isOrderly_b48, if_neg (show ¬ (4 : Int32) ≤ nI l from nI_ge (b := 4) hl4 (by decide))]
    unfold f_X8_isOrderly_b74 f_X8_isOrderly_b75
    cases t with
    | false => rw [if_pos bI_f, nI_1]; exact ih'
    | true => rw [if_neg bI_t, iy4, fb_x rfl (by omega) (by decide), nI_clamp (by omega), (hL.2.1 _ (by omega)).1, if_neg (nI_pos (by omega)), nI_1]; exact ih'
theorem UFm.trans {a b c : fS} (h1 : UFm a b) (h2 : UFm b c) : UFm a c := ⟨fun q x y z => by rw [h1.1 q x y z]; exact h2.1 q x y z, fun j hj => by rw [h1.2 j hj]; exact h2.2 j hj⟩
theorem m_orderly {σ : fS} {P : aP} (hg : GV (σ 165) P) (hok : aOK P) (hL : LVm σ P) (hR : LRt σ P (lA P)) : ∀ d i n t s, i + d = (P.1 2).length → d < n → UFm s σ → ∃ s', f_X8_isOrderly_b8 n (bI t) (nI i) s = some (bI (t && allO P i d), s') ∧ UFm s' σ := by
  have z2 : (P.1 2).length ≤ 12 := hok.1 2 (by decide)
  intro d
  induction d with
  | zero =>
    intro i n t s hi hn hs
    obtain ⟨n, rfl⟩ : ∃ m, n = m + 1 := ⟨n - 1, by omega⟩
    have g1 : GV (s 165) P := by rw [hs.1 165 (by decide) (by decide) (by decide)]; exact hg
    rw [f_X8_isOrderly_b8, fb122, mCn g1, if_pos (nI_le (by omega) (by omega))]
    cases t with
    | false => rw [if_pos bI_f]; exact ⟨s, rfl, hs⟩
    | true => rw [if_neg bI_t]; exact ⟨s, rfl, hs⟩
  | succ d ih =>
    intro i n t s hi hn hs
    obtain ⟨n, rfl⟩ : ∃ m, n = m + 1 := ⟨n - 1, by omega⟩
    have hc : i < (P.1 2).length := by omega
    have g1 : GV (s 165) P := by rw [hs.1 165 (by decide) (by decide) (by decide)]; exact hg
    have lof : ∀ s, UFm s σ → LVm s P := fun s hs => hL.of (hs.1 _ (by decide) (by decide) (by decide)) (hs.1 _ (by decide) (by decide) (by decide)) (hs.1 _ (by decide) (by decide) (by decide)) (hs.1 _ (by decide) (by decide) (by decide)) (hs.1 _ (by decide) (by decide) (by decide)) (hs.1 _ (by decide) (by decide) (by decide)) (hs.1 _ (by decide) (by decide) (by decide)) (hs.1 _ (by decide) (by decide) (by decide))
    have r1 : LRt s P (lA P) := fun k hk i hi => by rw [hs.1 183 (by decide) (by decide) (by decide)]; exact hR k hk i hi
    obtain ⟨s1, e1, v1, f1⟩ := m_unload g1 hok (lof s hs) r1 hc
    have hs1 := f1.trans hs
    have g2 : GV (s1 165) P := by rw [hs1.1 165 (by decide) (by decide) (by decide)]; exact hg
    have ho := ((uAl_UI (P := P) (c := i) 6).out (l := 0) hok hc).1
    have hb := gB_le hok i
    have b45 : ∀ t' : Bool, ∃ s', f_X8_isOrderly_b45 (fun v1 v2 σ => f_X8_isOrderly_b8 n v1 v2 σ) (nI i) (bI t') s1 = some (bI (t' && allO P (i + 1) d), s') ∧ UFm s' σ := fun t' => by
      unfold f_X8_isOrderly_b45
      have e := m_lanes0 hok (lof s1 hs1) hc (fun v1 v2 σ => f_X8_isOrderly_b8 n v1 v2 σ) t' 4 0 fN rfl (by unfold fN; omega)
      have e : f_X8_isOrderly_b48 (fun v1 v2 σ => f_X8_isOrderly_b8 n v1 v2 σ) fN (bI t') (nI i) 0 s1 = _ := e
      rw [e]
      exact ih (i + 1) n t' s1 (by omega) (by omega) hs1
    rw [f_X8_isOrderly_b8, fb122, mCn g1, if_neg (nI_ge hc (by omega)), e1, fcallv_ok]
    unfold f_X8_isOrderly_b44 allO
    cases t with
    | false =>
      rw [if_pos bI_f]
      exact b45 false
    | true =>
      rw [if_neg bI_t, m_loaded g2 hok (lof s1 hs1) i, fcall_ok, v1.2.2]
      unfold okO
      by_cases h : (uAl P i 6).2.1 = sumN (gB P i) 0 (P.1 3).length
      · rw [if_pos (by rw [h]), decide_eq_true h]
        exact b45 true
      · rw [if_neg (fun e => h (nI_inj (by omega) (by omega) e)), decide_eq_false h]
        exact b45 false
theorem st_30 : ∀ (σ : fS), LI σ → ∃ (r : Int32) (σ1 σ2 : fS), f_X7_isOrderly σ = some (r, σ1) ∧ f_X8_isOrderly σ1 = some (r, σ2) ∧ LI σ2 := by
  intro σ hLI
  obtain ⟨⟨P, k, F, hPV, hGV, hok, -⟩, -⟩ := id hLI
  have z2 : (P.1 2).length ≤ 12 := hok.1 2 (by decide)
  obtain ⟨s1, e1, p1, g1, d1, t1, f1⟩ := run1 hPV hGV hok
  obtain ⟨s2, e2, p2, g2, d2, t2, l2, f2⟩ := run2 p1 g1 hok d1 t1
  obtain ⟨s3, e3, f3⟩ := c_orderly p2 hok l2 (P.1 2).length 0 fN s2 (Nat.zero_add _) (by unfold fN; omega) (fun _ _ _ => rfl)
  have hs : ∀ q, q < 16 ∨ (31 ≤ q ∧ q < 138) ∨ 157 ≤ q → s3 q = σ q := fun q hq => by rw [f3 q (by omega) (by omega), f2 q (by omega), f1 q (by omega)]
  have g3 : GV (s3 165) P := by rw [hs 165 (by omega)]; exact hGV
  obtain ⟨s4, e4, g4, d4, l4, r4, f4⟩ := run3 g3 hok
  obtain ⟨s5, e5, f5⟩ := m_orderly g4 hok l4 r4 (P.1 2).length 0 fN true s4 (Nat.zero_add _) (by unfold fN; omega) ⟨fun _ _ _ _ => rfl, fun _ _ => rfl⟩
  unfold f_X7_isOrderly f_X8_isOrderly
  rw [e1, fcallv_ok, e2, fcallv_ok]
  refine ⟨_, s3, s5, e3, ?_, hLI.finU hs (fun q hq => f4 q (by omega)) f5⟩
  rw [e4, fcallv_ok]
  exact e5

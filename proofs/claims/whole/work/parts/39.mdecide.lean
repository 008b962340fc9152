/-! ===== the reference's decisions ===== -/
theorem m_decides {σ : fS} {P : aP} {D : aD} (hg : GV (σ 165) P) (hok : aOK P) (hr : ∀ q, D.1 q ≤ 4) (hl : ∀ q, D.2.2 q ≤ 2810) (hO : OV σ 172 171 P (P.1 2).length) {p : Nat} (hpl : p < (P.1 2).length) (hD : DV σ 173 174 175 P D p) : ∃ σ', f_X8_decides (nI (ord P p)) σ = some σ' ∧ (∀ q, q ≠ 173 → q ≠ 174 → q ≠ 175 → σ' q = σ q) ∧ (∀ q, q ≠ ord P p → σ' 173 q = σ 173 q ∧ σ' 174 q = σ 174 q ∧ σ' 175 q = σ 175 q) ∧ σ' 173 (ord P p) = nI (whyF P D (ord P p)).1 ∧ σ' 174 (ord P p) = (whyF P D (ord P p)).2 ∧ σ' 175 (ord P p) = nI (dlF P (up1 D.1 (ord P p) (whyF P D (ord P p)).1) (ord P p) (P.1 4).length) := by
  have z2 : (P.1 2).length ≤ 12 := hok.1 2 (by decide)
  obtain ⟨hc, hpc⟩ := pos_ord hpl
  have dc := okD hok hc
  have sc := hok.2.2.2.1 _ hc
  have hne : ∀ n, n < p → ord P n ≠ ord P p := fun n hn e => by
    have := ord_inj (by omega) hpl e
    omega
  have fin : ∀ t : fS, (∀ q, q ≠ 173 → q ≠ 174 → q ≠ 175 → t q = σ q) → (∀ q, q ≠ ord P p → t 173 q = σ 173 q ∧ t 174 q = σ 174 q ∧ t 175 q = σ 175 q) → t 173 (ord P p) = nI (whyF P D (ord P p)).1 → t 174 (ord P p) = (whyF P D (ord P p)).2 → t 175 (ord P p) = 0 → ∃ σ', f_X8_decides_b158 (nI (ord P p)) t = some σ' ∧ (∀ q, q ≠ 173 → q ≠ 174 → q ≠ 175 → σ' q = σ q) ∧ (∀ q, q ≠ ord P p → σ' 173 q = σ 173 q ∧ σ' 174 q = σ 174 q ∧ σ' 175 q = σ 175 q) ∧ σ' 173 (ord P p) = nI (whyF P D (ord P p)).1 ∧ σ' 174 (ord P p) = (whyF P D (ord P p)).2 ∧ σ' 175 (ord P p) = nI (dlF P (up1 D.1 (ord P p) (whyF P D (ord P p)).1) (ord P p) (P.1 4).length) := fun t t1 t2 t3 t4 t5 => by
    obtain ⟨s, e, g1, g2, g3⟩ := m_late (σ := t) (P := P) (rs := up1 D.1 (ord P p) (whyF P D (ord P p)).1) (by rw [t1 165 (by decide) (by decide) (by decide)]; exact hg) hok hc (by rw [up1_self]; exact why_le _ _ _) (by rw [up1_self]; exact t3) t5
    refine ⟨s, e, fun q a b d => by rw [g1 q d]; exact t1 q a b d, fun q hq => ⟨by rw [g1 173 (by decide)]; exact (t2 q hq).1, by rw [g1 174 (by decide)]; exact (t2 q hq).2.1, by rw [g2 q hq]; exact (t2 q hq).2.2⟩, by rw [g1 173 (by decide)]; exact t3, by rw [g1 174 (by decide)]; exact t4, g3⟩
  have s3f : ∀ q, q ≠ 173 → q ≠ 174 → q ≠ 175 → fu (fu (fu σ 175 (ord P p) 0) 173 (ord P p) 0) 174 (ord P p) (-10004) q = σ q := fun q a b d => by rw [fu_cell b, fu_cell a, fu_cell d]
  have s3g : GV (fu (fu (fu σ 175 (ord P p) 0) 173 (ord P p) 0) 174 (ord P p) (-10004) 165) P := by rw [s3f 165 (by decide) (by decide) (by decide)]; exact hg
  have s3n : ∀ q, q ≠ ord P p → fu (fu (fu σ 175 (ord P p) 0) 173 (ord P p) 0) 174 (ord P p) (-10004) 173 q = σ 173 q ∧ fu (fu (fu σ 175 (ord P p) 0) 173 (ord P p) 0) 174 (ord P p) (-10004) 174 q = σ 174 q ∧ fu (fu (fu σ 175 (ord P p) 0) 173 (ord P p) 0) 174 (ord P p) (-10004) 175 q = σ 175 q := fun q hq => ⟨by rw [fu_slot hq, fu_slot hq, fu_slot hq], by rw [fu_slot hq, fu_slot hq, fu_slot hq], by rw [fu_slot hq, fu_slot hq, fu_slot hq]⟩
  have s3a : fu (fu (fu σ 175 (ord P p) 0) 173 (ord P p) 0) 174 (ord P p) (-10004) 173 (ord P p) = 0 := by rw [fu_cell (by decide), fu_self]
  have s3b : fu (fu (fu σ 175 (ord P p) 0) 173 (ord P p) 0) 174 (ord P p) (-10004) 174 (ord P p) = -10004 := fu_self _ _ _ _
  have s3c : fu (fu (fu σ 175 (ord P p) 0) 173 (ord P p) 0) 174 (ord P p) (-10004) 175 (ord P p) = 0 := by rw [fu_cell (by decide), fu_cell (by decide), fu_self]
  have s3D : DV (fu (fu (fu σ 175 (ord P p) 0) 173 (ord P p) 0) 174 (ord P p) (-10004)) 173 174 175 P D p := hD.of (fun n hn => (s3n _ (hne n hn)).1) (fun n hn => (s3n _ (hne n hn)).2.1) (fun n hn => (s3n _ (hne n hn)).2.2)
  have s3O : OV (fu (fu (fu σ 175 (ord P p) 0) 173 (ord P p) 0) 174 (ord P p) (-10004)) 172 171 P (P.1 2).length := hO.of (s3f 172 (by decide) (by decide) (by decide)) (s3f 171 (by decide) (by decide) (by decide))
  unfold f_X8_decides
  rw [fb_x rfl (by omega) (by decide), fL_ok, fb_x rfl (by omega) (by decide), fL_ok, fb_x rfl (by omega) (by decide), fL_ok, nI_clamp (by omega)]
  generalize fu (fu (fu σ 175 (ord P p) 0) 173 (ord P p) 0) 174 (ord P p) (-10004) = s3 at *
  have two : ∀ (r : Nat) (v : Int32), whyF P D (ord P p) = (r, v) → ∃ σ', f_X8_decides_b158 (nI (ord P p)) (fu (fu s3 173 (ord P p) (nI r)) 174 (ord P p) v) = some σ' ∧ (∀ q, q ≠ 173 → q ≠ 174 → q ≠ 175 → σ' q = σ q) ∧ (∀ q, q ≠ ord P p → σ' 173 q = σ 173 q ∧ σ' 174 q = σ 174 q ∧ σ' 175 q = σ 175 q) ∧ σ' 173 (ord P p) = nI (whyF P D (ord P p)).1 ∧ σ' 174 (ord P p) = (whyF P D (ord P p)).2 ∧ σ' 175 (ord P p) = nI (dlF P (up1 D.1 (ord P p) (whyF P D (ord P p)).1) (ord P p) (P.1 4).length) := fun r v hw => by
    refine fin _ (fun q a b d => by rw [fu_cell b, fu_cell a]; exact s3f q a b d) (fun q hq => ⟨by rw [fu_slot hq, fu_slot hq]; exact (s3n q hq).1, by rw [fu_slot hq, fu_slot hq]; exact (s3n q hq).2.1, by rw [fu_slot hq, fu_slot hq]; exact (s3n q hq).2.2⟩) (by rw [fu_cell (by decide), fu_self, hw]) (by rw [fu_self, hw]) (by rw [fu_cell (by decide), fu_cell (by decide)]; exact s3c)
  rw [m_shallow s3g hok hc, fcall_ok, m_way s3g hok hr hl s3O hpl s3D (show (1 : Int32) = nI 1 from rfl) (by decide), fcall_ok, m_way s3g hok hr hl s3O hpl s3D (show (0 : Int32) = nI 0 from rfl) (by decide), fcall_ok, mC0 s3g hok.1 hc, fcall_ok, mC3 s3g hok.1 hc, fcall_ok, m_calm s3g hok sc.1 (by omega), fcall_ok]
  cases h1 : calmB P (tg (P.1 2) (ord P p) 0) (tg (P.1 2) (ord P p) 3) with
  | false =>
    have g' : GV (fu s3 173 (ord P p) 1 165) P := by rw [fu_cell (by decide)]; exact s3g
    have e49 : (49 : Int32) + nI (tg (P.1 2) (ord P p) 3 / 60) = nI (49 + tg (P.1 2) (ord P p) 3 / 60) := nI_add 49 _
    rw [if_pos bI_f, fb_x rfl (by omega) (by decide), fL_ok, mC3 g' hok.1 hc, fcall_ok, nI_div60 (by omega), e49, fb_x rfl (by omega) (by decide), fb_x rfl (by omega) (by decide), fL_ok, nI_clamp (by omega), g'.2.2.1 _ (by omega)]
    exact two 1 _ (by unfold whyF; rw [h1]; rfl)
  | true =>
    rw [if_neg bI_t]
    cases h2 : shF P (ord P p) with
    | some t =>
      have ht : t < 2 ^ 31 := by
        obtain ⟨-, a, -⟩ := fstI_some _ _ _ h2
        omega
      rw [show orI (-1) nI (some t) = nI t from rfl, if_neg (nI_pos ht), fb_x rfl (by omega) (by decide), fL_ok, fb_x rfl (by omega) (by decide), fL_ok]
      exact two 2 _ (by unfold whyF; rw [h1, h2]; rfl)
    | none =>
      rw [show orI (-1) nI none = -1 from rfl, if_pos (by decide)]
      cases h3 : blF P D (ord P p) 1 with
      | some n =>
        have hn : ord P n < 2 ^ 31 := by
          obtain ⟨-, a, -⟩ := fstI_some _ _ _ h3
          have := (pos_ord (P := P) (n := n) (by omega)).1
          omega
        rw [show orI (-1) (fun n => nI (ord P n)) (some n) = nI (ord P n) from rfl, if_neg (nI_pos hn), fb_x rfl (by omega) (by decide), fL_ok, fb_x rfl (by omega) (by decide), fL_ok]
        exact two 3 _ (by unfold whyF; rw [h1, h2, h3]; rfl)
      | none =>
        rw [show orI (-1) (fun n => nI (ord P n)) none = -1 from rfl, if_pos (by decide)]
        cases h4 : blF P D (ord P p) 0 with
        | some n =>
          have hn : ord P n < 2 ^ 31 := by
            obtain ⟨-, a, -⟩ := fstI_some _ _ _ h4
            have := (pos_ord (P := P) (n := n) (by omega)).1
            omega
          rw [show orI (-1) (fun n => nI (ord P n)) (some n) = nI (ord P n) from rfl, if_neg (nI_pos hn), fb_x rfl (by omega) (by decide), fL_ok, fb_x rfl (by omega) (by decide), fL_ok]
          exact two 4 _ (by unfold whyF; rw [h1, h2, h3, h4]; rfl)
        | none =>
          rw [show orI (-1) (fun n => nI (ord P n)) none = -1 from rfl, if_pos (by decide)]
          have hw : whyF P D (ord P p) = (0, -10004) := by unfold whyF; rw [h1, h2, h3, h4]; rfl
          exact fin s3 s3f s3n (by rw [hw]; exact s3a) (by rw [hw]; exact s3b) s3c
/-- the reference's tell, as far as decisions go -/
theorem m_decided {σ : fS} {P : aP} (hg : GV (σ 165) P) (hok : aOK P) : ∃ σ', f_X8_tell σ = f_X8_tell_b35 fN 0 σ' ∧ (∀ c, c < 171 ∨ 176 ≤ c → σ' c = σ c) ∧ DC σ' 172 171 173 174 175 P := by
  have z2 : (P.1 2).length ≤ 12 := hok.1 2 (by decide)
  obtain ⟨s0, e0, f0, hO⟩ := m_order hg hok
  unfold f_X8_tell
  rw [e0, fcallv_ok]
  obtain ⟨s, ⟨h1, h2⟩, e⟩ := do_all (f := fun n v s => f_X8_tell_b6 n v s) (N := (P.1 2).length) (I := fun p s => (∀ c, c ≠ 173 → c ≠ 174 → c ≠ 175 → s c = s0 c) ∧ DV s 173 174 175 P (dPl P p) p) (fin := fun s => f_X8_tell_b35 fN 0 s) (by omega) (fun n s hI => by
    have hg' : GV (s 165) P := by rw [hI.1 165 (by decide) (by decide) (by decide), f0 165 (by decide) (by decide)]; exact hg
    show f_X8_tell_b6 (n + 1) (nI (P.1 2).length) s = _
    rw [f_X8_tell_b6, fb122, mCn hg', if_pos (nI_le (Nat.le_refl _) (by omega))]) (fun n p s hpl hI => by
    obtain ⟨i1, i2⟩ := hI
    have hg' : GV (s 165) P := by rw [i1 165 (by decide) (by decide) (by decide), f0 165 (by decide) (by decide)]; exact hg
    have hO' : OV s 172 171 P (P.1 2).length := hO.of (i1 172 (by decide) (by decide) (by decide)) (i1 171 (by decide) (by decide) (by decide))
    obtain ⟨s2, e2, g1, g2, g3, g4, g5⟩ := m_decides hg' hok (rs_le P p) (dl_le hok p) hO' hpl i2
    refine ⟨s2, ⟨fun c a b d => by rw [g1 c a b d]; exact i1 c a b d, i2.step hpl g2 g3 g4 g5⟩, ?_⟩
    show f_X8_tell_b6 (n + 1) (nI p) s = f_X8_tell_b6 n (nI (p + 1)) s2
    rw [f_X8_tell_b6, fb122, mCn hg', if_neg (nI_ge hpl (by omega)), fb_x rfl (by omega) (by decide), nI_clamp (by omega), hO'.ord hpl, e2, fcallv_ok, nI_1]) (σ := s0) ⟨fun _ _ _ _ => rfl, fun n hn => by omega⟩
  exact ⟨s, e, fun c hc => by rw [h1 c (by omega) (by omega) (by omega), f0 c (by omega) (by omega)], DC.mk (hO.of (h1 172 (by decide) (by decide) (by decide)) (h1 171 (by decide) (by decide) (by decide))) h2⟩

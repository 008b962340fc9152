/-! ===== read ===== -/
theorem st_11 : ∀ (σ : fS), LI σ → ∃ (r : Int32) (σ1 σ2 : fS), f_X7_read σ = some (r, σ1) ∧ f_X8_read σ1 = some (r, σ2) ∧ LI σ2 := by
  intro σ hLI
  have hLI0 := hLI
  obtain ⟨⟨P, k, F, hPV, hGV, hok, hHC, hHM, hF⟩, hSI, ⟨L, hL, x7, x4, hx, hf⟩, hZI⟩ := hLI
  obtain ⟨tx, htx⟩ : ∃ tx : Nat → Nat, ∀ i, i < L → σ 158 i = nI (tx i) ∧ tx i ≤ 126 := ⟨fun i => (σ 158 i).toNatClampNeg, fun i hi => by
    obtain ⟨-, c, a, b, d⟩ := hx i hi
    show σ 158 i = nI (σ 158 i).toNatClampNeg ∧ (σ 158 i).toNatClampNeg ≤ 126
    rw [a, nI_clamp (by omega)]
    exact ⟨rfl, d⟩⟩
  have hb : ∀ i, i < L → tx i ≤ 126 := fun i hi => (htx i hi).2
  have hT9 : ∀ i, i < L → σ 169 i = nI (tx i) := fun i hi => by rw [← (hx i hi).1]; exact (htx i hi).1
  obtain ⟨s1, e1, f1, g1⟩ := p_pcopy (b0 := 16) (b1 := 1) hPV hok.1 (Or.inr (by decide))
  have hTc : TXc s1 tx L := ⟨by rw [f1 157 (by omega)]; exact x7, fun i hi => by rw [f1 158 (by omega)]; exact (htx i hi).1⟩
  obtain ⟨r, s2, e2, f2, hbad, hgood⟩ := c_seq hTc hL hb 12 0 fN (fu (fu s1 159 3 0) 157 4 0) rfl (by unfold fN; decide) (Nat.zero_le _) ⟨fun q x y z => by rw [fu_cell x, fu_cell y], fun j hj => by rw [fu_slot hj, fu_cell (by decide)]⟩ (by rw [fu_self]; rfl) (by rw [fu_cell (by decide), fu_self]; rfl) (fun j hj => absurd hj (Nat.not_lt_zero _))
  have eF : f_X6_findEntries s1 = some (r, s2) := by
    unfold f_X6_findEntries f_X5_clearRows
    rw [fL_ok, fcallv_ok, fL_ok, show (0 : Int32) = nI 0 from rfl]
    exact e2
  have t1 : fu (fu s2 157 1 r) 157 0 0 157 1 = r := by rw [fu_slot (by decide), fu_self]
  have t0 : fu (fu s2 157 1 r) 157 0 0 157 0 = 0 := fu_self _ _ _ _
  have tF : ∀ c, c ≠ 157 → c ≠ 159 → c ≠ 160 → fu (fu s2 157 1 r) 157 0 0 c = s1 c := fun c x y z => by rw [fu_cell x, fu_cell x]; exact f2.1 c x y z
  have t59 : ∀ c, c ≠ 157 → fu (fu s2 157 1 r) 157 0 0 c = s2 c := fun c x => by rw [fu_cell x, fu_cell x]
  have eM : f_X6_makeEntries 1 s1 = if r = (-10004 : Int32) then f_X6_makeEntries_b29 1 fN ((0 : Int32)) (fu (fu s2 157 1 r) 157 0 0) else some ((-10002 : Int32), fu (fu s2 157 1 r) 157 0 0) := by
    unfold f_X6_makeEntries
    rw [eF, fcall_ok, fL_ok, fL_ok, t1]
  generalize fu (fu s2 157 1 r) 157 0 0 = t at t1 t0 tF t59 eM
  have eR : f_X7_read σ = fcall (f_X6_makeEntries 1 s1) (fun r2_ σ2 => (if r2_ = (-10005 : Int32) then fcallv (f_X3_copyFrom 1 16 σ2) (fun σ3 => f_X7_read_b41 (r2_) σ3) else f_X7_read_b41 (r2_) σ2)) := by
    unfold f_X7_read
    rw [e1, fcallv_ok]
  have sq0 : stF tx L 0 = 0 := rfl
  rw [sq0] at hbad hgood
  -- the reference begins
  have ref : ∀ u : fS, u 164 = σ 164 → u 169 = σ 169 → ((sqF tx L 12 0).1 = false → ∃ s' : fS, f_X8_read u = f_X8_read_b46 s' ∧ FM s' u ∧ s' 164 9 = nI (sqF tx L 12 0).2) ∧ ((sqF tx L 12 0).1 = true → ∃ s' : fS, f_X8_read u = fcallv (f_X8_remembers s') (fun σ1 => fL (fu σ1 164 9 (0 : Int32)) (fun σ2 => f_X8_read_b74 fN ((0 : Int32)) σ2)) ∧ FM s' u) := fun u u4 u9 => by
    have e0 : f_X8_read u = fcall (f_X8_readsEntry (fu u 164 9 0)) (fun r2_ σ2 => f_X8_read_b10 fN r2_ σ2) := by
      unfold f_X8_read
      rw [fL_ok]
    rw [e0]
    exact m_seq (σ := u) ⟨by rw [u4]; exact x4, by rw [u9]; exact hT9⟩ hL hb 12 0 fN 0 (fu u 164 9 0) rfl (by unfold fN; decide) (by decide) (Nat.zero_le _) FM.rfl'.at (by rw [fu_self]; rfl)
  by_cases hq : (sqF tx L 12 0).1 = true
  · obtain ⟨hr, m, hSQ, s3m, hrow⟩ := hgood hq
    have hm12 := hSQ.2.1
    rw [if_pos hr] at eM
    obtain ⟨bad, q, P', ok', hc, hm⟩ := ap_all hL hb hSQ m 0 P (by omega) hok
    obtain ⟨s3, e3, g3, f3, f3a, f3b⟩ := hc t (hPV.of (fun c a b => by rw [tF c (by omega) (by omega) (by omega), f1 c (by omega)])) (by rw [t59 159 (by decide)]; exact s3m) (fun i hi => by unfold ROW; rw [t59 160 (by decide)]; exact hrow i hi) fN (by unfold fN; omega)
    rw [show (0 : Int32) = nI 0 from rfl, e3] at eM
    have s31 : ∀ c, (c = 0 ∨ 16 ≤ c) → c ≠ 157 → c ≠ 159 → c ≠ 160 → s3 c = s1 c := fun c a x y z => by rw [f3 c (by omega) x, tF c x y z]
    have s16 : PV 16 s3 P := g1.of (fun c a b => s31 c (by omega) (by omega) (by omega) (by omega))
    -- the reference makes
    have mk : ∀ u : fS, u 164 = σ 164 → u 169 = σ 169 → u 165 = σ 165 → ∃ s6 : fS, (∀ c, c ≠ 164 → c ≠ 165 → c ≠ 166 → c ≠ 170 → s6 c = u c) ∧ (∀ j, j ≠ 9 → j ≠ 10 → s6 164 j = σ 164 j) ∧ (∀ i, i < 277 → s6 166 i = σ 165 i) ∧ GV (s6 165) P' ∧ f_X8_read u = if bad = true then fcallv (f_X8_brings s6) (fun σ8 => fL (fu σ8 164 8 (nI q)) (fun σ9 => fL (fu σ9 164 7 (0 : Int32)) (fun σ10 => some ((-10005 : Int32), σ10)))) else fL (fu s6 164 8 (-10004 : Int32)) (fun σ1 => fL (fu σ1 164 7 (0 : Int32)) (fun σ2 => fcall (f_X8_kept (nI m) σ2) (fun r3_ σ3 => some (r3_, σ3)))) := fun u u4 u9 u5 => by
      obtain ⟨s', e', h'⟩ := (ref u u4 u9).2 hq
      obtain ⟨s5, e5, f5, g5⟩ := p_remembers s'
      obtain ⟨s6, h6, g6, e6⟩ := hm (fu s5 164 9 0) (by rw [fu_cell (by decide), f5 165 (by decide), h'.1 165 (by decide) (by decide), u5]; exact hGV) ⟨by rw [fu_slot (by decide), f5 164 (by decide), h'.2 7 (by decide) (by decide), u4]; exact x4, by rw [fu_cell (by decide), f5 169 (by decide), h'.1 169 (by decide) (by decide), u9]; exact hT9⟩ (by rw [fu_self, if_pos hSQ.1]; rfl) fN (by unfold fN; omega)
      refine ⟨s6, fun c x y z w => by rw [h6.1 c x y w, fu_cell x, f5 c z, h'.1 c x w], fun j x y => by rw [h6.2 j x y, fu_slot x, f5 164 (by decide), h'.2 j x y, u4], fun i hi => by rw [h6.1 166 (by decide) (by decide) (by decide), fu_cell (by decide), g5 i hi, h'.1 165 (by decide) (by decide), u5], g6, ?_⟩
      rw [e', e5, fcallv_ok, fL_ok]
      exact e6
    cases bad with
    | true =>
      obtain ⟨s4, e4, f4, g4⟩ := p_pcopy (b0 := 1) (b1 := 16) s16 hok.1 (Or.inl (by decide))
      have hs4 : ∀ c, (c = 0 ∨ 31 ≤ c) → c ≠ 157 → c ≠ 159 → c ≠ 160 → s4 c = σ c := fun c a x y z => by rw [f4 c (by omega), s31 c (by omega) x y z, f1 c (by omega)]
      obtain ⟨s6, h6, h6j, h66, -, e6⟩ := mk s4 (hs4 164 (by omega) (by decide) (by decide) (by decide)) (hs4 169 (by omega) (by decide) (by decide) (by decide)) (hs4 165 (by omega) (by decide) (by decide) (by decide))
      obtain ⟨s7, e7, f7, g7⟩ := p_brings s6
      rw [if_pos rfl, e7, fcallv_ok, fL_ok, fL_ok] at e6
      refine ⟨-10005, s4, fu (fu s7 164 8 (nI q)) 164 7 0, ?_, e6, ?_⟩
      · rw [eR, eM, fcall_ok, if_pos rfl, if_pos rfl, e4, fcallv_ok]
        unfold f_X7_read_b41
        rw [p_notedE (by unfold isE; decide), fcall_ok]
      · have w : ∀ c, c ≠ 164 → c ≠ 165 → c ≠ 166 → c ≠ 170 → fu (fu s7 164 8 (nI q)) 164 7 0 c = s4 c := fun c x y z v => by rw [fu_cell x, fu_cell x, f7 c y, h6 c x y z v]
        have w4 : ∀ j, j ≠ 7 → j ≠ 8 → j ≠ 9 → j ≠ 10 → fu (fu s7 164 8 (nI q)) 164 7 0 164 j = σ 164 j := fun j a b x y => by rw [fu_slot a, fu_slot b, f7 164 (by decide), h6j j x y]
        refine LI_re (P := P) (k := k) (F := F) hSI hZI (g4.of (fun c a b => w c (by omega) (by omega) (by omega) (by omega))) ?_ hok (hHC.of (fun c a b => by rw [w c (by omega) (by omega) (by omega) (by omega), hs4 c (by omega) (by omega) (by omega) (by omega)])) ?_ hF (fun c hc => by rw [w c (by omega) (by omega) (by omega) (by omega), hs4 c (by omega) (by omega) (by omega) (by omega)]) (w4 5 (by decide) (by decide) (by decide) (by decide)) ⟨0, by decide, ?_, fu_self _ _ _ _, fun i hi => absurd hi (Nat.not_lt_zero _), ?_⟩
        · rw [fu_cell (by decide), fu_cell (by decide)]
          exact hGV.of hok.1 (fun i hi => by rw [g7 i hi, h66 i hi])
        · unfold HM
          rw [w4 3 (by decide) (by decide) (by decide) (by decide), w 167 (by decide) (by decide) (by decide) (by decide), hs4 167 (by omega) (by decide) (by decide) (by decide)]
          exact hHM
        · rw [w 157 (by decide) (by decide) (by decide) (by decide), f4 157 (by omega), f3a 0 (by decide), t0]; rfl
        · rw [w 157 (by decide) (by decide) (by decide) (by decide), f4 157 (by omega), f3b, if_pos rfl, fu_slot (by decide), fu_self]
    | false =>
      have hE : ¬ isE (nI m) := nE (by omega)
      have hs3 : ∀ c, (c = 0 ∨ 31 ≤ c) → c ≠ 157 → c ≠ 159 → c ≠ 160 → s3 c = σ c := fun c a x y z => by rw [s31 c (by omega) x y z, f1 c (by omega)]
      obtain ⟨s4, e4, f4, g4⟩ := p_noted (x := nI m) (hHC.of (fun c a b => hs3 c (by omega) (by omega) (by omega) (by omega))) s16 hok.1 hE
      have hs4 : ∀ c, (c = 0 ∨ (31 ≤ c ∧ c < 46) ∨ 138 ≤ c) → c ≠ 157 → c ≠ 159 → c ≠ 160 → s4 c = σ c := fun c a x y z => by rw [f4 c (by omega), hs3 c (by omega) x y z]
      obtain ⟨s6, h6, h6j, h66, g6, e6⟩ := mk s4 (hs4 164 (by omega) (by decide) (by decide) (by decide)) (hs4 169 (by omega) (by decide) (by decide) (by decide)) (hs4 165 (by omega) (by decide) (by decide) (by decide))
      rw [if_neg (by decide), fL_ok, fL_ok] at e6
      have v : ∀ c, c ≠ 164 → c ≠ 165 → c ≠ 166 → c ≠ 170 → fu (fu s6 164 8 (-10004)) 164 7 0 c = s4 c := fun c x y z a => by rw [fu_cell x, fu_cell x, h6 c x y z a]
      have v4 : ∀ j, j ≠ 7 → j ≠ 8 → j ≠ 9 → j ≠ 10 → fu (fu s6 164 8 (-10004)) 164 7 0 164 j = σ 164 j := fun j a b x y => by rw [fu_slot a, fu_slot b, h6j j x y]
      have vHM : HM (fu (fu s6 164 8 (-10004)) 164 7 0) k F := by
        unfold HM
        rw [v4 3 (by decide) (by decide) (by decide) (by decide), v 167 (by decide) (by decide) (by decide) (by decide), hs4 167 (by omega) (by decide) (by decide) (by decide)]
        exact hHM
      obtain ⟨s7, e7, f7, f7j, g7⟩ := p_kept (x := nI m) hHC.1 vHM (fun i hi => (hF i hi).1) (P := P) (by
        rw [fu_cell (by decide), fu_cell (by decide)]
        exact hGV.of hok.1 (fun i hi => h66 i hi)) hok.1 hE
      rw [e7, fcall_ok] at e6
      refine ⟨nI m, s4, s7, ?_, e6, ?_⟩
      · rw [eR, eM, fcall_ok, if_neg (show ¬ false = true by decide), if_neg (fun e => hE (by rw [e]; unfold isE; decide))]
        unfold f_X7_read_b41
        rw [e4, fcall_ok]
      · have w : ∀ c, c ≠ 164 → c ≠ 165 → c ≠ 166 → c ≠ 167 → c ≠ 170 → s7 c = s4 c := fun c x y z b a => by rw [f7 c b x, v c x y z a]
        refine LI_re (P := P') (k := hkK k) (F := hkF k F P) hSI hZI (g3.of (fun c a b => by rw [w c (by omega) (by omega) (by omega) (by omega) (by omega), f4 c (by omega)])) ?_ ok' (g4.of (fun c a b => w c (by omega) (by omega) (by omega) (by omega) (by omega))) g7 (hk_ok hHC.1 hok hF) (fun c hc => by rw [w c (by omega) (by omega) (by omega) (by omega) (by omega), hs4 c (by omega) (by omega) (by omega) (by omega)]) ?_ ⟨0, by decide, ?_, ?_, fun i hi => absurd hi (Nat.not_lt_zero _), ?_⟩
        · rw [f7 165 (by decide) (by decide), fu_cell (by decide), fu_cell (by decide)]; exact g6
        · rw [f7j 5 (by decide)]; exact v4 5 (by decide) (by decide) (by decide) (by decide)
        · rw [w 157 (by decide) (by decide) (by decide) (by decide) (by decide), f4 157 (by omega), f3a 0 (by decide), t0]; rfl
        · rw [f7j 7 (by decide), fu_self]; rfl
        · rw [w 157 (by decide) (by decide) (by decide) (by decide) (by decide), f4 157 (by omega), f3b, if_neg (by decide), t1, hr, f7j 8 (by decide), fu_slot (by decide), fu_self]
  · have hq : (sqF tx L 12 0).1 = false := by cases h : (sqF tx L 12 0).1; rfl; exact absurd h hq
    have hr := hbad hq
    have hle := sqF_le (tx := tx) (L := L) 12 0 (Nat.zero_le _)
    rw [if_neg (by rw [hr]; exact nI_NONE (by omega))] at eM
    have ht : ∀ c, (c < 16 ∨ 31 ≤ c) → c ≠ 157 → c ≠ 159 → c ≠ 160 → t c = σ c := fun c a x y z => by rw [tF c x y z, f1 c (by omega)]
    obtain ⟨s', e', h', h9⟩ := (ref t (ht 164 (by omega) (by decide) (by decide) (by decide)) (ht 169 (by omega) (by decide) (by decide) (by decide))).1 hq
    refine ⟨-10002, t, fu (fu s' 164 8 (s' 164 9)) 164 7 0, ?_, ?_, ?_⟩
    · rw [eR, eM, fcall_ok, if_neg (by decide)]
      unfold f_X7_read_b41
      rw [p_notedE (by unfold isE; decide), fcall_ok]
    · rw [e']
      unfold f_X8_read_b46
      rw [fL_ok, fL_ok]
    · have w : ∀ c, c ≠ 164 → c ≠ 170 → fu (fu s' 164 8 (s' 164 9)) 164 7 0 c = t c := fun c x y => by rw [fu_cell x, fu_cell x, h'.1 c x y]
      have w4 : ∀ j, j ≠ 7 → j ≠ 8 → j ≠ 9 → j ≠ 10 → fu (fu s' 164 8 (s' 164 9)) 164 7 0 164 j = σ 164 j := fun j a b x y => by rw [fu_slot a, fu_slot b, h'.2 j x y, ht 164 (by omega) (by decide) (by decide) (by decide)]
      refine LI_re (P := P) (k := k) (F := F) hSI hZI (hPV.of (fun c a b => by rw [w c (by omega) (by omega), ht c (by omega) (by omega) (by omega) (by omega)])) (by rw [w 165 (by decide) (by decide), ht 165 (by omega) (by decide) (by decide) (by decide)]; exact hGV) hok (hHC.of (fun c a b => by rw [w c (by omega) (by omega), ht c (by omega) (by omega) (by omega) (by omega)])) ?_ hF (fun c hc => by rw [w c (by omega) (by omega), ht c (by omega) (by omega) (by omega) (by omega)]) (w4 5 (by decide) (by decide) (by decide) (by decide)) ⟨0, by decide, ?_, fu_self _ _ _ _, fun i hi => absurd hi (Nat.not_lt_zero _), ?_⟩
      · unfold HM
        rw [w4 3 (by decide) (by decide) (by decide) (by decide), w 167 (by decide) (by decide), ht 167 (by omega) (by decide) (by decide) (by decide)]
        exact hHM
      · rw [w 157 (by decide) (by decide), t0]; rfl
      · rw [w 157 (by decide) (by decide), t1, hr, fu_slot (by decide), fu_self, h9]

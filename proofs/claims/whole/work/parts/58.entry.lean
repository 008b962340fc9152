/-! ===== one entry ===== -/
theorem p_countN {k : Nat} (hk : k ≤ 126) (s : fS) : f_X6_countNumbers (nI k) s = some (nI (cntN k), s) := by
  unfold f_X6_countNumbers cntN
  have q : ∀ (x : Int32) (m : Nat), x = nI m → m ≤ 126 → (nI k = x ↔ k = m) := fun x m hx hm => ⟨fun e => nI_inj (by omega) (by omega) (e.trans hx), fun e => by rw [e, hx]⟩
  by_cases h1 : k = 99
  · rw [if_pos ((q 99 99 rfl (by decide)).mpr h1), if_pos h1]; rfl
  · rw [if_neg (fun e => h1 ((q 99 99 rfl (by decide)).mp e)), if_neg h1]
    by_cases h2 : k = 116
    · rw [if_pos ((q 116 116 rfl (by decide)).mpr h2), if_pos h2]; rfl
    · rw [if_neg (fun e => h2 ((q 116 116 rfl (by decide)).mp e)), if_neg h2]
      by_cases h3 : k = 118
      · rw [if_pos ((q 118 118 rfl (by decide)).mpr h3), if_pos h3]; rfl
      · rw [if_neg (fun e => h3 ((q 118 118 rfl (by decide)).mp e)), if_neg h3]
        by_cases h4 : k = 119
        · rw [if_pos ((q 119 119 rfl (by decide)).mpr h4), if_pos h4]; rfl
        · rw [if_neg (fun e => h4 ((q 119 119 rfl (by decide)).mp e)), if_neg h4]; rfl
theorem cntN_c {k : Nat} (h : cntN k ≠ 0) : (k = 99 ∧ cntN k = 4) ∨ (k = 116 ∧ cntN k = 2) ∨ (k = 118 ∧ cntN k = 3) ∨ (k = 119 ∧ cntN k = 2) := by
  by_cases h1 : k = 99
  · exact Or.inl ⟨h1, by rw [h1]; rfl⟩
  · by_cases h2 : k = 116
    · exact Or.inr (Or.inl ⟨h2, by rw [h2]; rfl⟩)
    · by_cases h3 : k = 118
      · exact Or.inr (Or.inr (Or.inl ⟨h3, by rw [h3]; rfl⟩))
      · by_cases h4 : k = 119
        · exact Or.inr (Or.inr (Or.inr ⟨h4, by rw [h4]; rfl⟩))
        · unfold cntN at h
          rw [if_neg h1, if_neg h2, if_neg h3, if_neg h4] at h
          exact absurd rfl h
theorem c_entry {σ : fS} {tx : Nat → Nat} {L R p : Nat} {s : fS} (hT : TXc σ tx L) (hL : L ≤ 60) (hb : ∀ i, i < L → tx i ≤ 126) (hF : FC s σ) (h4 : s 157 4 = nI p) (hp : p ≤ L) (hR : s 159 3 = nI R) (hR2 : R < 12) : ∃ s', f_X6_findEntry s = some (bI (pE tx L p).1, s') ∧ FC s' σ ∧ s' 157 4 = nI (pE tx L p).2.1 ∧ ((pE tx L p).1 = true → s' 159 3 = nI (R + 1) ∧ (∀ c, c < 4 → s' 160 (R * 6 + c) = (pE tx L p).2.2 c) ∧ s' 160 (R * 6 + 4) = nI (sgn tx L p) ∧ s' 160 (R * 6 + 5) = nI p ∧ ∀ j, j < R * 6 → s' 160 j = s 160 j) := by
  have hs := sgn_lt (tx := tx) (L := L) (p := p) hb
  unfold f_X6_findEntry pE
  rw [c_sign (hF.tx hT) hL (by omega) h4, fcall_ok, p_countN hs, fcall_ok]
  by_cases h0 : cntN (sgn tx L p) = 0
  · rw [if_pos (by rw [h0]; rfl), if_pos h0]
    exact ⟨s, rfl, hF, h4, fun e => by cases e⟩
  · have hc := cntN_c h0
    have hp1 : p < L := sgn_pos (tx := tx) (by omega)
    rw [if_neg (show ¬ nI (cntN (sgn tx L p)) = (0 : Int32) from fun e => h0 (nI_inj (b := 0) (by omega) (by decide) e)), if_neg h0, fL_ok, h4, nI_1]
    unfold f_X5_addRow f_X5_isFull
    have a3 : fu s 157 4 (nI (p + 1)) 159 3 = nI R := by rw [fu_cell (by decide)]; exact hR
    rw [if_pos (show fu s 157 4 (nI (p + 1)) 159 3 < Int32.ofNat 12 from by rw [a3]; exact nI_lt (b := 12) hR2 (by decide)), fcall_ok, if_pos rfl, fL_ok, a3, nI_1]
    have q : ∀ t : fS, t 159 = upd (s 159) 3 (nI (R + 1)) → t 159 3 = nI (R + 1) := fun t ht => by rw [ht, upd_self]
    have e9 : fu (fu s 157 4 (nI (p + 1))) 159 3 (nI (R + 1)) 159 = upd (s 159) 3 (nI (R + 1)) := by rw [fu_row, fu_cell (by decide)]
    rw [p_eput (R := R + 1) (row := R) (x := 0) (c := 0) rfl (q _ e9) (by omega) (by omega) (by decide), fcallv_ok]
    rw [p_eput (R := R + 1) (row := R) (x := 1) (c := 1) rfl (q _ (by rw [fu_cell (by decide)]; exact e9)) (by omega) (by omega) (by decide), fcallv_ok]
    rw [p_eput (R := R + 1) (row := R) (x := 2) (c := 2) rfl (q _ (by rw [fu_cell (by decide), fu_cell (by decide)]; exact e9)) (by omega) (by omega) (by decide), fcallv_ok]
    rw [p_eput (R := R + 1) (row := R) (x := 3) (c := 3) rfl (q _ (by rw [fu_cell (by decide), fu_cell (by decide), fu_cell (by decide)]; exact e9)) (by omega) (by omega) (by decide), fcallv_ok, fcall_ok]
    rw [p_eput (R := R + 1) (row := R) (x := 4) (c := 4) rfl (q _ (by rw [fu_cell (by decide), fu_cell (by decide), fu_cell (by decide), fu_cell (by decide)]; exact e9)) (by omega) (by omega) (by decide), fcallv_ok]
    rw [p_eput (R := R + 1) (row := R) (x := 5) (c := 5) rfl (q _ (by rw [fu_cell (by decide), fu_cell (by decide), fu_cell (by decide), fu_cell (by decide), fu_cell (by decide)]; exact e9)) (by omega) (by omega) (by decide), fcallv_ok]
    generalize hg : fu (fu (fu (fu (fu (fu (fu (fu s 157 4 (nI (p + 1))) 159 3 (nI (R + 1))) 160 (R * 6 + 0) 0) 160 (R * 6 + 1) 0) 160 (R * 6 + 2) 0) 160 (R * 6 + 3) 0) 160 (R * 6 + 4) (nI (sgn tx L p))) 160 (R * 6 + 5) (nI p) = t
    have t9 : t 159 3 = nI (R + 1) := by rw [← hg]; exact q _ (by rw [fu_cell (by decide), fu_cell (by decide), fu_cell (by decide), fu_cell (by decide), fu_cell (by decide), fu_cell (by decide)]; exact e9)
    have t7 : t 157 = upd (s 157) 4 (nI (p + 1)) := by rw [← hg, fu_cell (by decide), fu_cell (by decide), fu_cell (by decide), fu_cell (by decide), fu_cell (by decide), fu_cell (by decide), fu_cell (by decide), fu_row]
    have tF : FC t σ := ⟨fun c x y z => by rw [← hg, fu_cell z, fu_cell z, fu_cell z, fu_cell z, fu_cell z, fu_cell z, fu_cell y, fu_cell x]; exact hF.1 c x y z, fun j hj => by rw [t7, upd_ne hj]; exact hF.2 j hj⟩
    have t0 : ∀ j, t 160 j = if j = R * 6 + 5 then nI p else if j = R * 6 + 4 then nI (sgn tx L p) else if R * 6 ≤ j ∧ j < R * 6 + 4 then 0 else s 160 j := fun j => by
      rw [← hg]
      by_cases j5 : j = R * 6 + 5
      · rw [if_pos j5, j5, fu_self]
      · rw [if_neg j5, fu_slot j5]
        by_cases j4 : j = R * 6 + 4
        · rw [if_pos j4, j4, fu_self]
        · rw [if_neg j4, fu_slot j4]
          by_cases j3 : j = R * 6 + 3
          · rw [if_pos (by omega), j3, fu_self]
          · rw [fu_slot j3]
            by_cases j2 : j = R * 6 + 2
            · rw [if_pos (by omega), j2, fu_self]
            · rw [fu_slot j2]
              by_cases j1 : j = R * 6 + 1
              · rw [if_pos (by omega), j1, fu_self]
              · rw [fu_slot j1]
                by_cases j0 : j = R * 6 + 0
                · rw [if_pos (by omega), j0, fu_self]
                · rw [fu_slot j0, if_neg (by omega), fu_cell (by decide), fu_cell (by decide)]
    obtain ⟨s', e, f1, f2, f3, f4, f5⟩ := c_nums (row := R) (k := sgn tx L p) (cnt := cntN (sgn tx L p)) hT hL hb hR2 hs (by omega) (cntN (sgn tx L p)) 0 fN (p + 1) (fun _ => 0) t (by omega) (by unfold fN; omega) hp1 tF (by rw [t7, upd_self]) t9 (fun c hc => by rw [t0, if_neg (by omega), if_neg (by omega), if_pos (by omega)])
    refine ⟨s', e, f1, f2, fun _ => ⟨by rw [f3]; exact t9, f4, ?_, ?_, fun j hj => ?_⟩⟩
    · rw [f5 _ (by omega), t0, if_neg (by omega), if_pos rfl]
    · rw [f5 _ (by omega), t0, if_pos rfl]
    · rw [f5 j (by omega), t0, if_neg (by omega), if_neg (by omega), if_neg (by omega)]
/-- the reference reads -/
def FM (s σ : fS) : Prop := (∀ q, q ≠ 164 → q ≠ 170 → s q = σ q) ∧ ∀ j, j ≠ 9 → j ≠ 10 → s 164 j = σ 164 j
theorem FM.tx {s σ : fS} {tx : Nat → Nat} {L : Nat} (h : FM s σ) (ht : TXm σ tx L) : TXm s tx L := ⟨by rw [h.2 7 (by decide) (by decide)]; exact ht.1, by rw [h.1 169 (by decide) (by decide)]; exact ht.2⟩
theorem FM.at {s σ : fS} {v : Int32} (h : FM s σ) : FM (fu s 164 9 v) σ := ⟨fun q x y => by rw [fu_cell x]; exact h.1 q x y, fun j x y => by rw [fu_slot x]; exact h.2 j x y⟩
theorem FM.le {s σ : fS} {v : Int32} (h : FM s σ) : FM (fu s 164 10 v) σ := ⟨fun q x y => by rw [fu_cell x]; exact h.1 q x y, fun j x y => by rw [fu_slot y]; exact h.2 j x y⟩
theorem FM.no {s σ : fS} {i : Nat} {v : Int32} (h : FM s σ) : FM (fu s 170 i v) σ := ⟨fun q x y => by rw [fu_cell y]; exact h.1 q x y, fun j x y => by rw [fu_cell (by decide)]; exact h.2 j x y⟩
theorem FM.rfl' {σ : fS} : FM σ σ := ⟨fun _ _ _ => rfl, fun _ _ _ => rfl⟩
theorem m_eats {s : fS} {tx : Nat → Nat} {L p ch : Nat} {x : Int32} (hx : x = nI ch) (hc : 0 < ch ∧ ch < 200) (ht : TXm s tx L) (hL : L ≤ 60) (hb : ∀ i, i < L → tx i ≤ 126) (hp : p < 2 ^ 31) (h9 : s 164 9 = nI p) : f_X8_eats x s = if sgn tx L p = ch then some (1, fu s 164 9 (nI (p + 1))) else some (0, s) := by
  have hs := sgn_lt (tx := tx) (L := L) (p := p) hb
  unfold f_X8_eats
  rw [ht.1, h9]
  by_cases h : p < L
  · have es : sgn tx L p = tx p := if_pos h
    rw [if_neg (nI_ge h (by omega)), fb_x rfl (by omega) (by decide), nI_clamp hp, ht.2 p h, hx, ← es]
    by_cases h2 : sgn tx L p = ch
    · rw [if_pos (by rw [h2]), if_pos h2, fL_ok, nI_1]
    · rw [if_neg (fun e => h2 (nI_inj (by omega) (by omega) e)), if_neg h2]
  · have es : sgn tx L p = 0 := if_neg h
    rw [if_pos (nI_le (by omega) hp), if_neg (by omega)]
theorem m_numL {σ : fS} {tx : Nat → Nat} {L i p0 : Nat} (hT : TXm σ tx L) (hL : L ≤ 60) (hb : ∀ i, i < L → tx i ≤ 126) (hi : i < 4) (hp0 : p0 ≤ 60) : ∀ d k n p a s, k + d = 4 → p = p0 + k → d < n → FM s σ → s 164 9 = nI p → s 170 i = nI a → ∃ s', f_X8_readsNumber_b12 n (nI i) (nI p0) s = f_X8_readsNumber_b93 (nI p0) s' ∧ FM s' σ ∧ s' 164 9 = nI (nmF tx L d p a).2 ∧ s' 164 10 = s 164 10 ∧ s' 170 i = nI (nmF tx L d p a).1 ∧ ∀ j, j ≠ i → s' 170 j = s 170 j := by
  intro d
  induction d with
  | zero =>
    intro k n p a s hk hpk hn hF h9 ha
    obtain ⟨n, rfl⟩ : ∃ m, n = m + 1 := ⟨n - 1, by omega⟩
    refine ⟨s, ?_, hF, h9, rfl, ha, fun _ _ => rfl⟩
    rw [f_X8_readsNumber_b12, (hF.tx hT).1, h9]
    by_cases h : L ≤ p
    · rw [if_pos (nI_le h (by omega))]
    · rw [if_neg (nI_ge (by omega) (by omega)), if_pos (show (4 : Int32) ≤ nI p - nI p0 from by rw [nI_sub (by omega), show p - p0 = 4 by omega]; decide)]
  | succ d ih =>
    intro k n p a s hk hpk hn hF h9 ha
    obtain ⟨n, rfl⟩ : ∃ m, n = m + 1 := ⟨n - 1, by omega⟩
    rw [f_X8_readsNumber_b12, (hF.tx hT).1, h9]
    unfold nmF
    by_cases h : L ≤ p
    · have es : sgn tx L p = 0 := if_neg (by omega)
      rw [if_pos (nI_le h (by omega)), if_neg (by omega)]
      exact ⟨s, rfl, hF, h9, rfl, ha, fun _ _ => rfl⟩
    · have es : sgn tx L p = tx p := if_pos (by omega)
      have hs := hb p (by omega)
      rw [if_neg (nI_ge (by omega) (by omega)), if_neg (show ¬ (4 : Int32) ≤ nI p - nI p0 from by rw [nI_sub (by omega)]; exact nI_ge (b := 4) (by omega) (by decide)), fb_x rfl (by omega) (by decide), nI_clamp (by omega), (hF.tx hT).2 p (by omega), p_in, ← es]
      by_cases hd : 48 ≤ sgn tx L p ∧ sgn tx L p ≤ 57
      · have hin : (48 : Int32) ≤ nI (sgn tx L p) ∧ nI (sgn tx L p) ≤ 57 := ⟨nI_le (a := 48) hd.1 (by omega), nI_le (b := 57) hd.2 (by decide)⟩
        rw [if_pos hd, if_pos hin, fcall_ok, if_neg (by decide), fb_x rfl hi (by decide), h9, fb_x rfl (by omega) (by decide), fb_x rfl hi (by decide), nI_clamp (show p < 2 ^ 31 by omega), nI_clamp (show i < 2 ^ 31 by omega), (hF.tx hT).2 p (by omega), ← es, ha, fL_ok, fL_ok, show (10 : Int32) * nI a = nI (10 * a) from nI_mul 10 a, nI_add, show nI (10 * a + sgn tx L p) - (48 : Int32) = nI (10 * a + sgn tx L p - 48) from nI_sub (b := 48) (by omega), fu_cell (show (164 : Nat) ≠ 170 by decide), h9, nI_1, Nat.mul_comm 10 a]
        obtain ⟨s', e, f1, f2, f3, f4, f5⟩ := ih (k + 1) n (p + 1) (a * 10 + sgn tx L p - 48) (fu (fu s 170 i (nI (a * 10 + sgn tx L p - 48))) 164 9 (nI (p + 1))) (by omega) (by omega) (by omega) hF.no.at (fu_self _ _ _ _) (by rw [fu_cell (by decide), fu_self])
        exact ⟨s', e, f1, f2, by rw [f3, fu_slot (by decide), fu_cell (by decide)], f4, fun j hj => by rw [f5 j hj, fu_cell (by decide), fu_slot hj]⟩
      · have hin : ¬ ((48 : Int32) ≤ nI (sgn tx L p) ∧ nI (sgn tx L p) ≤ 57) := fun e => hd ⟨(nI_leI (a := 48) (by decide) (by omega)).mp e.1, (nI_leI (b := 57) (by omega) (by decide)).mp e.2⟩
        rw [if_neg hd, if_neg hin, fcall_ok, if_pos rfl]
        exact ⟨s, rfl, hF, h9, rfl, ha, fun _ _ => rfl⟩
theorem m_num {σ : fS} {tx : Nat → Nat} {L i p : Nat} {s : fS} {x : Int32} (hx : x = nI i) (hT : TXm σ tx L) (hL : L ≤ 60) (hb : ∀ i, i < L → tx i ≤ 126) (hi : i < 4) (hF : FM s σ) (h9 : s 164 9 = nI p) (hp : p ≤ L) : ∃ s', f_X8_readsNumber x s = some (bI (decide (p < (nmF tx L 4 p 0).2)), s') ∧ FM s' σ ∧ s' 164 9 = nI (nmF tx L 4 p 0).2 ∧ s' 164 10 = s 164 10 ∧ s' 170 i = nI (nmF tx L 4 p 0).1 ∧ ∀ j, j ≠ i → s' 170 j = s 170 j := by
  obtain ⟨b1, b2⟩ := nmF_b (tx := tx) (L := L) 4 p 0
  have b2 := b2 hp
  unfold f_X8_readsNumber
  rw [hx, fb_x rfl hi (by decide), fL_ok, nI_clamp (by omega), h9]
  obtain ⟨s', e, f1, f2, f3, f4, f5⟩ := m_numL (i := i) (p0 := p) hT hL hb hi (by omega) 4 0 fN p 0 (fu s 170 i 0) rfl rfl (by unfold fN; decide) hF.no (by rw [fu_cell (by decide)]; exact h9) (by rw [fu_self]; rfl)
  rw [e]
  unfold f_X8_readsNumber_b93
  rw [f2]
  refine ⟨s', ?_, f1, f2, by rw [f3, fu_cell (by decide)], f4, fun j hj => by rw [f5 j hj, fu_slot hj]⟩
  by_cases h : p < (nmF tx L 4 p 0).2
  · rw [if_neg (nI_ge h (by omega)), decide_eq_true h]; rfl
  · rw [if_pos (nI_le (by omega) (by omega)), decide_eq_false h]; rfl

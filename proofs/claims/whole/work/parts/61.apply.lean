/-! ===== the entries are made ===== -/
def FR (s' s : fS) : Prop := (∀ c, c ≠ 164 → c ≠ 165 → c ≠ 170 → s' c = s c) ∧ ∀ j, j ≠ 9 → j ≠ 10 → s' 164 j = s 164 j
theorem pE_k {tx : Nat → Nat} {L p : Nat} (h : (pE tx L p).1 = true) : cntN (sgn tx L p) ≠ 0 := fun e => by
  unfold pE at h
  rw [if_pos e] at h
  cases h
theorem ap_all {tx : Nat → Nat} {L m : Nat} (hL : L ≤ 60) (hb : ∀ i, i < L → tx i ≤ 126) (hS : SQ tx L m) : ∀ d j P, j + d = m → aOK P → ∃ (bad : Bool) (q : Nat) (P' : aP), aOK P' ∧ (∀ s : fS, PV 1 s P → s 159 3 = nI m → (∀ i, i < m → ROW tx L s i) → ∀ N, d < N → ∃ s' : fS, f_X6_makeEntries_b29 1 N (nI j) s = some (if bad = true then (-10005 : Int32) else nI m, s') ∧ PV 1 s' P' ∧ (∀ c, (c < 1 ∨ 16 ≤ c) → c ≠ 157 → s' c = s c) ∧ (∀ i, i ≠ 1 → s' 157 i = s 157 i) ∧ s' 157 1 = (if bad = true then nI q else s 157 1)) ∧ (∀ s : fS, GV (s 165) P → TXm s tx L → s 164 9 = nI (if j < m then stF tx L j else L) → ∀ N, d < N → ∃ s' : fS, FR s' s ∧ GV (s' 165) P' ∧ f_X8_read_b74 N (nI j) s = if bad = true then fcallv (f_X8_brings s') (fun σ8 => fL (fu σ8 164 8 (nI q)) (fun σ9 => fL (fu σ9 164 7 (0 : Int32)) (fun σ10 => some ((-10005 : Int32), σ10)))) else fL (fu s' 164 8 (-10004 : Int32)) (fun σ1 => fL (fu σ1 164 7 (0 : Int32)) (fun σ2 => fcall (f_X8_kept (nI m) σ2) (fun r3_ σ3 => some (r3_, σ3))))) := by
  obtain ⟨hm0, hm12, hSj⟩ := hS
  intro d
  induction d with
  | zero =>
    intro j P hj hok
    have hjm : j = m := by omega
    subst hjm
    refine ⟨false, 0, P, hok, fun s hPV h3 hrow N hN => ?_, fun s hGV hT h9 N hN => ?_⟩
    · obtain ⟨N, rfl⟩ : ∃ m, N = m + 1 := ⟨N - 1, by omega⟩
      rw [f_X6_makeEntries_b29, p_size, fcall_ok, h3, if_pos (nI_le (Nat.le_refl _) (by omega)), p_size, fcall_ok, h3]
      exact ⟨s, rfl, hPV, fun _ _ _ => rfl, fun _ _ => rfl, rfl⟩
    · obtain ⟨N, rfl⟩ : ∃ m, N = m + 1 := ⟨N - 1, by omega⟩
      rw [if_neg (Nat.lt_irrefl _)] at h9
      refine ⟨s, ⟨fun _ _ _ _ => rfl, fun _ _ _ => rfl⟩, hGV, ?_⟩
      rw [f_X8_read_b74, hT.1, h9, if_pos (nI_le (Nat.le_refl _) (by omega)), if_neg (by decide)]
  | succ d ih =>
    intro j P hj hok
    obtain ⟨hpe, hlt, h59, hend⟩ := hSj j (by omega)
    have hk := pE_k hpe
    have hk2 := sgn_lt (tx := tx) (L := L) (p := stF tx L j) hb
    obtain ⟨b1, b2⟩ := pE_b (tx := tx) (L := L) (p := stF tx L j) (by omega)
    obtain ⟨r, P1, ok1, -, hc, hm⟩ := op_entry P hok (sgn tx L (stF tx L j)) (pE tx L (stF tx L j)).2.2
    -- the class up to the answer
    have cl : ∀ s : fS, PV 1 s P → s 159 3 = nI m → (∀ i, i < m → ROW tx L s i) → ∀ N, ∃ s1 : fS, PV 1 s1 P1 ∧ (∀ c, c < 1 ∨ 16 ≤ c → s1 c = s c) ∧ f_X6_makeEntries_b29 1 (N + 1) (nI j) s = fcall (f_X7_isError r s1) (fun r4_ σ4 => (if r4_ = 0 then f_X6_makeEntries_b29 1 N (nI (j + 1)) σ4 else fcall (f_X5_at 159 12 6 (nI j) (5 : Int32) σ4) (fun r5_ σ5 => fL (fu σ5 157 1 r5_) (fun σ6 => some ((-10005 : Int32), σ6))))) := fun s hPV h3 hrow N => by
      obtain ⟨w1, w2, w3⟩ := hrow j (by omega)
      obtain ⟨s1, e1, g1, f1⟩ := hc s hPV
      refine ⟨s1, g1, f1, ?_⟩
      rw [f_X6_makeEntries_b29, p_size, fcall_ok, h3, if_neg (nI_ge (by omega) (by omega)), c_made h3 hm12 (by omega) w1 w2 hk2, e1, fcall_ok, nI_1]
    have rf : ∀ s : fS, GV (s 165) P → TXm s tx L → s 164 9 = nI (stF tx L j) → ∀ N, ∃ s1 : fS, FR s1 s ∧ GV (s1 165) P1 ∧ s1 164 9 = nI (pE tx L (stF tx L j)).2.1 ∧ f_X8_read_b74 (N + 1) (nI j) s = fcall (f_X8_errs r s1) (fun r6_ σ6 => (if r6_ = 0 then fcall (f_X8_eats (59 : Int32) σ6) (fun r7_ σ7 => f_X8_read_b74 N (nI (j + 1)) σ7) else fcallv (f_X8_brings σ6) (fun σ8 => fL (fu σ8 164 8 (nI (stF tx L j))) (fun σ9 => fL (fu σ9 164 7 (0 : Int32)) (fun σ10 => some ((-10005 : Int32), σ10)))))) := fun s hGV hT h9 N => by
      obtain ⟨s0, e0, g1, g2, g3, g4⟩ := m_entry hT hL hb FM.rfl' h9 (by omega)
      obtain ⟨s1, e1, u1, f1⟩ := hm s0 (by rw [g1.1 165 (by decide) (by decide)]; exact hGV)
      refine ⟨s1, ⟨fun c x y z => by rw [f1 c y]; exact g1.1 c x z, fun i x y => by rw [f1 164 (by decide)]; exact g1.2 i x y⟩, u1, by rw [f1 164 (by decide)]; exact g2, ?_⟩
      rw [f_X8_read_b74, hT.1, h9, if_neg (nI_ge (by omega) (by omega)), e0, fcall_ok, m_does g3 hk (g4 hpe), e1, fcall_ok, nI_1]
    by_cases hr : isE r
    · refine ⟨true, stF tx L j, P1, ok1, fun s hPV h3 hrow N hN => ?_, fun s hGV hT h9 N hN => ?_⟩
      · obtain ⟨N, rfl⟩ : ∃ m, N = m + 1 := ⟨N - 1, by omega⟩
        obtain ⟨s1, g1, f1, e⟩ := cl s hPV h3 hrow N
        rw [e, (p_isError r s1).1 hr, fcall_ok, if_neg (by decide), p_atR (t := 159) (r := 12) (w := 6) (σ := s1) (x1 := nI j) (x2 := 5) (n := m) (i := j) (c := 5) (by rw [f1 159 (by omega)]; exact h3) hm12 (by decide) (by decide) (by decide) rfl rfl (by omega) (by decide), fcall_ok, fL_ok, show (159 + 1 : Nat) = 160 from rfl, f1 160 (by omega), (hrow j (by omega)).2.2]
        exact ⟨_, rfl, g1.of (fun c a b => by rw [fu_cell (by omega)]), fun c x y => by rw [fu_cell y]; exact f1 c x, fun i hi => by rw [fu_slot hi, f1 157 (by omega)], by rw [fu_self]; rfl⟩
      · obtain ⟨N, rfl⟩ : ∃ m, N = m + 1 := ⟨N - 1, by omega⟩
        rw [if_pos (by omega)] at h9
        obtain ⟨s1, f1, g1, -, e⟩ := rf s hGV hT h9 N
        refine ⟨s1, f1, g1, ?_⟩
        rw [e, (p_errs r s1).1 hr, fcall_ok, if_neg (by decide), if_pos rfl]
    · obtain ⟨bad, q, P', ok', ihc, ihm⟩ := ih (j + 1) P1 (by omega) ok1
      refine ⟨bad, q, P', ok', fun s hPV h3 hrow N hN => ?_, fun s hGV hT h9 N hN => ?_⟩
      · obtain ⟨N, rfl⟩ : ∃ m, N = m + 1 := ⟨N - 1, by omega⟩
        obtain ⟨s1, g1, f1, e⟩ := cl s hPV h3 hrow N
        rw [e, (p_isError r s1).2 hr, fcall_ok, if_pos rfl]
        obtain ⟨s', e', u1, u2, u3, u4⟩ := ihc s1 g1 (by rw [f1 159 (by omega)]; exact h3) (fun i hi => by unfold ROW; rw [f1 160 (by omega)]; exact hrow i hi) N (by omega)
        exact ⟨s', e', u1, fun c x y => by rw [u2 c x y]; exact f1 c x, fun i hi => by rw [u3 i hi, f1 157 (by omega)], by rw [u4, f1 157 (by omega)]⟩
      · obtain ⟨N, rfl⟩ : ∃ m, N = m + 1 := ⟨N - 1, by omega⟩
        rw [if_pos (by omega)] at h9
        obtain ⟨s1, f1, g1, a9, e⟩ := rf s hGV hT h9 N
        have hT1 : TXm s1 tx L := ⟨by rw [f1.2 7 (by decide) (by decide)]; exact hT.1, by rw [f1.1 169 (by decide) (by decide) (by decide)]; exact hT.2⟩
        rw [e, (p_errs r s1).2 hr, fcall_ok, if_pos rfl, m_eats (x := 59) (ch := 59) rfl (by decide) hT1 hL hb (by omega) a9]
        by_cases hlast : j + 1 < m
        · rw [if_pos (h59 hlast), fcall_ok]
          obtain ⟨s', u1, u2, u3⟩ := ihm (fu s1 164 9 (nI ((pE tx L (stF tx L j)).2.1 + 1))) (by rw [fu_cell (by decide)]; exact g1) ⟨by rw [fu_slot (by decide)]; exact hT1.1, by rw [fu_cell (by decide)]; exact hT1.2⟩ (by rw [fu_self, if_pos hlast]; rfl) N (by omega)
          exact ⟨s', ⟨fun c x y z => by rw [u1.1 c x y z, fu_cell x]; exact f1.1 c x y z, fun i x y => by rw [u1.2 i x y, fu_slot x]; exact f1.2 i x y⟩, u2, u3⟩
        · have hE := hend (by omega)
          rw [if_neg (by rw [hE, sgn_L]; decide), fcall_ok]
          obtain ⟨s', u1, u2, u3⟩ := ihm s1 g1 hT1 (by rw [a9, if_neg hlast, hE]) N (by omega)
          exact ⟨s', ⟨fun c x y z => by rw [u1.1 c x y z]; exact f1.1 c x y z, fun i x y => by rw [u1.2 i x y]; exact f1.2 i x y⟩, u2, u3⟩
theorem LI_re {σ w : fS} {P : aP} {k : Nat} {F : Nat → aP} (hS : SI σ) (hZ : ZI σ) (h1 : PV 1 w P) (h2 : GV (w 165) P) (h3 : aOK P) (h4 : HC w k F) (h5 : HM w k F) (h6 : ∀ i, i < k → aOK (F i)) (f0 : ∀ c, c = 0 ∨ (31 ≤ c ∧ c < 46) ∨ c = 162 ∨ c = 163 ∨ c = 168 ∨ c = 187 ∨ c = 188 → w c = σ c) (g5 : w 164 5 = σ 164 5) (hX : XI w) : LI w := by
  refine ⟨⟨P, k, F, h1, h2, h3, h4, h5, h6⟩, ?_, hX, ?_⟩
  · rcases hS with ⟨a, b⟩ | ⟨a, b, S, c, d, e⟩
    · exact Or.inl ⟨by rw [f0 0 (by omega)]; exact a, by rw [g5]; exact b⟩
    · exact Or.inr ⟨by rw [f0 0 (by omega)]; exact a, by rw [g5]; exact b, S, c, d.of (fun q x y => f0 q (by omega)), by rw [f0 168 (by omega)]; exact e⟩
  · unfold ZI
    rw [f0 162 (by omega), f0 163 (by omega), f0 187 (by omega), f0 188 (by omega)]
    exact hZ
theorem hk_ok {k : Nat} {F : Nat → aP} {P : aP} (hk6 : k ≤ 6) (hok : aOK P) (hF : ∀ i, i < k → aOK (F i)) : ∀ i, i < hkK k → aOK (hkF k F P i) := fun i hi => by
  unfold hkF
  unfold hkK at hi
  by_cases h6 : k < 6
  · simp only [h6, if_true] at hi ⊢
    by_cases hik : i = k
    · rw [if_pos hik]; exact hok
    · rw [if_neg hik]; exact hF i (by omega)
  · simp only [h6, if_false] at hi ⊢
    by_cases hik : i = 5
    · rw [if_pos hik]; exact hok
    · rw [if_neg hik]; exact hF (i + 1) (by omega)

/-! ===== copies of ports, and the history ===== -/
theorem nI_rem6 {n : Nat} (h : n < 100) : nI n - nI n / (6 : Int32) * (6 : Int32) = nI (n % 6) := by
  have : ∀ n, n < 100 → nI n - nI n / (6 : Int32) * (6 : Int32) = nI (n % 6) := by decide +kernel
  exact this n h
theorem p_tcopy {t0 t1 r w : Nat} {σ : fS} {n : Nat} (hn : σ t1 3 = nI n) (hr : n ≤ r) (hrw : r * w < 5000) (hr2 : r < 5000) (hd : t0 + 1 < t1 ∨ t1 + 1 < t0) : ∃ σ', f_X5_copyFrom t0 r w t1 r w σ = some σ' ∧ (∀ c, c ≠ t0 → c ≠ t0 + 1 → σ' c = σ c) ∧ σ' t0 3 = σ t1 3 ∧ ∀ k, k < r * w → σ' (t0 + 1) k = σ (t1 + 1) k := by
  have e1 : (if Int32.ofNat r < σ t1 3 then Int32.ofNat r else σ t1 3) = σ t1 3 := by
    rw [if_neg]
    rw [hn]
    exact nI_nlt hr (by omega)
  have e2 : (if Int32.ofNat (r * w) < Int32.ofNat (r * w) then Int32.ofNat (r * w) else Int32.ofNat (r * w)) = nI (r * w) := by
    split <;> rfl
  unfold f_X5_copyFrom
  rw [e1, e2, fL_ok, fg_ok (by
    refine ⟨by decide, by decide, nI_pos (by omega), ?_, ?_⟩ <;>
    · rw [nI_clamp (by omega), show (0 : Int32).toNatClampNeg = 0 from rfl]
      omega), fL_ok]
  refine ⟨_, rfl, fun c h1 h2 => ?_, ?_, fun k hk => ?_⟩
  · unfold fcp
    simp only [va_up, h2, if_false]
    exact fu_cell h1
  · unfold fcp
    simp only [va_up, show ¬ t0 = t0 + 1 by omega, if_false]
    exact fu_self _ _ _ _
  · unfold fcp
    simp only [va_up, if_true]
    unfold va_cpy
    rw [show (0 : Int32).toNatClampNeg = 0 from rfl, nI_clamp (by omega), if_pos ⟨Nat.zero_le _, by omega⟩, fu_cell (by omega)]
    congr 1
    omega
theorem p_pcopy {b0 b1 : Nat} {σ : fS} {P : aP} (h : PV b1 σ P) (hz : aSz P) (hd : b0 + 15 ≤ b1 ∨ b1 + 15 ≤ b0) : ∃ σ', f_X3_copyFrom b0 b1 σ = some σ' ∧ (∀ c, c < b0 ∨ b0 + 15 ≤ c → σ' c = σ c) ∧ PV b0 σ' P := by
  obtain ⟨h1, h2, h3, h4, h5, h6⟩ := h
  have z0 := hz 0 (by decide)
  have z1 := hz 1 (by decide)
  have z2 := hz 2 (by decide)
  have z3 := hz 3 (by decide)
  have z4 := hz 4 (by decide)
  simp only [rmx] at z0 z1 z2 z3 z4
  have k0 := h1 0 (by decide)
  have k1 := h1 1 (by decide)
  have k2 := h1 2 (by decide)
  have k3 := h1 3 (by decide)
  have k4 := h1 4 (by decide)
  simp only [wd, Nat.mul_zero, Nat.mul_one, Nat.add_zero, Nat.reduceMul, Nat.add_assoc, Nat.reduceAdd] at k0 k1 k2 k3 k4
  obtain ⟨s1, e1, f1, g1, q1⟩ := p_tcopy (t0 := b0 + 1) (t1 := b1 + 1) (r := 4) (w := 4) (σ := σ) k0.1 z0 (by decide) (by decide) (by omega)
  obtain ⟨s2, e2, f2, g2, q2⟩ := p_tcopy (t0 := b0 + 3) (t1 := b1 + 3) (r := 3) (w := 2) (σ := s1) (by rw [f1 _ (by omega) (by omega)]; exact k1.1) z1 (by decide) (by decide) (by omega)
  obtain ⟨s3, e3, f3, g3, q3⟩ := p_tcopy (t0 := b0 + 5) (t1 := b1 + 5) (r := 12) (w := 4) (σ := s2) (by rw [f2 _ (by omega) (by omega), f1 _ (by omega) (by omega)]; exact k2.1) z2 (by decide) (by decide) (by omega)
  obtain ⟨s4, e4, f4, g4, q4⟩ := p_tcopy (t0 := b0 + 7) (t1 := b1 + 7) (r := 24) (w := 3) (σ := s3) (by rw [f3 _ (by omega) (by omega), f2 _ (by omega) (by omega), f1 _ (by omega) (by omega)]; exact k3.1) z3 (by decide) (by decide) (by omega)
  obtain ⟨s5, e5, f5, g5, q5⟩ := p_tcopy (t0 := b0 + 9) (t1 := b1 + 9) (r := 8) (w := 4) (σ := s4) (by rw [f4 _ (by omega) (by omega), f3 _ (by omega) (by omega), f2 _ (by omega) (by omega), f1 _ (by omega) (by omega)]; exact k4.1) z4 (by decide) (by decide) (by omega)
  obtain ⟨s6, e6, f6, g6, q6⟩ := p_tcopy (t0 := b0 + 11) (t1 := b1 + 11) (r := 49) (w := 1) (σ := s5) (by rw [f5 _ (by omega) (by omega), f4 _ (by omega) (by omega), f3 _ (by omega) (by omega), f2 _ (by omega) (by omega), f1 _ (by omega) (by omega)]; exact h2) (Nat.le_refl 49) (by decide) (by decide) (by omega)
  obtain ⟨s7, e7, f7, g7, q7⟩ := p_tcopy (t0 := b0 + 13) (t1 := b1 + 13) (r := 48) (w := 1) (σ := s6) (by rw [f6 _ (by omega) (by omega), f5 _ (by omega) (by omega), f4 _ (by omega) (by omega), f3 _ (by omega) (by omega), f2 _ (by omega) (by omega), f1 _ (by omega) (by omega)]; exact h3) (Nat.le_refl 48) (by decide) (by decide) (by omega)
  have hb1 : ∀ c, b1 ≤ c → c < b1 + 15 → s7 c = σ c := fun c x y => by rw [f7 _ (by omega) (by omega), f6 _ (by omega) (by omega), f5 _ (by omega) (by omega), f4 _ (by omega) (by omega), f3 _ (by omega) (by omega), f2 _ (by omega) (by omega), f1 _ (by omega) (by omega)]
  unfold f_X3_copyFrom
  rw [e1, fcallv_ok, e2, fcallv_ok, e3, fcallv_ok, e4, fcallv_ok, e5, fcallv_ok, e6, fcallv_ok, e7, fcallv_ok, fL_ok]
  have up : ∀ c, c ≠ b0 → fu s7 b0 7 (s7 b1 7) c = s7 c := fun c hc => fu_cell hc
  refine ⟨_, rfl, fun c hc => ?_, ?_, ?_, ?_, fun k hk => ?_, fun k hk => ?_, ?_⟩
  · rw [up c (by omega), f7 _ (by omega) (by omega), f6 _ (by omega) (by omega), f5 _ (by omega) (by omega), f4 _ (by omega) (by omega), f3 _ (by omega) (by omega), f2 _ (by omega) (by omega), f1 _ (by omega) (by omega)]
  · intro j hj
    match j, hj with
    | 0, _ =>
      refine ⟨?_, fun i hi c hc => ?_⟩
      · show fu s7 b0 7 (s7 b1 7) (b0 + 1) 3 = _
        rw [up _ (by omega), f7 _ (by omega) (by omega), f6 _ (by omega) (by omega), f5 _ (by omega) (by omega), f4 _ (by omega) (by omega), f3 _ (by omega) (by omega), f2 _ (by omega) (by omega), g1]
        exact k0.1
      · have hi : i < (P.1 0).length := hi
        have hc : c < 4 := hc
        show fu s7 b0 7 (s7 b1 7) (b0 + 1 + 1) (i * 4 + c) = _
        rw [up _ (by omega), f7 _ (by omega) (by omega), f6 _ (by omega) (by omega), f5 _ (by omega) (by omega), f4 _ (by omega) (by omega), f3 _ (by omega) (by omega), f2 _ (by omega) (by omega), q1 _ (by omega)]
        exact k0.2 i hi c hc
    | 1, _ =>
      refine ⟨?_, fun i hi c hc => ?_⟩
      · show fu s7 b0 7 (s7 b1 7) (b0 + 3) 3 = _
        rw [up _ (by omega), f7 _ (by omega) (by omega), f6 _ (by omega) (by omega), f5 _ (by omega) (by omega), f4 _ (by omega) (by omega), f3 _ (by omega) (by omega), g2, f1 _ (by omega) (by omega)]
        exact k1.1
      · have hi : i < (P.1 1).length := hi
        have hc : c < 2 := hc
        show fu s7 b0 7 (s7 b1 7) (b0 + 3 + 1) (i * 2 + c) = _
        rw [up _ (by omega), f7 _ (by omega) (by omega), f6 _ (by omega) (by omega), f5 _ (by omega) (by omega), f4 _ (by omega) (by omega), f3 _ (by omega) (by omega), q2 _ (by omega), f1 _ (by omega) (by omega)]
        exact k1.2 i hi c hc
    | 2, _ =>
      refine ⟨?_, fun i hi c hc => ?_⟩
      · show fu s7 b0 7 (s7 b1 7) (b0 + 5) 3 = _
        rw [up _ (by omega), f7 _ (by omega) (by omega), f6 _ (by omega) (by omega), f5 _ (by omega) (by omega), f4 _ (by omega) (by omega), g3, f2 _ (by omega) (by omega), f1 _ (by omega) (by omega)]
        exact k2.1
      · have hi : i < (P.1 2).length := hi
        have hc : c < 4 := hc
        show fu s7 b0 7 (s7 b1 7) (b0 + 5 + 1) (i * 4 + c) = _
        rw [up _ (by omega), f7 _ (by omega) (by omega), f6 _ (by omega) (by omega), f5 _ (by omega) (by omega), f4 _ (by omega) (by omega), q3 _ (by omega), f2 _ (by omega) (by omega), f1 _ (by omega) (by omega)]
        exact k2.2 i hi c hc
    | 3, _ =>
      refine ⟨?_, fun i hi c hc => ?_⟩
      · show fu s7 b0 7 (s7 b1 7) (b0 + 7) 3 = _
        rw [up _ (by omega), f7 _ (by omega) (by omega), f6 _ (by omega) (by omega), f5 _ (by omega) (by omega), g4, f3 _ (by omega) (by omega), f2 _ (by omega) (by omega), f1 _ (by omega) (by omega)]
        exact k3.1
      · have hi : i < (P.1 3).length := hi
        have hc : c < 3 := hc
        show fu s7 b0 7 (s7 b1 7) (b0 + 7 + 1) (i * 3 + c) = _
        rw [up _ (by omega), f7 _ (by omega) (by omega), f6 _ (by omega) (by omega), f5 _ (by omega) (by omega), q4 _ (by omega), f3 _ (by omega) (by omega), f2 _ (by omega) (by omega), f1 _ (by omega) (by omega)]
        exact k3.2 i hi c hc
    | 4, _ =>
      refine ⟨?_, fun i hi c hc => ?_⟩
      · show fu s7 b0 7 (s7 b1 7) (b0 + 9) 3 = _
        rw [up _ (by omega), f7 _ (by omega) (by omega), f6 _ (by omega) (by omega), g5, f4 _ (by omega) (by omega), f3 _ (by omega) (by omega), f2 _ (by omega) (by omega), f1 _ (by omega) (by omega)]
        exact k4.1
      · have hi : i < (P.1 4).length := hi
        have hc : c < 4 := hc
        show fu s7 b0 7 (s7 b1 7) (b0 + 9 + 1) (i * 4 + c) = _
        rw [up _ (by omega), f7 _ (by omega) (by omega), f6 _ (by omega) (by omega), q5 _ (by omega), f4 _ (by omega) (by omega), f3 _ (by omega) (by omega), f2 _ (by omega) (by omega), f1 _ (by omega) (by omega)]
        exact k4.2 i hi c hc
  · rw [up _ (by omega), f7 _ (by omega) (by omega), g6, f5 _ (by omega) (by omega), f4 _ (by omega) (by omega), f3 _ (by omega) (by omega), f2 _ (by omega) (by omega), f1 _ (by omega) (by omega)]
    exact h2
  · rw [up _ (by omega), g7, f6 _ (by omega) (by omega), f5 _ (by omega) (by omega), f4 _ (by omega) (by omega), f3 _ (by omega) (by omega), f2 _ (by omega) (by omega), f1 _ (by omega) (by omega)]
    exact h3
  · rw [up _ (by omega), f7 _ (by omega) (by omega), q6 _ (by omega), f5 _ (by omega) (by omega), f4 _ (by omega) (by omega), f3 _ (by omega) (by omega), f2 _ (by omega) (by omega), f1 _ (by omega) (by omega)]
    exact h4 k hk
  · rw [up _ (by omega), q7 _ (by omega), f6 _ (by omega) (by omega), f5 _ (by omega) (by omega), f4 _ (by omega) (by omega), f3 _ (by omega) (by omega), f2 _ (by omega) (by omega), f1 _ (by omega) (by omega)]
    exact h5 k hk
  · rw [fu_self, hb1 b1 (by omega) (by omega)]
    exact h6
/-- the history of the class: k ports, the oldest first -/
def HC (σ : fS) (k : Nat) (F : Nat → aP) : Prop := k ≤ 6 ∧ σ 46 2 = nI k ∧ ∃ nx, nx < 6 ∧ σ 46 1 = nI nx ∧ ∀ i, i < k → PV (48 + 15 * ((nx + 6 - k + i) % 6)) σ (F i)
/-- the history of the reference -/
def HM (σ : fS) (k : Nat) (F : Nat → aP) : Prop := σ 164 3 = nI k ∧ ∀ i, i < k → GV (fun q => σ 167 (277 * i + q)) (F i)
def hkK (k : Nat) : Nat := if k < 6 then k + 1 else 6
def hkF (k : Nat) (F : Nat → aP) (P : aP) : Nat → aP := fun i => if i = (if k < 6 then k else 5) then P else if k < 6 then F i else F (i + 1)
theorem HC.of {σ σ' : fS} {k : Nat} {F : Nat → aP} (h : HC σ k F) (hs : ∀ c, 46 ≤ c → c < 138 → σ' c = σ c) : HC σ' k F := by
  obtain ⟨h1, h2, nx, h3, h4, h5⟩ := h
  refine ⟨h1, by rw [hs 46 (by decide) (by decide)]; exact h2, nx, h3, by rw [hs 46 (by decide) (by decide)]; exact h4, fun i hi => (h5 i hi).of (fun c a b => hs c (by omega) ?_)⟩
  have := Nat.mod_lt (nx + 6 - k + i) (by decide : 0 < 6)
  omega
theorem p_keep {b1 k : Nat} {σ : fS} {P : aP} {F : Nat → aP} (h : HC σ k F) (hP : PV b1 σ P) (hz : aSz P) (hb : b1 + 15 ≤ 46) : ∃ σ', f_X1_keep b1 σ = some σ' ∧ (∀ c, c < 46 ∨ 138 ≤ c → σ' c = σ c) ∧ HC σ' (hkK k) (hkF k F P) := by
  obtain ⟨h1, h2, nx, h3, h4, h5⟩ := h
  obtain ⟨s1, e1, f1, g1⟩ := p_pcopy (b0 := 48 + 15 * nx) (b1 := b1) (σ := σ) hP hz (by omega)
  have c1 : s1 46 1 = nI nx := by rw [f1 46 (by omega)]; exact h4
  have c2 : s1 46 2 = nI k := by rw [f1 46 (by omega)]; exact h2
  unfold f_X1_keep
  rw [fb_x h4 h3 (by decide), cl_x h4 (by omega), e1, fcallv_ok, fL_ok, fL_ok]
  have e2 : (s1 46 1 + 1) - (s1 46 1 + 1) / 6 * 6 = nI ((nx + 1) % 6) := by
    rw [c1, nI_1]
    exact nI_rem6 (by omega)
  rw [e2]
  have e3 : fu s1 46 1 (nI ((nx + 1) % 6)) 46 2 = nI k := by rw [fu_slot (by decide)]; exact c2
  rw [e3, nI_1]
  have e4 : (if (6 : Int32) < nI (k + 1) then (6 : Int32) else nI (k + 1)) = nI (hkK k) := by
    unfold hkK
    by_cases hk : k < 6
    · rw [if_pos hk, if_neg (show ¬ (6 : Int32) < nI (k + 1) from nI_nlt (a := 6) (b := k + 1) (by omega) (by omega))]
    · rw [if_neg hk, if_pos (show (6 : Int32) < nI (k + 1) from nI_lt (a := 6) (b := k + 1) (by omega) (by omega))]
      rfl
  rw [e4]
  refine ⟨_, rfl, fun c hc => ?_, ?_, ?_, (nx + 1) % 6, Nat.mod_lt _ (by decide), ?_, ?_⟩
  · rw [fu_cell (by omega), fu_cell (by omega)]
    exact f1 c (by omega)
  · unfold hkK
    split <;> omega
  · exact fu_self _ _ _ _
  · rw [fu_slot (by decide)]
    exact fu_self _ _ _ _
  · intro i hi
    have key : ∀ b X, 48 ≤ b → PV b s1 X → PV b (fu (fu s1 46 1 (nI ((nx + 1) % 6))) 46 2 (nI (hkK k))) X := fun b X hb h => h.of (fun c a _ => by rw [fu_cell (by omega), fu_cell (by omega)])
    apply key _ _ (by omega)
    unfold hkK at hi ⊢
    unfold hkF
    by_cases hk : k < 6
    · rw [if_pos hk] at hi ⊢
      simp only [hk, if_true]
      by_cases hik : i = k
      · rw [if_pos hik, show ((nx + 1) % 6 + 6 - (k + 1) + i) % 6 = nx by omega]
        exact g1
      · rw [if_neg hik, show ((nx + 1) % 6 + 6 - (k + 1) + i) % 6 = (nx + 6 - k + i) % 6 by omega]
        exact (h5 i (by omega)).of (fun c a b => f1 c (by omega))
    · rw [if_neg hk] at hi ⊢
      simp only [hk, if_false]
      by_cases hik : i = 5
      · rw [if_pos hik, show ((nx + 1) % 6 + 6 - 6 + i) % 6 = nx by omega]
        exact g1
      · rw [if_neg hik]
        have h6 := h5 (i + 1) (by omega)
        rw [show (nx + 6 - k + (i + 1)) % 6 = ((nx + 1) % 6 + 6 - 6 + i) % 6 by omega] at h6
        exact h6.of (fun c a b => f1 c (by omega))

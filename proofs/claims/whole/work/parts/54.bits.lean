/-! ===== floats as bits ===== -/
def FNm (a : UInt32) (s : Bool) (c : Nat) (q : Int) : Prop := FP.Core.val32 a = .fin s c q ∧ 2 ^ 23 ≤ c ∧ c < 2 ^ 24 ∧ -149 ≤ q ∧ q ≤ 104
theorem fits_n {s : Bool} {c : Nat} {q : Int} (h1 : 2 ^ 23 ≤ c) (h2 : c < 2 ^ 24) (h3 : -149 ≤ q) (h4 : q ≤ 104) : FP.Core.fits FP.Core.b32 (.fin s c q) := by
  refine ⟨h2, ?_, ?_, Or.inr h1⟩
  · rw [FP.Core.qmin_b32]; exact h3
  · rw [show FP.Core.b32.qmax = 104 from by decide]; exact h4
theorem nn_val {a : UInt32} {s : Bool} {c : Nat} {q : Int} (h : FP.Core.val32 a = .fin s c q) : a &&& 0x7fffffff ≤ 0x7f800000 := by
  have := (FP.Core.ne_nan32 a).mp (by rw [h]; exact FP.Core.Datum.noConfusion)
  rw [UInt32.le_iff_toNat_le, UInt32.toNat_and, show (0x7fffffff : UInt32).toNat = 2 ^ 31 - 1 from rfl, Nat.and_two_pow_sub_one_eq_mod, show (0x7f800000 : UInt32).toNat = 2139095040 from rfl]
  exact this
theorem fcmp_v {a b : UInt32} {da db : FP.Core.Datum} (ha : FP.Core.val32 a = da) (hb : FP.Core.val32 b = db) : FP.fcmp a b = FP.Core.order da db := by
  rw [← ha, ← hb]; rfl
theorem vc0 : FP.Core.val32 FP.fconst0 = .fin false 0 (-149) := by decide +kernel
theorem vc1 : FP.Core.val32 FP.fconst1 = .fin false 8388608 (-23) := by decide +kernel
theorem vc2 : FP.Core.val32 FP.fconst2 = .fin false 8388608 (-22) := by decide +kernel
theorem vc3 : FP.Core.val32 (1258291200 : UInt32) = .fin false 8388608 0 := by decide +kernel
theorem cvO {x y : Int} {k : CmpOp} : (x < y → Op.cmpValue (some (compare x y)) k = -1) ∧ (x = y → Op.cmpValue (some (compare x y)) k = 0) ∧ (y < x → Op.cmpValue (some (compare x y)) k = 1) := by
  refine ⟨fun h => ?_, fun h => ?_, fun h => ?_⟩
  · rw [Int.compare_eq_lt.mpr h]; rfl
  · rw [Int.compare_eq_eq.mpr h]; rfl
  · rw [Int.compare_eq_gt.mpr h]; rfl
/-- a part against a power of two: 2.0 (r = -22) or 1.0 (r = -23) -/
theorem cmp_pow {a b : UInt32} {c : Nat} {q r : Int} {k : CmpOp} (h : FNm a false c q) (hb : FP.Core.val32 b = .fin false 8388608 r) : (q < r → Op.cmpValue (FP.fcmp a b) k = -1) ∧ (r ≤ q → Op.cmpValue (FP.fcmp a b) k = 0 ∨ Op.cmpValue (FP.fcmp a b) k = 1) := by
  obtain ⟨h1, h2, h3, h4, h5⟩ := h
  rw [fcmp_v h1 hb]
  show (_ → Op.cmpValue (some (compare ((FP.Core.inUnits c q (min q r) : Nat) : Int) ((FP.Core.inUnits 8388608 r (min q r) : Nat) : Int))) k = -1) ∧ (_ → Op.cmpValue (some (compare ((FP.Core.inUnits c q (min q r) : Nat) : Int) ((FP.Core.inUnits 8388608 r (min q r) : Nat) : Int))) k = 0 ∨ Op.cmpValue (some (compare ((FP.Core.inUnits c q (min q r) : Nat) : Int) ((FP.Core.inUnits 8388608 r (min q r) : Nat) : Int))) k = 1)
  unfold FP.Core.inUnits
  refine ⟨fun hq => cvO.1 ?_, fun hq => ?_⟩
  · have e1 : (q - min q r).toNat = 0 := by omega
    have e2 : 2 ^ 1 ≤ 2 ^ (r - min q r).toNat := Nat.pow_le_pow_right (by decide) (by omega)
    rw [e1]
    generalize 2 ^ (r - min q r).toNat = z at e2
    omega
  · have e1 : (r - min q r).toNat = 0 := by omega
    have e2 : 1 ≤ 2 ^ (q - min q r).toNat := Nat.one_le_two_pow
    rw [e1]
    generalize 2 ^ (q - min q r).toNat = z at e2
    have : c * 1 ≤ c * z := Nat.mul_le_mul_left c e2
    rcases Nat.lt_or_ge 8388608 (c * z) with g | g
    · exact Or.inr (cvO.2.2 (by omega))
    · exact Or.inl (cvO.2.1 (by omega))
theorem f_half {a : UInt32} {c : Nat} {q : Int} (h : FNm a false c q) (hq : -148 ≤ q) : FNm (FP.fdiv a FP.fconst2) false c (q - 1) := by
  obtain ⟨h1, h2, h3, h4, h5⟩ := h
  refine ⟨?_, h2, h3, by omega, by omega⟩
  have e := FP.Core.val32_fdiv a FP.fconst2
  rw [h1, vc2] at e
  refine e.trans ?_
  show FP.Core.roundRatio FP.Core.b32 false c 8388608 (q - -22) = _
  refine FP.Core.roundRatio_exact FP.Core.good_b32 (by decide) (fits_n h2 h3 (by omega) (by omega)) ?_
  rw [show q - -22 - (q - 1) = 23 by omega, show q - 1 - (q - -22) = -23 by omega]
  show c * 8388608 = c * 8388608 * 1
  omega
theorem f_dbl {a : UInt32} {c : Nat} {q : Int} (h : FNm a false c q) (hq : q ≤ 103) : FNm (FP.fmul a FP.fconst2) false c (q + 1) := by
  obtain ⟨h1, h2, h3, h4, h5⟩ := h
  refine ⟨?_, h2, h3, by omega, by omega⟩
  have e := FP.Core.val32_fmul a FP.fconst2
  rw [h1, vc2] at e
  refine e.trans ?_
  show FP.Core.roundRatio FP.Core.b32 false (c * 8388608) 1 (q + -22) = _
  refine FP.Core.roundRatio_exact FP.Core.good_b32 (by decide) (fits_n h2 h3 (by omega) (by omega)) ?_
  rw [show q + -22 - (q + 1) = -23 by omega, show q + 1 - (q + -22) = 23 by omega]
  show c * 8388608 * 1 = c * 1 * 8388608
  omega
theorem f_scale {a : UInt32} {c : Nat} (h : FNm a false c (-23)) : FP.Core.val32 (FP.fmul a (1258291200 : UInt32)) = .fin false c 0 := by
  obtain ⟨h1, h2, h3, -, -⟩ := h
  have e := FP.Core.val32_fmul a (1258291200 : UInt32)
  rw [h1, vc3] at e
  refine e.trans ?_
  show FP.Core.roundRatio FP.Core.b32 false (c * 8388608) 1 (-23 + 0) = _
  refine FP.Core.roundRatio_exact FP.Core.good_b32 (by decide) (fits_n h2 h3 (by omega) (by omega)) ?_
  show c * 8388608 * 1 = c * 1 * 8388608
  omega
theorem f_int {a : UInt32} {c : Nat} (hc : c < 2 ^ 24) (h : FP.Core.val32 a = .fin false c 0) : FP.f2i a = nI c := by
  show Int32.ofInt (FP.Core.toInt (-2 ^ 31) (2 ^ 31 - 1) (FP.Core.val32 a)) = nI c
  rw [h]
  show Int32.ofInt (max (-2 ^ 31) (min (2 ^ 31 - 1) ((c * 1 / 1 : Nat) : Int))) = nI c
  rw [Nat.mul_one, Nat.div_one, Int.min_eq_right (by omega), Int.max_eq_right (by omega)]
  rfl
theorem nI_or (a b : Nat) : nI (a ||| b) = nI a ||| nI b := by
  show (UInt32.ofNat (a ||| b)).toInt32 = _
  rw [UInt32.ofNat_or, UInt32.toInt32_or]
  rfl
theorem shl23 {e : Nat} (h : e < 256) : nI e <<< ((23 : Int32) &&& 31) = nI (e * 8388608) := by
  have : ∀ e, e < 256 → nI e <<< ((23 : Int32) &&& 31) = nI (e * 8388608) := by decide +kernel
  exact this e h
theorem or_add {s e t : Nat} (hs : s ≤ 1) (he : e < 256) (ht : t < 8388608) : (s * 2147483648 ||| e * 8388608) ||| t = (s * 256 + e) * 8388608 + t := by
  have h1 := Nat.shiftLeft_add_eq_or_of_lt (b := e * 8388608) (i := 31) (by omega) s
  have h2 := Nat.shiftLeft_add_eq_or_of_lt (b := t) (i := 23) (by omega) (s * 256 + e)
  rw [Nat.shiftLeft_eq, show 2 ^ 31 = 2147483648 from by decide] at h1
  rw [Nat.shiftLeft_eq, show 2 ^ 23 = 8388608 from by decide] at h2
  have h4 : (2147483648 : Nat) = 256 * 8388608 := by decide
  have h3 : s * 2147483648 + e * 8388608 = (s * 256 + e) * 8388608 := by rw [Nat.add_mul, Nat.mul_assoc, ← h4]
  rw [← h1, h3, ← h2]
theorem f_bits {a : UInt32} {s : Bool} {c : Nat} {q : Int} (h : FNm a s c q) : a.toInt32 = (nI (s.toNat * 2147483648) ||| nI ((q + 150).toNat * 8388608)) ||| nI (c - 8388608) := by
  obtain ⟨h1, h2, h3, h4, h5⟩ := h
  have e := FP.Core.of32_val32 (a := a) (by rw [h1]; exact FP.Core.Datum.noConfusion)
  rw [h1] at e
  rw [← e]
  show (UInt32.ofNat (FP.Core.encode FP.Core.b32 (.fin s c q))).toInt32 = _
  have e2 : FP.Core.encode FP.Core.b32 (.fin s c q) = (s.toNat * 256 + (q + 150).toNat) * 8388608 + (c - 8388608) := by
    show (if c < 8388608 then _ else (s.toNat * 256 + ((q - FP.Core.b32.qmin).toNat + 1)) * 8388608 + (c - 8388608)) = _
    rw [if_neg (by omega), FP.Core.qmin_b32, show (q - -149).toNat + 1 = (q + 150).toNat by omega]
  have hs : s.toNat ≤ 1 := by cases s <;> decide
  rw [e2, ← or_add hs (by omega) (by omega)]
  show nI _ = _
  rw [nI_or, nI_or]
theorem f_sign {a : UInt32} {s : Bool} {c : Nat} {q : Int} {k : CmpOp} (h : FNm a s c q) : Op.cmpValue (FP.fcmp a FP.fconst0) k = if s = true then -1 else 1 := by
  obtain ⟨h1, h2, h3, h4, h5⟩ := h
  rw [fcmp_v h1 vc0]
  have e2 : 1 ≤ 2 ^ (q - min q (-149)).toNat := Nat.one_le_two_pow
  have e3 : c * 1 ≤ c * 2 ^ (q - min q (-149)).toNat := Nat.mul_le_mul_left c e2
  cases s with
  | false =>
    show Op.cmpValue (some (compare ((c * 2 ^ (q - min q (-149)).toNat : Nat) : Int) ((0 * 2 ^ (-149 - min q (-149)).toNat : Nat) : Int))) k = 1
    refine cvO.2.2 ?_
    rw [Nat.zero_mul]
    omega
  | true =>
    show Op.cmpValue (some (compare (-((c * 2 ^ (q - min q (-149)).toNat : Nat) : Int)) ((0 * 2 ^ (-149 - min q (-149)).toNat : Nat) : Int))) k = -1
    refine cvO.1 ?_
    rw [Nat.zero_mul]
    omega
theorem b_up {v0 : UInt32} {c : Nat} {σ : fS} : ∀ (d n : Nat) (a : UInt32) (e i : Nat), FNm a false c (-23 + (d : Int)) → i + d ≤ 127 → d < n → ∃ a', FNm a' false c (-23) ∧ f_X7_bitsOf_b26 n v0 a (nI e) (nI i) σ = f_X7_bitsOf_b51 v0 a' (nI (e + d)) σ := by
  intro d
  induction d with
  | zero =>
    intro n a e i h hi hn
    obtain ⟨n, rfl⟩ : ∃ m, n = m + 1 := ⟨n - 1, by omega⟩
    refine ⟨a, h, ?_⟩
    rw [f_X7_bitsOf_b26]
    by_cases h7 : (127 : Int32) ≤ nI i
    · rw [if_pos h7]; rfl
    · rw [if_neg h7, if_pos (by rw [(cmp_pow h vc2).1 (by omega)]; decide)]; rfl
  | succ d ih =>
    intro n a e i h hi hn
    obtain ⟨n, rfl⟩ : ∃ m, n = m + 1 := ⟨n - 1, by omega⟩
    have h2 := f_half h (by omega)
    obtain ⟨a', g1, g2⟩ := ih n (FP.fdiv a FP.fconst2) (e + 1) (i + 1) (by
      have : (-23 + ((d + 1 : Nat) : Int)) - 1 = -23 + (d : Int) := by omega
      rw [this] at h2
      exact h2) (by omega) (by omega)
    refine ⟨a', g1, ?_⟩
    rw [f_X7_bitsOf_b26, if_neg (show ¬ (127 : Int32) ≤ nI i from nI_ge (b := 127) (by omega) (by decide)), if_neg (by
      rcases (cmp_pow (k := .l) h vc2).2 (by omega) with x | x
      · rw [x]; decide
      · rw [x]; decide), fg_ok (nn_val h2.1), nI_1, nI_1]
    rw [show e + (d + 1) = e + 1 + d by omega]
    exact g2
theorem b_down {v0 : UInt32} {c : Nat} {σ : fS} : ∀ (d n : Nat) (a : UInt32) (e i : Nat), FNm a false c (-23 - (d : Int)) → i + d ≤ 126 → d < n → d ≤ e → ∃ a', FNm a' false c (-23) ∧ f_X7_bitsOf_b53 n v0 a (nI e) (nI i) σ = f_X7_bitsOf_b78 v0 a' (nI (e - d)) σ := by
  intro d
  induction d with
  | zero =>
    intro n a e i h hi hn he
    obtain ⟨n, rfl⟩ : ∃ m, n = m + 1 := ⟨n - 1, by omega⟩
    refine ⟨a, h, ?_⟩
    rw [f_X7_bitsOf_b53]
    by_cases h7 : (126 : Int32) ≤ nI i
    · rw [if_pos h7]; rfl
    · rw [if_neg h7, if_pos (by
        rcases (cmp_pow (k := .g) h vc1).2 (by omega) with x | x
        · rw [x]; decide
        · rw [x]; decide)]; rfl
  | succ d ih =>
    intro n a e i h hi hn he
    obtain ⟨n, rfl⟩ : ∃ m, n = m + 1 := ⟨n - 1, by omega⟩
    have h2 := f_dbl h (by omega)
    obtain ⟨a', g1, g2⟩ := ih n (FP.fmul a FP.fconst2) (e - 1) (i + 1) (by
      have : (-23 - ((d + 1 : Nat) : Int)) + 1 = -23 - (d : Int) := by omega
      rw [this] at h2
      exact h2) (by omega) (by omega) (by omega)
    refine ⟨a', g1, ?_⟩
    have ee : nI e + (-1 : Int32) = nI (e - 1) := by
      have := (dn_pred e).1
      obtain ⟨e', rfl⟩ : ∃ m, e = m + 1 := ⟨e - 1, by omega⟩
      rw [this]; rfl
    rw [f_X7_bitsOf_b53, if_neg (show ¬ (126 : Int32) ≤ nI i from nI_ge (b := 126) (by omega) (by decide)), if_neg (by rw [(cmp_pow h vc1).1 (by omega)]; decide), fg_ok (nn_val h2.1), ee, nI_1]
    rw [show e - (d + 1) = e - 1 - d by omega]
    exact g2
theorem c_bits {a : UInt32} {s : Bool} {c : Nat} {q : Int} {σ : fS} (h : FNm a s c q) : f_X7_bitsOf a σ = some (a.toInt32, σ) := by
  have hc2 := h.2.1
  have hc3 := h.2.2.1
  have hq1 := h.2.2.2.1
  have hq2 := h.2.2.2.2
  -- the loops
  have loops : ∀ p : UInt32, FNm p false c q → ∃ p', FNm p' false c (-23) ∧ f_X7_bitsOf_b20 a p σ = f_X7_bitsOf_b78 a p' (nI (q + 150).toNat) σ := fun p hp => by
    unfold f_X7_bitsOf_b20
    by_cases hq : -23 ≤ q
    · obtain ⟨p1, g1, g2⟩ := b_up (v0 := a) (σ := σ) (q + 23).toNat fN p 127 0 (by rw [show -23 + (((q + 23).toNat : Nat) : Int) = q by omega]; exact hp) (by omega) (by unfold fN; omega)
      have g2 : f_X7_bitsOf_b26 fN a p 127 0 σ = _ := g2
      obtain ⟨p2, k1, k2⟩ := b_down (v0 := a) (σ := σ) 0 fN p1 (127 + (q + 23).toNat) 0 g1 (by decide) (by unfold fN; decide) (Nat.zero_le _)
      refine ⟨p2, k1, ?_⟩
      rw [g2]
      unfold f_X7_bitsOf_b51
      have k2 : f_X7_bitsOf_b53 fN a p1 (nI (127 + (q + 23).toNat)) 0 σ = _ := k2
      rw [k2, Nat.sub_zero, show 127 + (q + 23).toNat = (q + 150).toNat by omega]
    · obtain ⟨n, hn⟩ : ∃ n, fN = n + 1 := ⟨2999, rfl⟩
      obtain ⟨p2, k1, k2⟩ := b_down (v0 := a) (σ := σ) (-23 - q).toNat fN p 127 0 (by rw [show -23 - (((-23 - q).toNat : Nat) : Int) = q by omega]; exact hp) (by omega) (by unfold fN; omega) (by omega)
      refine ⟨p2, k1, ?_⟩
      have e26 : f_X7_bitsOf_b26 fN a p 127 0 σ = f_X7_bitsOf_b51 a p 127 σ := by
        rw [hn, f_X7_bitsOf_b26, if_neg (by decide), if_pos (by rw [(cmp_pow hp vc2).1 (by omega)]; decide)]
      rw [e26]
      unfold f_X7_bitsOf_b51
      have k2 : f_X7_bitsOf_b53 fN a p 127 0 σ = _ := k2
      rw [k2, show 127 - (-23 - q).toNat = (q + 150).toNat by omega]
  have last : ∀ p' : UInt32, FNm p' false c (-23) → f_X7_bitsOf_b78 a p' (nI (q + 150).toNat) σ = some (a.toInt32, σ) := fun p' hp' => by
    have hsc := f_scale hp'
    unfold f_X7_bitsOf_b78 f_X7_bitsOf_b102
    rw [fg_ok (nn_val hsc), f_int hc3 hsc, f_sign h, f_bits h, shl23 (by omega), show nI c - (8388608 : Int32) = nI (c - 8388608) from nI_sub (b := 8388608) (by omega)]
    cases s with
    | false => rfl
    | true => rfl
  unfold f_X7_bitsOf
  rw [f_sign h, f_sign h]
  cases s with
  | false =>
    obtain ⟨p', g1, g2⟩ := loops a h
    rw [if_neg (by decide), if_pos (by decide), g2]
    exact last p' g1
  | true =>
    have hn : FNm (FP.fneg a) false c q := by
      refine ⟨?_, hc2, hc3, hq1, hq2⟩
      rw [FP.val32_fneg, h.1]
      rfl
    obtain ⟨p', g1, g2⟩ := loops (FP.fneg a) hn
    rw [if_neg (by decide), if_neg (by decide), g2]
    exact last p' g1
theorem m_bits {a : UInt32} {s : Bool} {c : Nat} {q : Int} {σ : fS} (h : FP.Core.val32 a = .fin s c q) : f_Jxf58ca_floatToIntBits_5c35a a σ = some (a.toInt32, σ) := by
  unfold f_Jxf58ca_floatToIntBits_5c35a f_Jxf58ca_isNaN_12338
  have : Op.cmpValue (FP.fcmp a a) .l = 0 := by
    rw [fcmp_v h h]
    exact cvO.2.1 rfl
  rw [if_pos this, fcall_ok, if_pos rfl]
/-- a float whose bits both sides tell: zero or a normal number -/
def FOk (d : FP.Core.Datum) : Prop := d = .fin false 0 (-149) ∨ ∃ s c q, d = .fin s c q ∧ 2 ^ 23 ≤ c ∧ c < 2 ^ 24 ∧ -149 ≤ q ∧ q ≤ 104
theorem bits_same {a : UInt32} {σ : fS} (h : FOk (FP.Core.val32 a)) : f_X7_bitsOf a σ = f_Jxf58ca_floatToIntBits_5c35a a σ := by
  rcases h with h | ⟨s, c, q, h⟩
  · have e := FP.Core.of32_val32 (a := a) (by rw [h]; exact FP.Core.Datum.noConfusion)
    rw [h, show FP.Core.of32 (.fin false 0 (-149)) = 0 from by decide +kernel] at e
    rw [m_bits h, ← e]
    unfold f_X7_bitsOf
    rw [if_pos (show Op.cmpValue (FP.fcmp 0 FP.fconst0) .l = 0 from by decide +kernel)]
    rfl
  · rw [c_bits h, m_bits h.1]

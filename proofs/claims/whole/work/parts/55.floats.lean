/-! ===== what heights and loads come to ===== -/
theorem RN {s : Bool} {A B : Nat} {e lo hi : Int} (hA : 0 < A) (hB : 0 < B) (h1 : ¬ FP.Core.Below A B (lo - e)) (h2 : FP.Core.Below A B (hi - e)) (hlo : -120 ≤ lo) (hhi : hi ≤ 120) : ∃ c q, FP.Core.roundRatio FP.Core.b32 s A B e = .fin s c q ∧ 2 ^ 23 ≤ c ∧ c < 2 ^ 24 ∧ lo - 23 ≤ q ∧ q ≤ hi - 23 := by
  obtain ⟨l1, l2⟩ := FP.Core.leading_spec hA hB
  have a1 := FP.Core.lt_of_below h1 l2
  have a2 := FP.Core.lt_of_below l1 h2
  have hf := FP.Core.roundRatio_fits FP.Core.good_b32 s A hB e
  have hm := FP.Core.nearest_units_le (f := FP.Core.b32) hA hB e
  have hQ : FP.Core.quantum FP.Core.b32 A B e = FP.Core.leading A B + e - 23 := by
    unfold FP.Core.quantum
    rw [FP.Core.qmin_b32, show ((FP.Core.b32.p : Nat) : Int) = 24 from rfl]
    omega
  have hr : FP.Core.roundRatio FP.Core.b32 s A B e = FP.Core.settle FP.Core.b32 s (FP.Core.nearest (FP.Core.unitsNum A e (FP.Core.quantum FP.Core.b32 A B e)) (FP.Core.unitsDen B e (FP.Core.quantum FP.Core.b32 A B e))) (FP.Core.quantum FP.Core.b32 A B e) := by
    unfold FP.Core.roundRatio
    rw [if_neg (by omega)]
    rfl
  rw [hr] at hf ⊢
  generalize FP.Core.nearest (FP.Core.unitsNum A e (FP.Core.quantum FP.Core.b32 A B e)) (FP.Core.unitsDen B e (FP.Core.quantum FP.Core.b32 A B e)) = m at hf hm ⊢
  rw [hQ] at hf ⊢
  have qx : FP.Core.b32.qmax = 104 := by decide
  unfold FP.Core.settle FP.Core.bound at hf ⊢
  by_cases c1 : m < 2 ^ FP.Core.b32.p
  · rw [if_pos c1, qx, if_pos (by omega)] at hf ⊢
    obtain ⟨f1, f2, f3, f4⟩ := hf
    rw [FP.Core.qmin_b32] at f4
    have f5 : 2 ^ 23 ≤ m := by
      rcases f4 with f4 | f4
      · omega
      · exact f4
    exact ⟨m, _, rfl, f5, f1, by omega, by omega⟩
  · rw [if_neg c1, qx, if_pos (by omega)] at hf ⊢
    exact ⟨_, _, rfl, by decide, by decide, by omega, by omega⟩
theorem rr0 {s : Bool} {B : Nat} {e : Int} : FP.Core.roundRatio FP.Core.b32 s 0 B e = .fin s 0 (-149) := by
  unfold FP.Core.roundRatio
  rw [if_pos rfl, FP.Core.qmin_b32]
theorem FInt_n {D : Int} {x : UInt32} (h : FP.Core.FInt D x) (h0 : D ≠ 0) (hb : D.natAbs < 2 ^ 23) : ∃ s c q, FNm x s c q ∧ -23 ≤ q ∧ q < 0 ∧ s = decide (D < 0) := by
  have hf := FP.Core.val32_fits x
  unfold FP.Core.FInt at h
  cases hv : FP.Core.val32 x with
  | nan => rw [hv] at h; exact h.elim
  | inf s => rw [hv] at h; exact h.elim
  | fin s c q =>
    rw [hv] at h hf
    have hw := FP.Core.whole_natAbs h
    have hs := FP.Core.whole_sign h h0
    obtain ⟨f1, f2, f3, f4⟩ := hf
    rw [FP.Core.qmin_b32] at f4
    have f1 : c < 2 ^ 24 := f1
    have f4 : q = -149 ∨ 2 ^ 23 ≤ c := f4
    have hq : q < 0 := by
      by_cases g : q < 0
      · exact g
      · exfalso
        rw [show (-q).toNat = 0 by omega] at hw
        have e2 : 1 ≤ 2 ^ q.toNat := Nat.one_le_two_pow
        have : c * 1 ≤ c * 2 ^ q.toNat := Nat.mul_le_mul_left c e2
        omega
    rw [show q.toNat = 0 by omega] at hw
    have e3 : 1 * 2 ^ (-q).toNat ≤ D.natAbs * 2 ^ (-q).toNat := Nat.mul_le_mul_right _ (by omega)
    have e4 : 2 ^ (-q).toNat < 2 ^ 24 := by omega
    have e5 := (Nat.pow_lt_pow_iff_right (a := 2) (by decide)).mp e4
    have q23 : -23 ≤ q := by omega
    exact ⟨s, c, q, ⟨hv, by rcases f4 with g | g; omega; exact g, f1, by omega, by omega⟩, q23, hq, hs⟩
theorem FInt_0 {x : UInt32} (h : FP.Core.FInt 0 x) : ∃ s, FP.Core.val32 x = .fin s 0 (-149) := by
  have hf := FP.Core.val32_fits x
  unfold FP.Core.FInt at h
  cases hv : FP.Core.val32 x with
  | nan => rw [hv] at h; exact h.elim
  | inf s => rw [hv] at h; exact h.elim
  | fin s c q =>
    rw [hv] at h hf
    have hz := (FP.Core.whole_zero h).mpr rfl
    subst hz
    obtain ⟨f1, f2, f3, f4⟩ := hf
    rw [FP.Core.qmin_b32] at f4
    have f4 : q = -149 ∨ 2 ^ 23 ≤ 0 := f4
    rcases f4 with g | g
    · rw [g]; exact ⟨s, rfl⟩
    · exact absurd g (by decide)
theorem mul_v {x y : UInt32} (hx : (∃ s, FP.Core.val32 x = .fin s 0 (-149)) ∨ ∃ s c q, FNm x s c q ∧ -23 ≤ q ∧ q < 0) (hy : (∃ s, FP.Core.val32 y = .fin s 0 (-149)) ∨ ∃ s c q, FNm y s c q ∧ -30 ≤ q ∧ q ≤ -20) : (∃ s, FP.Core.val32 (FP.fmul x y) = .fin s 0 (-149)) ∨ ∃ s c q, FP.Core.val32 (FP.fmul x y) = .fin s c q ∧ 2 ^ 23 ≤ c ∧ c < 2 ^ 24 ∧ -40 ≤ q ∧ q ≤ 10 := by
  have e := FP.Core.val32_fmul x y
  rcases hx with ⟨s, hx⟩ | ⟨s, c, q, ⟨hx, h2, h3, h4, h5⟩, q1, q2⟩
  · rcases hy with ⟨t, hy⟩ | ⟨t, d, r, ⟨hy, -⟩, -⟩
    · rw [hx, hy] at e
      exact Or.inl ⟨_, e.trans rr0⟩
    · rw [hx, hy] at e
      have e : _ = FP.Core.roundRatio FP.Core.b32 (s != t) (0 * d) 1 (-149 + r) := e
      rw [Nat.zero_mul] at e
      exact Or.inl ⟨_, e.trans rr0⟩
  · rcases hy with ⟨t, hy⟩ | ⟨t, d, r, ⟨hy, g2, g3, g4, g5⟩, r1, r2⟩
    · rw [hx, hy] at e
      exact Or.inl ⟨_, e.trans rr0⟩
    · rw [hx, hy] at e
      have e : _ = FP.Core.roundRatio FP.Core.b32 (s != t) (c * d) 1 (q + r) := e
      have lb : 2 ^ 23 * 2 ^ 23 ≤ c * d := Nat.mul_le_mul h2 g2
      have ub : c * d < 2 ^ 24 * 2 ^ 24 := Nat.mul_lt_mul_of_lt_of_le h3 (by omega) (by decide)
      obtain ⟨c', q', k1, k2, k3, k4, k5⟩ := RN (s := s != t) (A := c * d) (B := 1) (e := q + r) (lo := q + r + 46) (hi := q + r + 48) (by omega) (by decide) (by
        rw [show q + r + 46 - (q + r) = 46 by omega]
        unfold FP.Core.Below
        show ¬ c * d * 1 < 1 * 2 ^ 46
        omega) (by
        rw [show q + r + 48 - (q + r) = 48 by omega]
        unfold FP.Core.Below
        show c * d * 1 < 1 * 2 ^ 48
        omega) (by omega) (by omega)
      exact Or.inr ⟨_, c', q', e.trans k1, k2, k3, by omega, by omega⟩
theorem abs_two (s t : Bool) (a b : Nat) : (FP.Core.signed s a + FP.Core.signed t b).natAbs ≤ a + b := by
  unfold FP.Core.signed
  cases s <;> cases t <;> simp <;> omega
theorem FOk_of {d : FP.Core.Datum} {s : Bool} {c : Nat} {q lo hi : Int} (h : d = .fin s c q) (h2 : 2 ^ 23 ≤ c) (h3 : c < 2 ^ 24) (h4 : lo - 23 ≤ q) (h5 : q ≤ hi - 23) (hlo : -120 ≤ lo) (hhi : hi ≤ 120) : FOk d := Or.inr ⟨s, c, q, h, h2, h3, by omega, by omega⟩
/-- one number, far below it nothing -/
theorem one_v {S : Bool} {c : Nat} {q : Int} (h2 : 2 ^ 23 ≤ c) (h3 : c < 2 ^ 24) (q1 : -40 ≤ q) (q2 : q ≤ 10) : FOk (FP.Core.roundRatio FP.Core.b32 S (c * 2 ^ (q - -149).toNat) 1 (-149)) := by
  have hk : 0 < 2 ^ (q - -149).toNat := Nat.two_pow_pos _
  obtain ⟨c', q', k1, k2, k3, k4, k5⟩ := RN (s := S) (A := c * 2 ^ (q - -149).toNat) (B := 1) (e := -149) (lo := q + 23) (hi := q + 24) (Nat.mul_pos (by omega) hk) (by decide) (by
    unfold FP.Core.Below
    rw [show (-(q + 23 - -149)).toNat = 0 by omega, show (q + 23 - -149).toNat = 23 + (q - -149).toNat by omega, Nat.pow_add]
    have := Nat.mul_le_mul_right (2 ^ (q - -149).toNat) h2
    omega) (by
    unfold FP.Core.Below
    rw [show (-(q + 24 - -149)).toNat = 0 by omega, show (q + 24 - -149).toNat = 24 + (q - -149).toNat by omega, Nat.pow_add]
    have := Nat.mul_lt_mul_of_pos_right h3 hk
    omega) (by omega) (by omega)
  exact FOk_of k1 k2 k3 k4 k5 (by omega) (by omega)
theorem add_v {x y : UInt32} (hx : FP.Core.val32 x = .fin false 0 (-149) ∨ ∃ s c q, FNm x s c q ∧ -23 ≤ q ∧ q < 0) (hy : (∃ s, FP.Core.val32 y = .fin s 0 (-149)) ∨ ∃ s c q, FP.Core.val32 y = .fin s c q ∧ 2 ^ 23 ≤ c ∧ c < 2 ^ 24 ∧ -40 ≤ q ∧ q ≤ 10) : FOk (FP.Core.val32 (FP.fadd x y)) := by
  have e := FP.Core.val32_fadd x y
  have e : FP.Core.val32 (FP.fadd x y) = _ := e
  rw [e]
  rcases hx with hx | ⟨s, c, q, ⟨hx, h2, h3, h4, h5⟩, q1, q2⟩
  · rcases hy with ⟨t, hy⟩ | ⟨t, d, r, hy, g2, g3, g4, g5⟩
    · rw [hx, hy]
      cases t <;> exact Or.inl rr0
    · rw [hx, hy]
      show FOk (FP.Core.roundRatio FP.Core.b32 (FP.Core.sumSign false t (FP.Core.sumUnits false 0 (-149) t d r (min (-149) r))) (FP.Core.sumUnits false 0 (-149) t d r (min (-149) r)).natAbs 1 (min (-149) r))
      rw [show min (-149) r = -149 by omega]
      have ev : (FP.Core.sumUnits false 0 (-149) t d r (-149)).natAbs = d * 2 ^ (r - -149).toNat := by
        unfold FP.Core.sumUnits FP.Core.inUnits
        rw [Nat.zero_mul]
        generalize d * 2 ^ (r - -149).toNat = z
        unfold FP.Core.signed
        cases t <;> simp
      rw [ev]
      exact one_v g2 g3 g4 g5
  · rcases hy with ⟨t, hy⟩ | ⟨t, d, r, hy, g2, g3, g4, g5⟩
    · rw [hx, hy]
      show FOk (FP.Core.roundRatio FP.Core.b32 (FP.Core.sumSign s t (FP.Core.sumUnits s c q t 0 (-149) (min q (-149)))) (FP.Core.sumUnits s c q t 0 (-149) (min q (-149))).natAbs 1 (min q (-149)))
      rw [show min q (-149) = -149 by omega]
      have ev : (FP.Core.sumUnits s c q t 0 (-149) (-149)).natAbs = c * 2 ^ (q - -149).toNat := by
        unfold FP.Core.sumUnits FP.Core.inUnits
        rw [Nat.zero_mul]
        generalize c * 2 ^ (q - -149).toNat = z
        unfold FP.Core.signed
        cases s <;> cases t <;> simp
      rw [ev]
      exact one_v h2 h3 (by omega) (by omega)
    · rw [hx, hy]
      show FOk (FP.Core.roundRatio FP.Core.b32 (FP.Core.sumSign s t (FP.Core.sumUnits s c q t d r (min q r))) (FP.Core.sumUnits s c q t d r (min q r)).natAbs 1 (min q r))
      have hab : (FP.Core.sumUnits s c q t d r (min q r)).natAbs ≤ c * 2 ^ (q - min q r).toNat + d * 2 ^ (r - min q r).toNat := abs_two s t _ _
      have p1 : 2 ^ (q - min q r).toNat ≤ 2 ^ 50 := Nat.pow_le_pow_right (by decide) (by omega)
      have p2 : 2 ^ (r - min q r).toNat ≤ 2 ^ 50 := Nat.pow_le_pow_right (by decide) (by omega)
      have o1 : 1 ≤ 2 ^ (q - min q r).toNat := Nat.one_le_two_pow
      have o2 : 1 ≤ 2 ^ (r - min q r).toNat := Nat.one_le_two_pow
      have m1 : c * 2 ^ (q - min q r).toNat ≤ 2 ^ 24 * 2 ^ 50 := Nat.mul_le_mul (by omega) p1
      have m2 : d * 2 ^ (r - min q r).toNat ≤ 2 ^ 24 * 2 ^ 50 := Nat.mul_le_mul (by omega) p2
      by_cases hv : FP.Core.sumUnits s c q t d r (min q r) = 0
      · have hss : (s && t) = false := by
          have n1 : c * 1 ≤ c * 2 ^ (q - min q r).toNat := Nat.mul_le_mul_left c o1
          have n2 : d * 1 ≤ d * 2 ^ (r - min q r).toNat := Nat.mul_le_mul_left d o2
          unfold FP.Core.sumUnits FP.Core.inUnits FP.Core.signed at hv
          cases s with
          | false => rfl
          | true =>
            cases t with
            | false => rfl
            | true =>
              exfalso
              simp only [if_true] at hv
              omega
        rw [hv]
        unfold FP.Core.sumSign
        rw [if_pos rfl, hss]
        exact Or.inl rr0
      · obtain ⟨c', q', k1, k2, k3, k4, k5⟩ := RN (s := FP.Core.sumSign s t (FP.Core.sumUnits s c q t d r (min q r))) (A := (FP.Core.sumUnits s c q t d r (min q r)).natAbs) (B := 1) (e := min q r) (lo := min q r) (hi := min q r + 76) (by omega) (by decide) (by
          rw [Int.sub_self]
          unfold FP.Core.Below
          show ¬ (FP.Core.sumUnits s c q t d r (min q r)).natAbs * 1 < 1 * 1
          omega) (by
          rw [show min q r + 76 - min q r = 76 by omega]
          unfold FP.Core.Below
          show (FP.Core.sumUnits s c q t d r (min q r)).natAbs * 1 < 1 * 2 ^ 76
          omega) (by omega) (by omega)
        exact FOk_of k1 k2 k3 k4 k5 (by omega) (by omega)
def tM (d : FP.Core.Datum) : Bool := match d with
  | .fin false c q => (decide (c = 0) && decide (q = -149)) || (decide (2 ^ 23 ≤ c) && (decide (c < 2 ^ 24) && (decide (-30 ≤ q) && decide (q ≤ -20))))
  | _ => false
theorem tM_ok (t : Nat) : tM (FP.Core.val32 (hM t)) = true := by
  have : ∀ m, m < 60 → tM (FP.Core.val32 (FP.fdiv (FP.i2f (nI m)) (1114636288 : UInt32))) = true := by decide +kernel
  exact this (t % 60) (Nat.mod_lt _ (by decide))
theorem hM_v (t : Nat) : (∃ s, FP.Core.val32 (hM t) = .fin s 0 (-149)) ∨ ∃ s c q, FNm (hM t) s c q ∧ -30 ≤ q ∧ q ≤ -20 := by
  have h := tM_ok t
  cases hv : FP.Core.val32 (hM t) with
  | nan => rw [hv] at h; cases h
  | inf s => rw [hv] at h; cases h
  | fin s c q =>
    rw [hv] at h
    cases s with
    | true => cases h
    | false =>
      unfold tM at h
      simp only [Bool.or_eq_true, Bool.and_eq_true, decide_eq_true_eq] at h
      rcases h with ⟨a, b⟩ | ⟨a, b, d, e⟩
      · rw [a, b]; exact Or.inl ⟨_, rfl⟩
      · exact Or.inr ⟨false, c, q, ⟨hv, a, b, by omega, by omega⟩, d, e⟩
theorem tide_b {P : aP} (hok : aOK P) {h : Nat} (hh : h < 49) : -999 ≤ (P.2.1 h).toInt ∧ (P.2.1 h).toInt ≤ 999 := by
  obtain ⟨a, b⟩ := hok.2.2.2.2.2.2.1 h hh
  rw [Int32.le_iff_toInt_le] at a b
  exact ⟨a, b⟩
theorem hF_ok {P : aP} (hok : aOK P) {t : Nat} (ht : t < 2880) : FOk (FP.Core.val32 (hF P t)) := by
  have b1 := tide_b hok (h := t / 60) (by omega)
  have b2 := tide_b hok (h := t / 60 + 1) (by omega)
  have i1 : FP.Core.FInt (P.2.1 (t / 60)).toInt (FP.i2f (P.2.1 (t / 60))) := FP.Core.i2f_int (by omega)
  have i2 : FP.Core.FInt (P.2.1 (t / 60 + 1)).toInt (FP.i2f (P.2.1 (t / 60 + 1))) := FP.Core.i2f_int (by omega)
  have i3 : FP.Core.FInt ((P.2.1 (t / 60 + 1)).toInt - (P.2.1 (t / 60)).toInt) (hX P t) := FP.Core.fsub_int i2 i1 (by omega)
  unfold hF
  refine add_v ?_ (mul_v ?_ (hM_v t))
  · by_cases h0 : (P.2.1 (t / 60)).toInt = 0
    · left
      have : P.2.1 (t / 60) = 0 := Int32.toInt_inj.mp (by rw [h0]; rfl)
      rw [this]
      decide +kernel
    · right
      obtain ⟨s, c, q, k1, k2, k3, -⟩ := FInt_n i1 h0 (by omega)
      exact ⟨s, c, q, k1, k2, k3⟩
  · by_cases h0 : (P.2.1 (t / 60 + 1)).toInt - (P.2.1 (t / 60)).toInt = 0
    · rw [h0] at i3
      exact Or.inl (FInt_0 i3)
    · obtain ⟨s, c, q, k1, k2, k3, -⟩ := FInt_n i3 h0 (by omega)
      exact Or.inr ⟨s, c, q, k1, k2, k3⟩
theorem FOk.bits {a : UInt32} {σ : fS} (h : FOk (FP.Core.val32 a)) : f_Jxf58ca_floatToIntBits_5c35a a σ = some (a.toInt32, σ) := by
  rcases h with h | ⟨s, c, q, h, -⟩
  · exact m_bits h
  · exact m_bits h
theorem st_24 : ∀ (σ : fS) (x1 : Int32), LI σ → ∃ (r : Int32) (σ1 σ2 : fS), f_X7_heightBits x1 σ = some (r, σ1) ∧ f_X8_heightBits x1 σ1 = some (r, σ2) ∧ LI σ2 := by
  intro σ x hLI
  obtain ⟨⟨P, k, F, hPV, hGV, hok, -⟩, -⟩ := id hLI
  unfold f_X7_heightBits f_X8_heightBits
  rcases time_cases x with ⟨t, ht, rfl, h⟩ | h
  · have hf := hF_ok hok ht
    rw [p_isOutside, if_pos h, fcall_ok, if_pos rfl, c_floatHeight hPV ht, fcall_ok, bits_same hf, hf.bits, fcall_ok]
    refine ⟨_, σ, σ, rfl, ?_, hLI⟩
    rw [p_in, if_pos h, fcall_ok, if_neg (by decide), m_floatHeight hGV ht, fcall_ok, hf.bits, fcall_ok]
  · rw [p_isOutside, if_neg h, fcall_ok, if_neg (by decide)]
    refine ⟨_, σ, σ, rfl, ?_, hLI⟩
    rw [p_in, if_neg h, fcall_ok, if_pos rfl]
theorem sumN_mul (a : Nat) {g : Nat → Nat} : ∀ d i, sumN (fun k => a * g k) i d = a * sumN g i d := by
  intro d
  induction d with
  | zero => intro i; rfl
  | succ d ih =>
    intro i
    unfold sumN
    rw [ih (i + 1), Nat.mul_add]
theorem meters_b {P : aP} (hok : aOK P) : sumN (gL P) 0 (P.1 3).length ≤ 720 := by
  have z3 : (P.1 3).length ≤ 24 := hok.1 3 (by decide)
  have h := sumN_le (g := gL P) (h := fun k => 30 * (fun _ => 1) k) (P.1 3).length 0 (fun k _ hk => by
    have := (hok.2.2.2.2.1 k (by omega)).2.2.1
    unfold gL
    split <;> omega)
  rw [sumN_mul, sumN_one] at h
  omega
theorem laneM_b {P : aP} (hok : aOK P) : 10 * sumN (gA P) 0 (P.1 2).length ≤ sumN (gM P) 0 (P.1 2).length ∧ sumN (gM P) 0 (P.1 2).length ≤ 800 * sumN (gA P) 0 (P.1 2).length ∧ sumN (gA P) 0 (P.1 2).length ≤ 12 := by
  have z2 : (P.1 2).length ≤ 12 := hok.1 2 (by decide)
  have h1 := sumN_le (g := fun k => 10 * gA P k) (h := gM P) (P.1 2).length 0 (fun k _ hk => by
    have l1 := laN_b hok (c := k) (by omega)
    have l2 := laL_b hok (c := k) (by omega)
    show 10 * gA P k ≤ gM P k
    unfold gA gM
    split
    · have := Nat.mul_le_mul l1.1 l2.1
      omega
    · omega)
  have h2 := sumN_le (g := gM P) (h := fun k => 800 * gA P k) (P.1 2).length 0 (fun k _ hk => by
    have l1 := laN_b hok (c := k) (by omega)
    have l2 := laL_b hok (c := k) (by omega)
    show gM P k ≤ 800 * gA P k
    unfold gA gM
    split
    · have := Nat.mul_le_mul l1.2 l2.2
      omega
    · omega)
  have h3 := sumN_le (g := gA P) (h := fun _ => 1) (P.1 2).length 0 (fun k _ _ => by unfold gA; split <;> omega)
  rw [sumN_mul] at h1 h2
  rw [sumN_one] at h3
  exact ⟨h1, h2, by omega⟩
theorem div_v {m l : Nat} (hm : m ≤ 720) (hl : 10 ≤ l) (hl2 : l ≤ 9600) : FOk (FP.Core.val32 (FP.fdiv (FP.i2f (nI m)) (FP.i2f (nI l)))) := by
  have tm : (nI m).toInt = (m : Int) := nI_toInt (by omega)
  have tl : (nI l).toInt = (l : Int) := nI_toInt (by omega)
  have i1 : FP.Core.FInt (nI m).toInt (FP.i2f (nI m)) := FP.Core.i2f_int (by rw [tm]; omega)
  have i2 : FP.Core.FInt (nI l).toInt (FP.i2f (nI l)) := FP.Core.i2f_int (by rw [tl]; omega)
  rw [tm] at i1
  rw [tl] at i2
  obtain ⟨t, d, r, ⟨y1, y2, y3, y4, y5⟩, y6, y7, y8⟩ := FInt_n i2 (by omega) (by omega)
  rw [decide_eq_false (by omega)] at y8
  subst y8
  have e := FP.Core.val32_fdiv (FP.i2f (nI m)) (FP.i2f (nI l))
  have e : FP.Core.val32 (FP.fdiv (FP.i2f (nI m)) (FP.i2f (nI l))) = FP.Core.quotient FP.Core.b32 (FP.Core.val32 (FP.i2f (nI m))) (FP.Core.val32 (FP.i2f (nI l))) := e
  rw [e, y1]
  by_cases h0 : m = 0
  · subst h0
    rw [show FP.Core.val32 (FP.i2f (nI 0)) = .fin false 0 (-149) from by decide +kernel]
    show FOk (if d = 0 then _ else FP.Core.roundRatio FP.Core.b32 (false != false) 0 d (-149 - r))
    rw [if_neg (by omega)]
    exact Or.inl rr0
  · obtain ⟨s, c, q, ⟨x1, x2, x3, x4, x5⟩, x6, x7, x8⟩ := FInt_n i1 (by omega) (by omega)
    rw [decide_eq_false (by omega)] at x8
    subst x8
    rw [x1]
    show FOk (if d = 0 then _ else FP.Core.roundRatio FP.Core.b32 (false != false) c d (q - r))
    rw [if_neg (by omega)]
    obtain ⟨c', q', k1, k2, k3, k4, k5⟩ := RN (s := false != false) (A := c) (B := d) (e := q - r) (lo := q - r - 1) (hi := q - r + 1) (by omega) (by omega) (by
      rw [show q - r - 1 - (q - r) = -1 by omega]
      unfold FP.Core.Below
      show ¬ c * 2 < d * 1
      omega) (by
      rw [show q - r + 1 - (q - r) = 1 by omega]
      unfold FP.Core.Below
      show c * 1 < d * 2
      omega) (by omega) (by omega)
    exact FOk_of k1 k2 k3 k4 k5 (by omega) (by omega)
theorem FOk.nn {a : UInt32} (h : FOk (FP.Core.val32 a)) : a &&& 0x7fffffff ≤ 0x7f800000 := by
  rcases h with h | ⟨s, c, q, h, -⟩
  · exact nn_val h
  · exact nn_val h
theorem st_32 : ∀ (σ : fS), LI σ → ∃ (r : Int32) (σ1 σ2 : fS), f_X7_loadBits σ = some (r, σ1) ∧ f_X8_loadBits σ1 = some (r, σ2) ∧ LI σ2 := by
  intro σ hLI
  obtain ⟨⟨P, k, F, hPV, hGV, hok, -⟩, -⟩ := id hLI
  obtain ⟨s1, e1, p1, g1, d1, t1, f1⟩ := run1 hPV hGV hok
  obtain ⟨s2, e2, p2, g2, d2, t2, l2, f2⟩ := run2 p1 g1 hok d1 t1
  obtain ⟨s3, e3, g3, d3, l3, r3, f3⟩ := run3 g2 hok
  have mb := meters_b hok
  obtain ⟨lb1, lb2, lb3⟩ := laneM_b hok
  have hfin : LI s3 := hLI.fin (fun q hq => by rw [f2 q (by omega), f1 q (by omega)]) (fun q hq => f3 q (by omega))
  unfold f_X7_loadBits f_X8_loadBits f_X8_sailing
  rw [e1, fcallv_ok, e2, fcallv_ok, c_laneMeters (b := 1) p2 hok d2, fcall_ok]
  by_cases h0 : sumN (gA P) 0 (P.1 2).length = 0
  · have h1 : sumN (gM P) 0 (P.1 2).length = 0 := by omega
    rw [h1, if_pos nI_0]
    refine ⟨_, s2, s3, rfl, ?_, hfin⟩
    rw [e3, fcallv_ok, m_countAll g3 hok d3, fcall_ok, h0, if_pos nI_0]
  · have hd := div_v (m := sumN (gL P) 0 (P.1 3).length) (l := sumN (gM P) 0 (P.1 2).length) mb (by omega) (by omega)
    rw [if_neg (nI_ne0 (by omega) (by omega)), c_metersAboard (b := 1) p2 hok l2, fcall_ok, fg_ok hd.nn, bits_same hd, hd.bits, fcall_ok]
    refine ⟨_, s2, s3, rfl, ?_, hfin⟩
    rw [e3, fcallv_ok, m_countAll g3 hok d3, fcall_ok, if_neg (nI_ne0 (by omega) (by omega)), m_meters g3 hok l3, fcall_ok, m_laneMeters g3 hok d3, fcall_ok, fg_ok hd.nn, hd.bits, fcall_ok]

/-! ===== heights are numbers ===== -/
theorem nn_of {a : UInt32} (h : a.toNat % 2 ^ 31 < 255 * 2 ^ 23) : a &&& 0x7fffffff ≤ 0x7f800000 := by
  rw [UInt32.le_iff_toNat_le, UInt32.toNat_and, show (0x7fffffff : UInt32).toNat = 2 ^ 31 - 1 from rfl, Nat.and_two_pow_sub_one_eq_mod, show (0x7f800000 : UInt32).toNat = 255 * 2 ^ 23 from rfl]
  omega
theorem hM_mag (t : Nat) : (hM t).toNat % 2 ^ 31 < 156 * 2 ^ 23 := by
  have h := Jvm.FP.Core.fdiv_mag (a := FP.i2f (nI (t % 60))) (b := (1114636288 : UInt32)) (K := 160) (L := 132) (Jvm.FP.Core.i2f_mag _) (by decide) (by decide) (by decide) (by decide)
  exact h
theorem hX_mag (P : aP) (t : Nat) : (hX P t).toNat % 2 ^ 31 < 162 * 2 ^ 23 := Jvm.FP.Core.fsub_mag (K := 160) (Jvm.FP.Core.i2f_mag _) (Jvm.FP.Core.i2f_mag _) (by decide)
theorem hOK (P : aP) (t : Nat) : hNN P t := by
  have h1 := hX_mag P t
  have h2 := hM_mag t
  have h3a := Jvm.FP.Core.fmul_mag (Ka := 162) (Kb := 156) h1 h2 (by decide) (by decide)
  rw [show 162 + 156 - 129 + 3 = 192 from rfl] at h3a
  have h3 : (FP.fmul (hX P t) (hM t)).toNat % 2 ^ 31 < 192 * 2 ^ 23 := h3a
  have h4a := Jvm.FP.Core.fadd_mag (K := 192) (a := FP.i2f (P.2.1 (t / 60))) (Nat.lt_of_lt_of_le (Jvm.FP.Core.i2f_mag _) (by decide)) h3 (by decide)
  rw [show 192 + 2 = 194 from rfl] at h4a
  have h4 : (hF P t).toNat % 2 ^ 31 < 194 * 2 ^ 23 := h4a
  exact ⟨nn_of (Nat.lt_of_lt_of_le h1 (by decide)), nn_of (Nat.lt_of_lt_of_le h2 (by decide)), nn_of (Nat.lt_of_lt_of_le h3 (by decide)), nn_of (Nat.lt_of_lt_of_le h4 (by decide))⟩
theorem c_floatHeight {b : Nat} {σ : fS} {P : aP} (hp : PV b σ P) {t : Nat} (ht : t < 2880) : f_X3_floatHeightAt b (nI t) σ = some (hF P t, σ) := by
  obtain ⟨n1, n2, n3, n4⟩ := hOK P t
  simp only [hF, hX, hM] at n1 n2 n3 n4 ⊢
  unfold f_X3_floatHeightAt
  rw [nI_rem60 (by omega), nI_div60 (by omega), cT hp (by omega), fcall_ok, nI_1, cT hp (by omega), fcall_ok, fg_ok n1, fg_ok n2, fg_ok n3, fg_ok n4]
theorem m_floatHeight {σ : fS} {P : aP} (hg : GV (σ 165) P) {t : Nat} (ht : t < 2880) : f_X8_floatHeight (nI t) σ = some (hF P t, σ) := by
  obtain ⟨n1, n2, n3, n4⟩ := hOK P t
  simp only [hF, hX, hM] at n1 n2 n3 n4 ⊢
  have e0 : (0 : Int32) + nI (t / 60) = nI (t / 60) := by rw [show (0 : Int32) = nI 0 from rfl, nI_add, Nat.zero_add]
  unfold f_X8_floatHeight
  rw [nI_rem60 (by omega), nI_div60 (by omega), e0, fb_x rfl (by omega) (by decide), nI_1, fb_x rfl (by omega) (by decide), nI_clamp (by omega), nI_clamp (by omega), hg.2.1 _ (by omega), hg.2.1 _ (by omega), fg_ok n1, fg_ok n2, fg_ok n3, fg_ok n4]
def bI : Bool → Int32
  | true => 1
  | false => 0
theorem bI_t : ¬ bI true = 0 := by decide
theorem bI_f : bI false = 0 := rfl
/-- the water over a berth -/
def wtr (P : aP) (i t : Nat) : Int32 := nI (tg (P.1 1) i 0) + FP.f2i (hF P t)
def deepB (P : aP) (s i t : Nat) : Bool := !decide (wtr P i t < nI (tg (P.1 0) s 0) + nI P.2.2.2)
def calmB (P : aP) (s t : Nat) : Bool := decide (P.2.2.1 (t / 60) ≤ tg (P.1 0) s 3)
theorem c_water {b : Nat} {σ : fS} {P : aP} (hp : PV b σ P) (hz : aSz P) {i t : Nat} (hi : i < (P.1 1).length) (ht : t < 2880) : f_X3_waterAt b (nI i) (nI t) σ = some (wtr P i t, σ) := by
  unfold f_X3_waterAt
  rw [cB0 hp hz hi, fcall_ok, c_floatHeight hp ht, fcall_ok]
  rfl
theorem m_heightAt {σ : fS} {P : aP} (hg : GV (σ 165) P) {t : Nat} (ht : t < 2880) : f_X8_heightAt (nI t) σ = some (FP.f2i (hF P t), σ) := by
  unfold f_X8_heightAt
  rw [m_floatHeight hg ht, fcall_ok]
theorem m_water {σ : fS} {P : aP} (hg : GV (σ 165) P) (hz : aSz P) {i t : Nat} (hi : i < (P.1 1).length) (ht : t < 2880) : f_X8_waterAt (nI i) (nI t) σ = some (wtr P i t, σ) := by
  unfold f_X8_waterAt
  rw [mB0 hg hz hi, fcall_ok, m_heightAt hg ht, fcall_ok]
  rfl
theorem c_deep {b : Nat} {σ : fS} {P : aP} (hp : PV b σ P) (hz : aSz P) {s i t : Nat} (hs : s < (P.1 0).length) (hi : i < (P.1 1).length) (ht : t < 2880) : f_X3_isDeepEnough b (nI i) (nI s) (nI t) σ = some (bI (deepB P s i t), σ) := by
  unfold f_X3_isDeepEnough
  rw [c_water hp hz hi ht, fcall_ok, cS0 hp hz hs, fcall_ok, hp.2.2.2.2.2]
  unfold deepB
  by_cases h : wtr P i t < nI (tg (P.1 0) s 0) + nI P.2.2.2
  · rw [if_pos h, decide_eq_true h]; rfl
  · rw [if_neg h, decide_eq_false h]; rfl
theorem m_deep {σ : fS} {P : aP} (hg : GV (σ 165) P) (hz : aSz P) {s i t : Nat} (hs : s < (P.1 0).length) (hi : i < (P.1 1).length) (ht : t < 2880) : f_X8_isDeep (nI s) (nI i) (nI t) σ = some (bI (deepB P s i t), σ) := by
  unfold f_X8_isDeep
  rw [m_water hg hz hi ht, fcall_ok, mS0 hg hz hs, fcall_ok, fb97, show (97 : Int32).toNatClampNeg = 97 from rfl, hg.2.2.2]
  unfold deepB
  by_cases h : wtr P i t < nI (tg (P.1 0) s 0) + nI P.2.2.2
  · rw [if_pos h, decide_eq_true h]; rfl
  · rw [if_neg h, decide_eq_false h]; rfl
theorem m_calm {σ : fS} {P : aP} (hg : GV (σ 165) P) (hok : aOK P) {s t : Nat} (hs : s < (P.1 0).length) (ht : t < 2880) : f_X8_isCalm (nI s) (nI t) σ = some (bI (calmB P s t), σ) := by
  have e0 : (49 : Int32) + nI (t / 60) = nI (49 + t / 60) := nI_add 49 _
  have b1 := hok.2.2.2.2.2.2.2.1 (t / 60) (by omega)
  have b2 := hok.2.1 s hs
  unfold f_X8_isCalm
  rw [nI_div60 (by omega), e0, fb_x rfl (by omega) (by decide), mS3 hg hok.1 hs, fcall_ok, nI_clamp (by omega), hg.2.2.1 _ (by omega)]
  unfold calmB
  by_cases h : P.2.2.1 (t / 60) ≤ tg (P.1 0) s 3
  · rw [if_neg (nI_nlt h (by omega)), decide_eq_true h]; rfl
  · rw [if_pos (nI_lt (by omega) (by omega)), decide_eq_false h]; rfl
/-! ===== height, water, firstTime ===== -/
theorem time_cases (x : Int32) : (∃ t, t < 2880 ∧ x = nI t ∧ ((0 : Int32) ≤ x ∧ x ≤ 2879)) ∨ ¬ ((0 : Int32) ≤ x ∧ x ≤ 2879) := by
  by_cases h : (0 : Int32) ≤ x ∧ x ≤ 2879
  · obtain ⟨t, rfl, -, u⟩ := rng_nI (a := 0) (b := 2879) rfl rfl (by decide) (by decide) h
    exact Or.inl ⟨t, by omega, rfl, h⟩
  · exact Or.inr h
theorem st_23 : ∀ (σ : fS) (x1 : Int32), LI σ → ∃ (r : Int32) (σ1 σ2 : fS), f_X7_height x1 σ = some (r, σ1) ∧ f_X8_height x1 σ1 = some (r, σ2) ∧ LI σ2 := by
  intro σ x hLI
  obtain ⟨⟨P, k, F, hPV, hGV, hok, -⟩, -⟩ := id hLI
  unfold f_X7_height f_X8_height
  rcases time_cases x with ⟨t, ht, rfl, h⟩ | h
  · rw [p_isOutside, if_pos h, fcall_ok, if_pos rfl, c_floatHeight hPV ht, fcall_ok]
    refine ⟨_, σ, σ, rfl, ?_, hLI⟩
    rw [p_in, if_pos h, fcall_ok, if_neg (by decide), m_heightAt hGV ht, fcall_ok]
  · rw [p_isOutside, if_neg h, fcall_ok, if_neg (by decide)]
    refine ⟨_, σ, σ, rfl, ?_, hLI⟩
    rw [p_in, if_neg h, fcall_ok, if_pos rfl]
theorem st_25 : ∀ (σ : fS) (x1 : Int32) (x2 : Int32), LI σ → ∃ (r : Int32) (σ1 σ2 : fS), f_X7_water x1 x2 σ = some (r, σ1) ∧ f_X8_water x1 x2 σ1 = some (r, σ2) ∧ LI σ2 := by
  intro σ x1 x2 hLI
  obtain ⟨⟨P, k, F, hPV, hGV, hok, -⟩, -⟩ := id hLI
  have z1 : (P.1 1).length ≤ 3 := hok.1 1 (by decide)
  have cB : σ 4 3 = nI (P.1 1).length := (hPV.1 1 (by decide)).1
  have mB : σ 165 115 = nI (P.1 1).length := (hGV.1 1 (by decide)).1
  unfold f_X7_water f_X8_water
  rcases ix_cases x1 (n := (P.1 1).length) (by omega) with ⟨i, hi, rfl⟩ | o
  · rcases time_cases x2 with ⟨t, ht, rfl, h⟩ | h
    · rw [p_has1 cB (by omega) rfl hi, fcall_ok, if_neg (by decide), p_isOutside, if_pos h, fcall_ok, if_pos rfl, c_water hPV hok.1 hi ht, fcall_ok]
      refine ⟨_, σ, σ, rfl, ?_, hLI⟩
      rw [p_isBerth1 mB (by omega) rfl hi, fcall_ok, if_neg (by decide), p_in, if_pos h, fcall_ok, if_neg (by decide), m_water hGV hok.1 hi ht, fcall_ok]
    · rw [p_has1 cB (by omega) rfl hi, fcall_ok, if_neg (by decide), p_isOutside, if_neg h, fcall_ok, if_neg (by decide)]
      refine ⟨_, σ, σ, rfl, ?_, hLI⟩
      rw [p_isBerth1 mB (by omega) rfl hi, fcall_ok, if_neg (by decide), p_in, if_neg h, fcall_ok, if_pos rfl]
  · rw [p_has0 cB o, fcall_ok, if_pos rfl]
    refine ⟨_, σ, σ, rfl, ?_, hLI⟩
    rw [p_isBerth0 mB (by omega) o, fcall_ok, if_pos rfl]
theorem c_firstTime {σ : fS} {P : aP} (hp : PV 1 σ P) (hz : aSz P) {i s t : Nat} (hi : i < (P.1 1).length) (hs : s < (P.1 0).length) (ht : t < 2880) : f_X7_firstTime_b50 fN (nI i) (nI s) (nI t) σ = some (orI (-10004) nI (fstI (deepB P s i) t (2880 - t)), σ) := by
  refine find_loop (f := fun n v => f_X7_firstTime_b50 n (nI i) (nI s) v σ) (N := 2880) (r := nI) (fun n => ?_) (fun n k hk hc => ?_) (fun n k hk hc => ?_) (2880 - t) t fN (by omega) (by unfold fN; omega)
  · show f_X7_firstTime_b50 (n + 1) (nI i) (nI s) (nI 2880) σ = _
    rw [f_X7_firstTime_b50, if_pos (show (2879 : Int32) < nI 2880 from nI_lt (a := 2879) (by decide) (by decide))]
  · show f_X7_firstTime_b50 (n + 1) (nI i) (nI s) (nI k) σ = _
    rw [f_X7_firstTime_b50, if_neg (show ¬ (2879 : Int32) < nI k from nI_nlt (a := 2879) (by omega) (by decide)), c_deep hp hz hs hi hk, fcall_ok, hc, if_neg bI_t]
  · show f_X7_firstTime_b50 (n + 1) (nI i) (nI s) (nI k) σ = f_X7_firstTime_b50 n (nI i) (nI s) (nI (k + 1)) σ
    rw [f_X7_firstTime_b50, if_neg (show ¬ (2879 : Int32) < nI k from nI_nlt (a := 2879) (by omega) (by decide)), c_deep hp hz hs hi hk, fcall_ok, hc, if_pos bI_f, nI_1]
theorem m_firstTime {σ : fS} {P : aP} (hg : GV (σ 165) P) (hz : aSz P) {i s t : Nat} (hi : i < (P.1 1).length) (hs : s < (P.1 0).length) (ht : t < 2880) : f_X8_firstTime_b38 fN (nI i) (nI s) (nI t) σ = some (orI (-10004) nI (fstI (deepB P s i) t (2880 - t)), σ) := by
  refine find_loop (f := fun n v => f_X8_firstTime_b38 n (nI i) (nI s) v σ) (N := 2880) (r := nI) (fun n => ?_) (fun n k hk hc => ?_) (fun n k hk hc => ?_) (2880 - t) t fN (by omega) (by unfold fN; omega)
  · show f_X8_firstTime_b38 (n + 1) (nI i) (nI s) (nI 2880) σ = _
    rw [f_X8_firstTime_b38, if_pos (show (2879 : Int32) < nI 2880 from nI_lt (a := 2879) (by decide) (by decide))]
  · show f_X8_firstTime_b38 (n + 1) (nI i) (nI s) (nI k) σ = _
    rw [f_X8_firstTime_b38, if_neg (show ¬ (2879 : Int32) < nI k from nI_nlt (a := 2879) (by omega) (by decide)), m_deep hg hz hs hi hk, fcall_ok, hc, if_neg bI_t]
  · show f_X8_firstTime_b38 (n + 1) (nI i) (nI s) (nI k) σ = f_X8_firstTime_b38 n (nI i) (nI s) (nI (k + 1)) σ
    rw [f_X8_firstTime_b38, if_neg (show ¬ (2879 : Int32) < nI k from nI_nlt (a := 2879) (by omega) (by decide)), m_deep hg hz hs hi hk, fcall_ok, hc, if_pos bI_f, nI_1]
theorem st_26 : ∀ (σ : fS) (x1 : Int32) (x2 : Int32) (x3 : Int32), LI σ → ∃ (r : Int32) (σ1 σ2 : fS), f_X7_firstTime x1 x2 x3 σ = some (r, σ1) ∧ f_X8_firstTime x1 x2 x3 σ1 = some (r, σ2) ∧ LI σ2 := by
  intro σ x1 x2 x3 hLI
  obtain ⟨⟨P, k, F, hPV, hGV, hok, -⟩, -⟩ := id hLI
  have z0 : (P.1 0).length ≤ 4 := hok.1 0 (by decide)
  have z1 : (P.1 1).length ≤ 3 := hok.1 1 (by decide)
  have cB : σ 4 3 = nI (P.1 1).length := (hPV.1 1 (by decide)).1
  have mB : σ 165 115 = nI (P.1 1).length := (hGV.1 1 (by decide)).1
  have cS : σ 2 3 = nI (P.1 0).length := (hPV.1 0 (by decide)).1
  have mS : σ 165 98 = nI (P.1 0).length := (hGV.1 0 (by decide)).1
  unfold f_X7_firstTime f_X8_firstTime
  rcases ix_cases x1 (n := (P.1 1).length) (by omega) with ⟨i, hi, rfl⟩ | o
  · rcases ix_cases x2 (n := (P.1 0).length) (by omega) with ⟨s, hs, rfl⟩ | o
    · rcases time_cases x3 with ⟨t, ht, rfl, h⟩ | h
      · rw [p_has1 cB (by omega) rfl hi, fcall_ok, if_neg (by decide), p_has1 cS (by omega) rfl hs, fcall_ok, if_neg (by decide), p_isOutside, if_pos h, fcall_ok, if_pos rfl, c_firstTime hPV hok.1 hi hs ht]
        refine ⟨_, σ, σ, rfl, ?_, hLI⟩
        rw [p_isBerth1 mB (by omega) rfl hi, fcall_ok, if_neg (by decide), p_isShip1 mS (by omega) rfl hs, fcall_ok, if_neg (by decide), p_in, if_pos h, fcall_ok, if_neg (by decide), m_firstTime hGV hok.1 hi hs ht]
      · rw [p_has1 cB (by omega) rfl hi, fcall_ok, if_neg (by decide), p_has1 cS (by omega) rfl hs, fcall_ok, if_neg (by decide), p_isOutside, if_neg h, fcall_ok, if_neg (by decide)]
        refine ⟨_, σ, σ, rfl, ?_, hLI⟩
        rw [p_isBerth1 mB (by omega) rfl hi, fcall_ok, if_neg (by decide), p_isShip1 mS (by omega) rfl hs, fcall_ok, if_neg (by decide), p_in, if_neg h, fcall_ok, if_pos rfl]
    · rw [p_has1 cB (by omega) rfl hi, fcall_ok, if_neg (by decide), p_has0 cS o, fcall_ok, if_pos rfl]
      refine ⟨_, σ, σ, rfl, ?_, hLI⟩
      rw [p_isBerth1 mB (by omega) rfl hi, fcall_ok, if_neg (by decide), p_isShip0 mS (by omega) o, fcall_ok, if_pos rfl]
  · rw [p_has0 cB o, fcall_ok, if_pos rfl]
    refine ⟨_, σ, σ, rfl, ?_, hLI⟩
    rw [p_isBerth0 mB (by omega) o, fcall_ok, if_pos rfl]

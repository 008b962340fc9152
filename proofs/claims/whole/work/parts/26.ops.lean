/-! ===== what the law's loop keeps ===== -/
def RI (σ : fS) (P : aP) (k : Nat) (F : Nat → aP) : Prop := PV 1 σ P ∧ GV (σ 165) P ∧ aOK P ∧ HC σ k F ∧ HM σ k F ∧ ∀ i, i < k → aOK (F i)
def SI (σ : fS) : Prop := (σ 0 8 = 0 ∧ σ 164 5 = 0) ∨ (σ 0 8 = 1 ∧ σ 164 5 = 1 ∧ ∃ S, aOK S ∧ PV 31 σ S ∧ GV (σ 168) S)
def XI (σ : fS) : Prop := ∃ n, n ≤ 60 ∧ σ 157 0 = nI n ∧ σ 164 7 = nI n ∧ (∀ i, i < n → σ 158 i = σ 169 i ∧ ∃ c, σ 158 i = nI c ∧ 33 ≤ c ∧ c ≤ 126) ∧ σ 157 1 = σ 164 8
def ZI (σ : fS) : Prop := σ 162 3 = nI 9 ∧ ∀ p, p < 9 → (σ 187 p = -1 ∧ σ 163 (p * 5 + 4) = -10004) ∨ (σ 187 p = 0 ∧ σ 163 (p * 5 + 4) = 0 ∧ ∀ c, c < 4 → σ 163 (p * 5 + c) = σ 188 (4 * p + c)) ∨ (σ 187 p = 1 ∧ σ 163 (p * 5 + 4) = 1 ∧ ∀ c, c < 2 → σ 163 (p * 5 + c) = σ 188 (4 * p + c))
def XR (σ : fS) : Prop := SI σ ∧ XI σ ∧ ZI σ
def LI (σ : fS) : Prop := (∃ P k F, RI σ P k F) ∧ XR σ
theorem XR.of {σ σ' : fS} (h : XR σ) (h0 : σ' 0 = σ 0) (h31 : ∀ c, 31 ≤ c → c < 46 → σ' c = σ c) (h157 : σ' 157 = σ 157) (h158 : σ' 158 = σ 158) (h162 : σ' 162 = σ 162) (h163 : σ' 163 = σ 163) (h168 : σ' 168 = σ 168) (h169 : σ' 169 = σ 169) (h187 : σ' 187 = σ 187) (h188 : σ' 188 = σ 188) (h164 : ∀ j, j = 5 ∨ j = 7 ∨ j = 8 → σ' 164 j = σ 164 j) : XR σ' := by
  obtain ⟨hs, ⟨n, x1, x2, x3, x4, x5⟩, hz⟩ := h
  refine ⟨?_, ⟨n, x1, by rw [h157]; exact x2, by rw [h164 7 (by decide)]; exact x3, by rw [h158, h169]; exact x4, by rw [h157, h164 8 (by decide)]; exact x5⟩, ?_⟩
  · rcases hs with ⟨a, b⟩ | ⟨a, b, S, c, d, e⟩
    · exact Or.inl ⟨by rw [h0]; exact a, by rw [h164 5 (by decide)]; exact b⟩
    · exact Or.inr ⟨by rw [h0]; exact a, by rw [h164 5 (by decide)]; exact b, S, c, d.of (fun q x y => h31 q x (by omega)), by rw [h168]; exact e⟩
  · unfold ZI
    rw [h162, h163, h187, h188]
    exact hz
/-- a change of the port, on both sides -/
def Op (P : aP) (fc fm : fS → Option (Int32 × fS)) : Prop := ∃ (r : Int32) (P' : aP), aOK P' ∧ (isE r → P' = P) ∧ (∀ σ, PV 1 σ P → ∃ σ', fc σ = some (r, σ') ∧ PV 1 σ' P' ∧ ∀ c, c < 1 ∨ 16 ≤ c → σ' c = σ c) ∧ ∀ σ, GV (σ 165) P → ∃ σ', fm σ = some (r, σ') ∧ GV (σ' 165) P' ∧ ∀ c, c ≠ 165 → σ' c = σ c
theorem op_stepX {fc fm : fS → Option (Int32 × fS)} {σ : fS} {P : aP} {k : Nat} {F : Nat → aP} (hR : RI σ P k F) (hXR : XR σ) (hop : Op P fc fm) : ∃ (r : Int32) (σ1 σ2 : fS), fcallv (f_X3_copyFrom 16 1 σ) (fun s1 => fcall (fc s1) (fun r s2 => fcall (f_X7_noted r s2) (fun r3 s3 => some (r3, s3)))) = some (r, σ1) ∧ fcallv (f_X8_remembers σ1) (fun s1 => fcall (fm s1) (fun r s2 => fcall (f_X8_kept r s2) (fun r3 s3 => some (r3, s3)))) = some (r, σ2) ∧ LI σ2 ∧ ∀ c, 138 ≤ c → σ1 c = σ c := by
  obtain ⟨hPV, hGV, hok, hHC, hHM, hF⟩ := hR
  obtain ⟨r, P', hok', hE, hc, hm⟩ := hop
  obtain ⟨s1, e1, f1, g1⟩ := p_pcopy (b0 := 16) (b1 := 1) hPV hok.1 (Or.inr (by decide))
  obtain ⟨s2, e2, g2, f2⟩ := hc s1 (hPV.of (fun c a b => f1 c (by omega)))
  rw [e1, fcallv_ok, e2, fcall_ok]
  have hsp : PV 16 s2 P := g1.of (fun c a b => f2 c (by omega))
  have hHC2 : HC s2 k F := hHC.of (fun c a b => by rw [f2 c (by omega), f1 c (by omega)])
  -- behind the class
  have key : ∀ s3, (∀ c, c < 46 ∨ 138 ≤ c → s3 c = s2 c) → PV 1 s3 P' ∧ (∀ c, 138 ≤ c → s3 c = σ c) ∧ s3 0 = σ 0 ∧ ∀ c, 31 ≤ c → c < 46 → s3 c = σ c := by
    intro s3 h3
    refine ⟨g2.of (fun c a b => h3 c (by omega)), fun c hc => by rw [h3 c (by omega), f2 c (by omega), f1 c (by omega)], by rw [h3 0 (by omega), f2 0 (by omega), f1 0 (by omega)], fun c a b => by rw [h3 c (by omega), f2 c (by omega), f1 c (by omega)]⟩
  have fin : ∀ s3 k2 F2, (∀ c, c < 46 ∨ 138 ≤ c → s3 c = s2 c) → HC s3 k2 F2 → (∀ i, i < k2 → aOK (F2 i)) → (∀ s5, (∀ c, c ≠ 165 → c ≠ 166 → s5 c = s3 c) → GV (s5 165) P' → (∀ q, q < 277 → s5 166 q = s3 165 q) → ∃ s6, f_X8_kept r s5 = some (r, s6) ∧ (∀ c, c ≠ 167 → c ≠ 164 → s6 c = s5 c) ∧ (∀ j, j ≠ 3 → s6 164 j = s5 164 j) ∧ HM s6 k2 F2) → ∃ (r0 : Int32) (σ1 σ2 : fS), (some (r, s3) : Option (Int32 × fS)) = some (r0, σ1) ∧ fcallv (f_X8_remembers σ1) (fun s1 => fcall (fm s1) (fun r s2 => fcall (f_X8_kept r s2) (fun r3 s3 => some (r3, s3)))) = some (r0, σ2) ∧ LI σ2 ∧ ∀ c, 138 ≤ c → σ1 c = σ c := by
    intro s3 k2 F2 h3 hHC3 hF2 hkept
    obtain ⟨a1, a2, a3, a4⟩ := key s3 h3
    obtain ⟨s4, e4, f4, g4⟩ := p_remembers s3
    obtain ⟨s5, e5, g5, f5⟩ := hm s4 (by rw [f4 165 (by decide), a2 165 (by decide)]; exact hGV)
    obtain ⟨s6, e6, f6, j6, h6⟩ := hkept s5 (fun c a b => by rw [f5 c a, f4 c b]) g5 (fun q hq => by rw [f5 166 (by decide)]; exact g4 q hq)
    have s63 : ∀ c, c ≠ 164 → c ≠ 165 → c ≠ 166 → c ≠ 167 → s6 c = s3 c := fun c a b d e => by rw [f6 c e a, f5 c b, f4 c d]
    refine ⟨r, s3, s6, rfl, by rw [e4, fcallv_ok, e5, fcall_ok, e6, fcall_ok], ⟨⟨P', k2, F2, a1.of (fun c a b => s63 c (by omega) (by omega) (by omega) (by omega)), by rw [f6 165 (by decide) (by decide)]; exact g5, hok', hHC3.of (fun c a b => s63 c (by omega) (by omega) (by omega) (by omega)), h6, hF2⟩, ?_⟩, a2⟩
    refine XR.of hXR ?_ (fun c a b => ?_) ?_ ?_ ?_ ?_ ?_ ?_ ?_ ?_ (fun j hj => ?_)
    · rw [s63 0 (by decide) (by decide) (by decide) (by decide)]; exact a3
    · rw [s63 c (by omega) (by omega) (by omega) (by omega)]; exact a4 c a b
    · rw [s63 157 (by decide) (by decide) (by decide) (by decide)]; exact a2 _ (by decide)
    · rw [s63 158 (by decide) (by decide) (by decide) (by decide)]; exact a2 _ (by decide)
    · rw [s63 162 (by decide) (by decide) (by decide) (by decide)]; exact a2 _ (by decide)
    · rw [s63 163 (by decide) (by decide) (by decide) (by decide)]; exact a2 _ (by decide)
    · rw [s63 168 (by decide) (by decide) (by decide) (by decide)]; exact a2 _ (by decide)
    · rw [s63 169 (by decide) (by decide) (by decide) (by decide)]; exact a2 _ (by decide)
    · rw [s63 187 (by decide) (by decide) (by decide) (by decide)]; exact a2 _ (by decide)
    · rw [s63 188 (by decide) (by decide) (by decide) (by decide)]; exact a2 _ (by decide)
    · rw [j6 j (by omega), f5 164 (by decide), f4 164 (by decide), a2 164 (by decide)]
  have hHMs : ∀ (s5 s3 : fS), (∀ c, c < 46 ∨ 138 ≤ c → s3 c = s2 c) → (∀ c, c ≠ 165 → c ≠ 166 → s5 c = s3 c) → HM s5 k F := fun s5 s3 h3 h5 => by
    unfold HM
    rw [h5 164 (by decide) (by decide), h5 167 (by decide) (by decide), (key s3 h3).2.1 164 (by decide), (key s3 h3).2.1 167 (by decide)]
    exact hHM
  by_cases hr : isE r
  · rw [p_notedE hr, fcall_ok]
    have hPP := hE hr
    refine fin s2 k F (fun _ _ => rfl) hHC2 hF (fun s5 h5 hg _ => ⟨s5, p_keptE hr, fun _ _ _ => rfl, fun _ _ => rfl, hHMs s5 s2 (fun _ _ => rfl) h5⟩)
  · obtain ⟨s3, e3, f3, g3⟩ := p_noted hHC2 hsp hok.1 hr
    rw [e3, fcall_ok]
    refine fin s3 (hkK k) (hkF k F P) f3 g3 (fun i hi => ?_) (fun s5 h5 hg h166 => ?_)
    · unfold hkF
      unfold hkK at hi
      have hk6 := hHC.1
      by_cases h6 : k < 6
      · simp only [h6, if_true] at hi ⊢
        by_cases hik : i = k
        · rw [if_pos hik]; exact hok
        · rw [if_neg hik]; exact hF i (by omega)
      · simp only [h6, if_false] at hi ⊢
        by_cases hik : i = 5
        · rw [if_pos hik]; exact hok
        · rw [if_neg hik]; exact hF (i + 1) (by omega)
    · exact p_kept hHC.1 (hHMs s5 s3 f3 h5) (fun i hi => (hF i hi).1) (hGV.of hok.1 (fun q hq => by rw [h166 q hq, (key s3 f3).2.1 165 (by decide)])) hok.1 hr
theorem op_stepP {fc fm : fS → Option (Int32 × fS)} {σ : fS} {P : aP} {k : Nat} {F : Nat → aP} (hR : RI σ P k F) (hXR : XR σ) (hop : Op P fc fm) : ∃ (r : Int32) (σ1 σ2 : fS), fcallv (f_X3_copyFrom 16 1 σ) (fun s1 => fcall (fc s1) (fun r s2 => fcall (f_X7_noted r s2) (fun r3 s3 => some (r3, s3)))) = some (r, σ1) ∧ fcallv (f_X8_remembers σ1) (fun s1 => fcall (fm s1) (fun r s2 => fcall (f_X8_kept r s2) (fun r3 s3 => some (r3, s3)))) = some (r, σ2) ∧ LI σ2 := by
  obtain ⟨r, s1, s2, a, b, c, -⟩ := op_stepX hR hXR hop
  exact ⟨r, s1, s2, a, b, c⟩
theorem op_step {fc fm : fS → Option (Int32 × fS)} {σ : fS} (hop : ∀ P, aOK P → Op P fc fm) (hLI : LI σ) : ∃ (r : Int32) (σ1 σ2 : fS), fcallv (f_X3_copyFrom 16 1 σ) (fun s1 => fcall (fc s1) (fun r s2 => fcall (f_X7_noted r s2) (fun r3 s3 => some (r3, s3)))) = some (r, σ1) ∧ fcallv (f_X8_remembers σ1) (fun s1 => fcall (fm s1) (fun r s2 => fcall (f_X8_kept r s2) (fun r3 s3 => some (r3, s3)))) = some (r, σ2) ∧ LI σ2 := by
  obtain ⟨⟨P, k, F, hR⟩, hXR⟩ := hLI
  exact op_stepP hR hXR (hop P hR.2.2.1)
/-- both refuse, the reference before it remembers -/
theorem op_refuse {fc fm : fS → Option (Int32 × fS)} {σ : fS} {P : aP} {k : Nat} {F : Nat → aP} {r : Int32} (hR : RI σ P k F) (hXR : XR σ) (hr : isE r) (hc : ∀ s, PV 1 s P → fc s = some (r, s)) (hm : ∀ s : fS, GV (s 165) P → fm s = some (r, s)) : ∃ (r : Int32) (σ1 σ2 : fS), fcallv (f_X3_copyFrom 16 1 σ) (fun s1 => fcall (fc s1) (fun r s2 => fcall (f_X7_noted r s2) (fun r3 s3 => some (r3, s3)))) = some (r, σ1) ∧ fm σ1 = some (r, σ2) ∧ LI σ2 := by
  obtain ⟨hPV, hGV, hok, hHC, hHM, hF⟩ := hR
  obtain ⟨s1, e1, f1, g1⟩ := p_pcopy (b0 := 16) (b1 := 1) hPV hok.1 (Or.inr (by decide))
  have hP1 : PV 1 s1 P := hPV.of (fun c a b => f1 c (by omega))
  have hG1 : GV (s1 165) P := by rw [f1 165 (by decide)]; exact hGV
  rw [e1, fcallv_ok, hc s1 hP1, fcall_ok, p_notedE hr, fcall_ok]
  refine ⟨r, s1, s1, rfl, hm s1 hG1, ⟨P, k, F, hP1, hG1, hok, hHC.of (fun c a b => f1 c (by omega)), ?_, hF⟩, ?_⟩
  · unfold HM
    rw [f1 164 (by decide), f1 167 (by decide)]
    exact hHM
  · exact XR.of hXR (f1 _ (by decide)) (fun c a b => f1 _ (by omega)) (f1 _ (by decide)) (f1 _ (by decide)) (f1 _ (by decide)) (f1 _ (by decide)) (f1 _ (by decide)) (f1 _ (by decide)) (f1 _ (by decide)) (f1 _ (by decide)) (fun j _ => by rw [f1 164 (by decide)])
theorem eE2 : isE (-10002) := by unfold isE; decide
theorem eE1 : isE (-10001) := by unfold isE; decide
theorem eE3 : isE (-10003) := by unfold isE; decide
theorem nE {n : Nat} (h : n < 2 ^ 31) : ¬ isE (nI n) := by
  intro hE
  have h1 : ¬ (-10001 : Int32) < nI n := hE.2
  rw [Int32.lt_iff_toInt_lt, nI_toInt h, show (-10001 : Int32).toInt = -10001 from by decide] at h1
  omega
/-- both sides refuse -/
theorem Op.no {P : aP} (hok : aOK P) {fc fm : fS → Option (Int32 × fS)} {r : Int32} (hr : isE r) (hc : ∀ σ, PV 1 σ P → fc σ = some (r, σ)) (hm : ∀ σ, GV (σ 165) P → fm σ = some (r, σ)) : Op P fc fm :=
  ⟨r, P, hok, fun _ => rfl, fun σ h => ⟨σ, hc σ h, h, fun _ _ => rfl⟩, fun σ h => ⟨σ, hm σ h, h, fun _ _ => rfl⟩⟩
theorem aOK.ship {P : aP} (h : aOK P) {n1 n2 n3 n4 : Nat} (hl : (P.1 0).length < 4) (r : 50 ≤ n1 ∧ n1 ≤ 900 ∧ 1 ≤ n2 ∧ n2 ≤ 4 ∧ 10 ≤ n3 ∧ n3 ≤ 200 ∧ n4 ≤ 99) : aOK (setT P 0 (P.1 0 ++ [[n1, n2, n3, n4]])) := by
  obtain ⟨hz, h0, h1, h2, h3, h4, h5⟩ := h
  have e0 : (setT P 0 (P.1 0 ++ [[n1, n2, n3, n4]])).1 0 = P.1 0 ++ [[n1, n2, n3, n4]] := setT_self _ _ _
  have e1 : (setT P 0 (P.1 0 ++ [[n1, n2, n3, n4]])).1 1 = P.1 1 := setT_ne (by decide)
  have e2 : (setT P 0 (P.1 0 ++ [[n1, n2, n3, n4]])).1 2 = P.1 2 := setT_ne (by decide)
  have e3 : (setT P 0 (P.1 0 ++ [[n1, n2, n3, n4]])).1 3 = P.1 3 := setT_ne (by decide)
  have e4 : (setT P 0 (P.1 0 ++ [[n1, n2, n3, n4]])).1 4 = P.1 4 := setT_ne (by decide)
  refine ⟨fun j hj => ?_, ?_, ?_, ?_, ?_, ?_, h5⟩
  · by_cases hj0 : j = 0
    · subst hj0
      rw [e0, List.length_append]
      exact hl
    · rw [setT_ne hj0]; exact hz j hj
  · rw [e0]
    intro i hi
    rw [List.length_append] at hi
    by_cases hil : i < (P.1 0).length
    · simp only [tg_push hil]
      exact h0 i hil
    · have : i = (P.1 0).length := by simp at hi; omega
      subst this
      simp only [tg_last]
      exact r
  · rw [e1]; exact h1
  · rw [e2, e0, e1, List.length_append]
    intro i hi
    have := h2 i hi
    exact ⟨by omega, this.2⟩
  · rw [e3, e2]; exact h3
  · rw [e4, e2]; exact h4
theorem op_ship (P : aP) (hok : aOK P) (x1 x2 x3 x4 : Int32) : Op P (f_X3_enterShip 1 x1 x2 x3 x4) (f_X8_addsShip x1 x2 x3 x4) := by
  by_cases a1 : (50 : Int32) ≤ x1 ∧ x1 ≤ 900
  · by_cases a2 : (1 : Int32) ≤ x2 ∧ x2 ≤ 4
    · by_cases a3 : (10 : Int32) ≤ x3 ∧ x3 ≤ 200
      · by_cases a4 : (0 : Int32) ≤ x4 ∧ x4 ≤ 99
        · obtain ⟨n1, rfl, l1, u1⟩ := rng_nI (a := 50) (b := 900) rfl rfl (by decide) (by decide) a1
          obtain ⟨n2, rfl, l2, u2⟩ := rng_nI (a := 1) (b := 4) rfl rfl (by decide) (by decide) a2
          obtain ⟨n3, rfl, l3, u3⟩ := rng_nI (a := 10) (b := 200) rfl rfl (by decide) (by decide) a3
          obtain ⟨n4, rfl, -, u4⟩ := rng_nI (a := 0) (b := 99) rfl rfl (by decide) (by decide) a4
          have hl : (P.1 0).length ≤ 4 := hok.1 0 (by decide)
          have hc : ∀ σ, f_X3_enterShip 1 (nI n1) (nI n2) (nI n3) (nI n4) σ = fcall (f_X5_addRow 2 4 4 (nI n1) (nI n2) (nI n3) (nI n4) σ) (fun r s => some (r, s)) := by
            intro σ
            unfold f_X3_enterShip
            rw [p_isOutside, if_pos a1, fcall_ok, if_pos rfl, p_isOutside, if_pos a2, fcall_ok, if_pos rfl, p_isOutside, if_pos a3, fcall_ok, if_pos rfl, p_isOutside, if_pos a4, fcall_ok, if_pos rfl]
          by_cases hf : (P.1 0).length = 4
          · refine Op.no hok eE3 (fun σ h => ?_) (fun σ h => ?_)
            · rw [hc σ, (p_addRow (t := 2) (r := 4) (w := 4) (h.1 0 (by decide)) hl (by decide) (by decide) (by decide) n1 n2 n3 n4).1 hf]
              rfl
            · have hn : σ 165 98 = nI (P.1 0).length := (h.1 0 (by decide)).1
              unfold f_X8_addsShip
              rw [p_in, if_pos a1, fcall_ok, if_neg (by decide), p_in, if_pos a2, fcall_ok, if_neg (by decide), p_in, if_pos a3, fcall_ok, if_neg (by decide), p_in, if_pos a4, fcall_ok, if_neg (by decide), fb_x (show (98 : Int32) = nI 98 from rfl) (by decide) (by decide), if_pos (by rw [show (98 : Int32).toNatClampNeg = 98 from rfl, hn, hf]; rfl)]
          · have hlt : (P.1 0).length < 4 := by omega
            refine ⟨nI (P.1 0).length, setT P 0 (P.1 0 ++ [[n1, n2, n3, n4]]), hok.ship hlt ⟨l1, u1, l2, u2, l3, u3, u4⟩, fun h => absurd h (nE (by omega)), fun σ h => ?_, fun σ h => ?_⟩
            · obtain ⟨s, e, f1, f2, f3⟩ := (p_addRow (t := 2) (r := 4) (w := 4) (h.1 0 (by decide)) hl (by decide) (by decide) (by decide) n1 n2 n3 n4).2 hlt
              have e' : f_X5_addRow 2 4 4 (nI n1) (nI n2) (nI n3) (nI n4) σ = some (nI (P.1 0).length, s) := e
              rw [hc σ, e', fcall_ok]
              exact ⟨s, rfl, h.set (by decide) f3 (fun c a b x y => f1 c x y), fun c hc => f1 c (by omega) (by omega)⟩
            · have hn : σ 165 98 = nI (P.1 0).length := (h.1 0 (by decide)).1
              unfold f_X8_addsShip
              rw [p_in, if_pos a1, fcall_ok, if_neg (by decide), p_in, if_pos a2, fcall_ok, if_neg (by decide), p_in, if_pos a3, fcall_ok, if_neg (by decide), p_in, if_pos a4, fcall_ok, if_neg (by decide)]
              obtain ⟨s, e, k1, k2, k3, k4⟩ := p_mtail4 (CN := 98) (CB := 99) (W := 4) (RM := 4) (cn := 98) (rm := 4) rfl rfl rfl rfl hn hlt (by decide) (nI n1) (nI n2) (nI n3) (nI n4)
              rw [e]
              refine ⟨s, rfl, h.add (j := 0) (by decide) hok.1 hlt k2 (fun c hc => ?_) (fun k _ x y => k4 k x y), k1⟩
              have hc : c < 4 := hc
              have := k3 c hc
              rcases (show c = 0 ∨ c = 1 ∨ c = 2 ∨ c = 3 by omega) with rfl | rfl | rfl | rfl <;> exact this
        · refine Op.no hok eE2 (fun σ h => ?_) (fun σ h => ?_)
          · unfold f_X3_enterShip
            rw [p_isOutside, if_pos a1, fcall_ok, if_pos rfl, p_isOutside, if_pos a2, fcall_ok, if_pos rfl, p_isOutside, if_pos a3, fcall_ok, if_pos rfl, p_isOutside, if_neg a4, fcall_ok, if_neg (by decide)]
          · unfold f_X8_addsShip
            rw [p_in, if_pos a1, fcall_ok, if_neg (by decide), p_in, if_pos a2, fcall_ok, if_neg (by decide), p_in, if_pos a3, fcall_ok, if_neg (by decide), p_in, if_neg a4, fcall_ok, if_pos rfl]
      · refine Op.no hok eE2 (fun σ h => ?_) (fun σ h => ?_)
        · unfold f_X3_enterShip
          rw [p_isOutside, if_pos a1, fcall_ok, if_pos rfl, p_isOutside, if_pos a2, fcall_ok, if_pos rfl, p_isOutside, if_neg a3, fcall_ok, if_neg (by decide)]
        · unfold f_X8_addsShip
          rw [p_in, if_pos a1, fcall_ok, if_neg (by decide), p_in, if_pos a2, fcall_ok, if_neg (by decide), p_in, if_neg a3, fcall_ok, if_pos rfl]
    · refine Op.no hok eE2 (fun σ h => ?_) (fun σ h => ?_)
      · unfold f_X3_enterShip
        rw [p_isOutside, if_pos a1, fcall_ok, if_pos rfl, p_isOutside, if_neg a2, fcall_ok, if_neg (by decide)]
      · unfold f_X8_addsShip
        rw [p_in, if_pos a1, fcall_ok, if_neg (by decide), p_in, if_neg a2, fcall_ok, if_pos rfl]
  · refine Op.no hok eE2 (fun σ h => ?_) (fun σ h => ?_)
    · unfold f_X3_enterShip
      rw [p_isOutside, if_neg a1, fcall_ok, if_neg (by decide)]
    · unfold f_X8_addsShip
      rw [p_in, if_neg a1, fcall_ok, if_pos rfl]
theorem st_0 : ∀ (σ : fS) (x1 : Int32) (x2 : Int32) (x3 : Int32) (x4 : Int32), LI σ → ∃ (r : Int32) (σ1 σ2 : fS), f_X7_addShip x1 x2 x3 x4 σ = some (r, σ1) ∧ f_X8_addShip x1 x2 x3 x4 σ1 = some (r, σ2) ∧ LI σ2 := fun _ x1 x2 x3 x4 h => op_step (fun P hP => op_ship P hP x1 x2 x3 x4) h

theorem dep_iff {x3 x4 : Int32} : (¬ x3 < 0 ∧ ((0 : Int32) ≤ x4 ∧ x4 ≤ 2800) ∧ ((1 : Int32) ≤ x4 - x3 ∧ x4 - x3 ≤ 300)) ↔ (((0 : Int32) ≤ x3 ∧ x3 ≤ 2799) ∧ (x3 + 1 ≤ x4 ∧ x4 ≤ x3 + 300) ∧ x4 ≤ 2800) := by
  have l3 := Int32.le_toInt x3
  have u3 := Int32.toInt_lt x3
  have l4 := Int32.le_toInt x4
  have u4 := Int32.toInt_lt x4
  simp only [Int32.lt_iff_toInt_lt, Int32.le_iff_toInt_le, Int32.toInt_sub, Int32.toInt_add, show (0 : Int32).toInt = 0 from rfl, show (1 : Int32).toInt = 1 from rfl, show (300 : Int32).toInt = 300 from rfl, show (2800 : Int32).toInt = 2800 from rfl, show (2799 : Int32).toInt = 2799 from rfl]
  generalize x3.toInt = a at *
  generalize x4.toInt = b at *
  simp only [show (2 : Nat) ^ 32 = 4294967296 from rfl] at *
  constructor
  · rintro ⟨h1, ⟨h2, h3⟩, h4, h5⟩
    rw [Int.bmod_eq_of_le (by omega) (by omega)] at h4 h5
    refine ⟨⟨by omega, by omega⟩, ⟨?_, ?_⟩, h3⟩
    · rw [Int.bmod_eq_of_le (by omega) (by omega)]; omega
    · rw [Int.bmod_eq_of_le (by omega) (by omega)]; omega
  · rintro ⟨⟨h1, h2⟩, ⟨h3, h4⟩, h5⟩
    rw [Int.bmod_eq_of_le (by omega) (by omega)] at h3 h4
    refine ⟨by omega, ⟨by omega, h5⟩, ?_, ?_⟩
    · rw [Int.bmod_eq_of_le (by omega) (by omega)]; omega
    · rw [Int.bmod_eq_of_le (by omega) (by omega)]; omega
/-- the class's part behind ship and berth -/
theorem p_crossC {σ : fS} {x1 x2 x3 x4 : Int32} (k : fS → Option (Int32 × fS)) : (if x3 < 0 then some ((-10002 : Int32), σ) else fcall (f_X7_isOutside x4 (0 : Int32) (2800 : Int32) σ) (fun r3_ σ3 => (if r3_ = 0 then fcall (f_X7_isOutside (x4 - x3) (1 : Int32) (300 : Int32) σ3) (fun r4_ σ4 => (if r4_ = 0 then k σ4 else some ((-10002 : Int32), σ4))) else some ((-10002 : Int32), σ3)))) = if (¬ x3 < 0 ∧ ((0 : Int32) ≤ x4 ∧ x4 ≤ 2800) ∧ ((1 : Int32) ≤ x4 - x3 ∧ x4 - x3 ≤ 300)) then k σ else some (-10002, σ) := by
  by_cases h1 : x3 < 0
  · rw [if_pos h1, if_neg (fun h => h.1 h1)]
  · rw [if_neg h1, p_isOutside]
    by_cases h2 : (0 : Int32) ≤ x4 ∧ x4 ≤ 2800
    · rw [if_pos h2, fcall_ok, if_pos rfl, p_isOutside]
      by_cases h3 : (1 : Int32) ≤ x4 - x3 ∧ x4 - x3 ≤ 300
      · rw [if_pos h3, fcall_ok, if_pos rfl, if_pos ⟨h1, h2, h3⟩]
      · rw [if_neg h3, fcall_ok, if_neg (by decide), if_neg (fun h => h3 h.2.2)]
    · rw [if_neg h2, fcall_ok, if_neg (by decide), if_neg (fun h => h2 h.2.1)]
theorem p_crossM {σ : fS} {x3 x4 : Int32} (k : fS → Option (Int32 × fS)) : fcall (f_X8_in x3 (0 : Int32) (2799 : Int32) σ) (fun r3_ σ3 => (if r3_ = 0 then some ((-10002 : Int32), σ3) else fcall (f_X8_in x4 (x3 + (1 : Int32)) (x3 + (300 : Int32)) σ3) (fun r4_ σ4 => (if r4_ = 0 then some ((-10002 : Int32), σ4) else (if x4 ≤ (2800 : Int32) then k σ4 else some ((-10002 : Int32), σ4)))))) = if (((0 : Int32) ≤ x3 ∧ x3 ≤ 2799) ∧ (x3 + 1 ≤ x4 ∧ x4 ≤ x3 + 300) ∧ x4 ≤ 2800) then k σ else some (-10002, σ) := by
  rw [p_in]
  by_cases h1 : (0 : Int32) ≤ x3 ∧ x3 ≤ 2799
  · rw [if_pos h1, fcall_ok, if_neg (by decide), p_in]
    by_cases h2 : x3 + 1 ≤ x4 ∧ x4 ≤ x3 + 300
    · rw [if_pos h2, fcall_ok, if_neg (by decide)]
      by_cases h3 : x4 ≤ 2800
      · rw [if_pos h3, if_pos ⟨h1, h2, h3⟩]
      · rw [if_neg h3, if_neg (fun h => h3 h.2.2)]
    · rw [if_neg h2, fcall_ok, if_pos rfl, if_neg (fun h => h2 h.2.1)]
  · rw [if_neg h1, fcall_ok, if_pos rfl, if_neg (fun h => h1 h.1)]
theorem op_crossing (P : aP) (hok : aOK P) (x1 x2 x3 x4 : Int32) : Op P (f_X3_enterCrossing 1 x1 x2 x3 x4) (f_X8_addsCrossing x1 x2 x3 x4) := by
  have z0 : (P.1 0).length ≤ 4 := hok.1 0 (by decide)
  have z1 : (P.1 1).length ≤ 3 := hok.1 1 (by decide)
  have z2 : (P.1 2).length ≤ 12 := hok.1 2 (by decide)
  have cS : ∀ σ, PV 1 σ P → σ 2 3 = nI (P.1 0).length := fun σ h => (h.1 0 (by decide)).1
  have cB : ∀ σ, PV 1 σ P → σ 4 3 = nI (P.1 1).length := fun σ h => (h.1 1 (by decide)).1
  have mS : ∀ σ : fS, GV (σ 165) P → σ 165 98 = nI (P.1 0).length := fun σ h => (h.1 0 (by decide)).1
  have mB : ∀ σ : fS, GV (σ 165) P → σ 165 115 = nI (P.1 1).length := fun σ h => (h.1 1 (by decide)).1
  rcases ix_cases x1 (n := (P.1 0).length) (by omega) with ⟨i1, l1, rfl⟩ | o1
  · rcases ix_cases x2 (n := (P.1 1).length) (by omega) with ⟨i2, l2, rfl⟩ | o2
    · by_cases hA : ¬ x3 < 0 ∧ ((0 : Int32) ≤ x4 ∧ x4 ≤ 2800) ∧ ((1 : Int32) ≤ x4 - x3 ∧ x4 - x3 ≤ 300)
      · have hB := dep_iff.mp hA
        obtain ⟨n3, rfl, -, u3⟩ := rng_nI (a := 0) (b := 2799) rfl rfl (by decide) (by decide) hB.1
        obtain ⟨n4, rfl, -, u4⟩ := rng_nI (a := 0) (b := 2800) rfl rfl (by decide) (by decide) hA.2.1
        have g1 : n3 < n4 := by
          have := hB.2.1.1
          rw [nI_1] at this
          exact (nI_leI (by omega) (by omega)).mp this
        have g2 : n4 ≤ n3 + 300 := by
          have := hB.2.1.2
          rw [show nI n3 + (300 : Int32) = nI (n3 + 300) from nI_add n3 300] at this
          exact (nI_leI (by omega) (by omega)).mp this
        refine Op.add (n1 := i1) (n2 := i2) (n3 := n3) (n4 := n4) hok (j := 2) (by decide) (fun hl => hok.add hl (fun h => by cases h) (fun h => by cases h) (fun _ => ⟨l1, l2, g1, g2, u4⟩) (fun h => by cases h) (fun h => by cases h)) (fun σ h => ?_) (fun hf σ h => ?_) (fun hl σ h => ?_)
        · unfold f_X3_enterCrossing
          rw [p_has1 (cS σ h) (by omega) rfl l1, fcall_ok, if_neg (by decide), p_has1 (cB σ h) (by omega) rfl l2, fcall_ok, if_neg (by decide), p_crossC (x1 := 0) (x2 := 0), if_pos hA]
          rfl
        · have hn : σ 165 122 = nI (P.1 2).length := (h.1 2 (by decide)).1
          unfold f_X8_addsCrossing
          rw [p_isShip1 (mS σ h) (by omega) rfl l1, fcall_ok, if_neg (by decide), p_isBerth1 (mB σ h) (by omega) rfl l2, fcall_ok, if_neg (by decide), p_crossM, if_pos hB, fb_x (show (122 : Int32) = nI 122 from rfl) (by decide) (by decide), if_pos (by rw [show (122 : Int32).toNatClampNeg = 122 from rfl, hn, hf]; rfl)]
        · have hn : σ 165 122 = nI (P.1 2).length := (h.1 2 (by decide)).1
          unfold f_X8_addsCrossing
          rw [p_isShip1 (mS σ h) (by omega) rfl l1, fcall_ok, if_neg (by decide), p_isBerth1 (mB σ h) (by omega) rfl l2, fcall_ok, if_neg (by decide), p_crossM, if_pos hB]
          obtain ⟨s, e, k1, k2, k3, k4⟩ := p_mtail4 (CN := 122) (CB := 123) (W := 4) (RM := 12) (cn := 122) (rm := 12) rfl rfl rfl rfl hn hl (by decide) (nI i1) (nI i2) (nI n3) (nI n4)
          rw [e]
          refine ⟨s, rfl, k1, k2, fun c hc => ?_, k4⟩
          have hc : c < 4 := hc
          have := k3 c hc
          rcases (show c = 0 ∨ c = 1 ∨ c = 2 ∨ c = 3 by omega) with rfl | rfl | rfl | rfl <;> exact this
      · have hB : ¬ _ := fun h => hA (dep_iff.mpr h)
        refine Op.no hok eE2 (fun σ h => ?_) (fun σ h => ?_)
        · unfold f_X3_enterCrossing
          rw [p_has1 (cS σ h) (by omega) rfl l1, fcall_ok, if_neg (by decide), p_has1 (cB σ h) (by omega) rfl l2, fcall_ok, if_neg (by decide), p_crossC (x1 := 0) (x2 := 0), if_neg hA]
        · unfold f_X8_addsCrossing
          rw [p_isShip1 (mS σ h) (by omega) rfl l1, fcall_ok, if_neg (by decide), p_isBerth1 (mB σ h) (by omega) rfl l2, fcall_ok, if_neg (by decide), p_crossM, if_neg hB]
    · refine Op.no hok eE1 (fun σ h => ?_) (fun σ h => ?_)
      · unfold f_X3_enterCrossing
        rw [p_has1 (cS σ h) (by omega) rfl l1, fcall_ok, if_neg (by decide), p_has0 (cB σ h) o2, fcall_ok, if_pos rfl]
      · unfold f_X8_addsCrossing
        rw [p_isShip1 (mS σ h) (by omega) rfl l1, fcall_ok, if_neg (by decide), p_isBerth0 (mB σ h) (by omega) o2, fcall_ok, if_pos rfl]
  · refine Op.no hok eE1 (fun σ h => ?_) (fun σ h => ?_)
    · unfold f_X3_enterCrossing
      rw [p_has0 (cS σ h) o1, fcall_ok, if_pos rfl]
    · unfold f_X8_addsCrossing
      rw [p_isShip0 (mS σ h) (by omega) o1, fcall_ok, if_pos rfl]
theorem op_vehicle (P : aP) (hok : aOK P) (x1 x2 x3 : Int32) : Op P (f_X3_enterVehicle 1 x1 x2 x3) (f_X8_addsVehicle x1 x2 x3) := by
  have z2 : (P.1 2).length ≤ 12 := hok.1 2 (by decide)
  have cC : ∀ σ, PV 1 σ P → σ 6 3 = nI (P.1 2).length := fun σ h => (h.1 2 (by decide)).1
  have mC : ∀ σ : fS, GV (σ 165) P → σ 165 122 = nI (P.1 2).length := fun σ h => (h.1 2 (by decide)).1
  rcases ix_cases x1 (n := (P.1 2).length) (by omega) with ⟨i1, l1, rfl⟩ | o1
  · by_cases a2 : (3 : Int32) ≤ x2 ∧ x2 ≤ 30
    · by_cases a3 : (0 : Int32) ≤ x3 ∧ x3 ≤ 5
      · obtain ⟨n2, rfl, l2, u2⟩ := rng_nI (a := 3) (b := 30) rfl rfl (by decide) (by decide) a2
        obtain ⟨n3, rfl, -, u3⟩ := rng_nI (a := 0) (b := 5) rfl rfl (by decide) (by decide) a3
        refine Op.add (n1 := i1) (n2 := n2) (n3 := n3) (n4 := 0) hok (j := 3) (by decide) (fun hl => hok.add hl (fun h => by cases h) (fun h => by cases h) (fun h => by cases h) (fun _ => ⟨l1, l2, u2, u3⟩) (fun h => by cases h)) (fun σ h => ?_) (fun hf σ h => ?_) (fun hl σ h => ?_)
        · unfold f_X3_enterVehicle
          rw [p_has1 (cC σ h) (by omega) rfl l1, fcall_ok, if_neg (by decide), p_isOutside, if_pos a2, fcall_ok, if_pos rfl, p_isOutside, if_pos a3, fcall_ok, if_pos rfl]
          rfl
        · have hn : σ 165 171 = nI (P.1 3).length := (h.1 3 (by decide)).1
          unfold f_X8_addsVehicle
          rw [p_isCrossing1 (mC σ h) (by omega) rfl l1, fcall_ok, if_neg (by decide), p_in, if_pos a2, fcall_ok, if_neg (by decide), p_in, if_pos a3, fcall_ok, if_neg (by decide), fb_x (show (171 : Int32) = nI 171 from rfl) (by decide) (by decide), if_pos (by rw [show (171 : Int32).toNatClampNeg = 171 from rfl, hn, hf]; rfl)]
        · have hn : σ 165 171 = nI (P.1 3).length := (h.1 3 (by decide)).1
          unfold f_X8_addsVehicle
          rw [p_isCrossing1 (mC σ h) (by omega) rfl l1, fcall_ok, if_neg (by decide), p_in, if_pos a2, fcall_ok, if_neg (by decide), p_in, if_pos a3, fcall_ok, if_neg (by decide)]
          obtain ⟨s, e, k1, k2, k3, k4⟩ := p_mtail3 (CN := 171) (CB := 172) (W := 3) (RM := 24) (cn := 171) (rm := 24) rfl rfl rfl rfl hn hl (by decide) (nI i1) (nI n2) (nI n3)
          rw [e]
          refine ⟨s, rfl, k1, k2, fun c hc => ?_, k4⟩
          have hc : c < 3 := hc
          have := k3 c hc
          rcases (show c = 0 ∨ c = 1 ∨ c = 2 by omega) with rfl | rfl | rfl <;> exact this
      · refine Op.no hok eE2 (fun σ h => ?_) (fun σ h => ?_)
        · unfold f_X3_enterVehicle
          rw [p_has1 (cC σ h) (by omega) rfl l1, fcall_ok, if_neg (by decide), p_isOutside, if_pos a2, fcall_ok, if_pos rfl, p_isOutside, if_neg a3, fcall_ok, if_neg (by decide)]
        · unfold f_X8_addsVehicle
          rw [p_isCrossing1 (mC σ h) (by omega) rfl l1, fcall_ok, if_neg (by decide), p_in, if_pos a2, fcall_ok, if_neg (by decide), p_in, if_neg a3, fcall_ok, if_pos rfl]
    · refine Op.no hok eE2 (fun σ h => ?_) (fun σ h => ?_)
      · unfold f_X3_enterVehicle
        rw [p_has1 (cC σ h) (by omega) rfl l1, fcall_ok, if_neg (by decide), p_isOutside, if_neg a2, fcall_ok, if_neg (by decide)]
      · unfold f_X8_addsVehicle
        rw [p_isCrossing1 (mC σ h) (by omega) rfl l1, fcall_ok, if_neg (by decide), p_in, if_neg a2, fcall_ok, if_pos rfl]
  · refine Op.no hok eE1 (fun σ h => ?_) (fun σ h => ?_)
    · unfold f_X3_enterVehicle
      rw [p_has0 (cC σ h) o1, fcall_ok, if_pos rfl]
    · unfold f_X8_addsVehicle
      rw [p_isCrossing0 (mC σ h) (by omega) o1, fcall_ok, if_pos rfl]
theorem op_connection (P : aP) (hok : aOK P) (x1 x2 x3 x4 : Int32) : Op P (f_X3_enterConnection 1 x1 x2 x3 x4) (f_X8_addsConnection x1 x2 x3 x4) := by
  have z2 : (P.1 2).length ≤ 12 := hok.1 2 (by decide)
  have cC : ∀ σ, PV 1 σ P → σ 6 3 = nI (P.1 2).length := fun σ h => (h.1 2 (by decide)).1
  have mC : ∀ σ : fS, GV (σ 165) P → σ 165 122 = nI (P.1 2).length := fun σ h => (h.1 2 (by decide)).1
  rcases ix_cases x1 (n := (P.1 2).length) (by omega) with ⟨i1, l1, rfl⟩ | o1
  · by_cases a2 : (0 : Int32) ≤ x2 ∧ x2 ≤ 2800
    · by_cases a3 : (0 : Int32) ≤ x3 ∧ x3 ≤ 60
      · by_cases a4 : (1 : Int32) ≤ x4 ∧ x4 ≤ 999
        · obtain ⟨n2, rfl, -, u2⟩ := rng_nI (a := 0) (b := 2800) rfl rfl (by decide) (by decide) a2
          obtain ⟨n3, rfl, -, u3⟩ := rng_nI (a := 0) (b := 60) rfl rfl (by decide) (by decide) a3
          obtain ⟨n4, rfl, l4, u4⟩ := rng_nI (a := 1) (b := 999) rfl rfl (by decide) (by decide) a4
          refine Op.add (n1 := i1) (n2 := n2) (n3 := n3) (n4 := n4) hok (j := 4) (by decide) (fun hl => hok.add hl (fun h => by cases h) (fun h => by cases h) (fun h => by cases h) (fun h => by cases h) (fun _ => ⟨l1, u2, u3, l4, u4⟩)) (fun σ h => ?_) (fun hf σ h => ?_) (fun hl σ h => ?_)
          · unfold f_X3_enterConnection
            rw [p_has1 (cC σ h) (by omega) rfl l1, fcall_ok, if_neg (by decide), p_isOutside, if_pos a2, fcall_ok, if_pos rfl, p_isOutside, if_pos a3, fcall_ok, if_pos rfl, p_isOutside, if_pos a4, fcall_ok, if_pos rfl]
            rfl
          · have hn : σ 165 244 = nI (P.1 4).length := (h.1 4 (by decide)).1
            unfold f_X8_addsConnection
            rw [p_isCrossing1 (mC σ h) (by omega) rfl l1, fcall_ok, if_neg (by decide), p_in, if_pos a2, fcall_ok, if_neg (by decide), p_in, if_pos a3, fcall_ok, if_neg (by decide), p_in, if_pos a4, fcall_ok, if_neg (by decide), fb_x (show (244 : Int32) = nI 244 from rfl) (by decide) (by decide), if_pos (by rw [show (244 : Int32).toNatClampNeg = 244 from rfl, hn, hf]; rfl)]
          · have hn : σ 165 244 = nI (P.1 4).length := (h.1 4 (by decide)).1
            unfold f_X8_addsConnection
            rw [p_isCrossing1 (mC σ h) (by omega) rfl l1, fcall_ok, if_neg (by decide), p_in, if_pos a2, fcall_ok, if_neg (by decide), p_in, if_pos a3, fcall_ok, if_neg (by decide), p_in, if_pos a4, fcall_ok, if_neg (by decide)]
            obtain ⟨s, e, k1, k2, k3, k4⟩ := p_mtail4 (CN := 244) (CB := 245) (W := 4) (RM := 8) (cn := 244) (rm := 8) rfl rfl rfl rfl hn hl (by decide) (nI i1) (nI n2) (nI n3) (nI n4)
            rw [e]
            refine ⟨s, rfl, k1, k2, fun c hc => ?_, k4⟩
            have hc : c < 4 := hc
            have := k3 c hc
            rcases (show c = 0 ∨ c = 1 ∨ c = 2 ∨ c = 3 by omega) with rfl | rfl | rfl | rfl <;> exact this
        · refine Op.no hok eE2 (fun σ h => ?_) (fun σ h => ?_)
          · unfold f_X3_enterConnection
            rw [p_has1 (cC σ h) (by omega) rfl l1, fcall_ok, if_neg (by decide), p_isOutside, if_pos a2, fcall_ok, if_pos rfl, p_isOutside, if_pos a3, fcall_ok, if_pos rfl, p_isOutside, if_neg a4, fcall_ok, if_neg (by decide)]
          · unfold f_X8_addsConnection
            rw [p_isCrossing1 (mC σ h) (by omega) rfl l1, fcall_ok, if_neg (by decide), p_in, if_pos a2, fcall_ok, if_neg (by decide), p_in, if_pos a3, fcall_ok, if_neg (by decide), p_in, if_neg a4, fcall_ok, if_pos rfl]
      · refine Op.no hok eE2 (fun σ h => ?_) (fun σ h => ?_)
        · unfold f_X3_enterConnection
          rw [p_has1 (cC σ h) (by omega) rfl l1, fcall_ok, if_neg (by decide), p_isOutside, if_pos a2, fcall_ok, if_pos rfl, p_isOutside, if_neg a3, fcall_ok, if_neg (by decide)]
        · unfold f_X8_addsConnection
          rw [p_isCrossing1 (mC σ h) (by omega) rfl l1, fcall_ok, if_neg (by decide), p_in, if_pos a2, fcall_ok, if_neg (by decide), p_in, if_neg a3, fcall_ok, if_pos rfl]
    · refine Op.no hok eE2 (fun σ h => ?_) (fun σ h => ?_)
      · unfold f_X3_enterConnection
        rw [p_has1 (cC σ h) (by omega) rfl l1, fcall_ok, if_neg (by decide), p_isOutside, if_neg a2, fcall_ok, if_neg (by decide)]
      · unfold f_X8_addsConnection
        rw [p_isCrossing1 (mC σ h) (by omega) rfl l1, fcall_ok, if_neg (by decide), p_in, if_neg a2, fcall_ok, if_pos rfl]
  · refine Op.no hok eE1 (fun σ h => ?_) (fun σ h => ?_)
    · unfold f_X3_enterConnection
      rw [p_has0 (cC σ h) o1, fcall_ok, if_pos rfl]
    · unfold f_X8_addsConnection
      rw [p_isCrossing0 (mC σ h) (by omega) o1, fcall_ok, if_pos rfl]
theorem st_2 : ∀ (σ : fS) (x1 : Int32) (x2 : Int32) (x3 : Int32) (x4 : Int32), LI σ → ∃ (r : Int32) (σ1 σ2 : fS), f_X7_addCrossing x1 x2 x3 x4 σ = some (r, σ1) ∧ f_X8_addCrossing x1 x2 x3 x4 σ1 = some (r, σ2) ∧ LI σ2 := fun _ x1 x2 x3 x4 h => op_step (fun P hP => op_crossing P hP x1 x2 x3 x4) h
theorem st_3 : ∀ (σ : fS) (x1 : Int32) (x2 : Int32) (x3 : Int32), LI σ → ∃ (r : Int32) (σ1 σ2 : fS), f_X7_addVehicle x1 x2 x3 σ = some (r, σ1) ∧ f_X8_addVehicle x1 x2 x3 σ1 = some (r, σ2) ∧ LI σ2 := fun _ x1 x2 x3 h => op_step (fun P hP => op_vehicle P hP x1 x2 x3) h
theorem st_4 : ∀ (σ : fS) (x1 : Int32) (x2 : Int32) (x3 : Int32) (x4 : Int32), LI σ → ∃ (r : Int32) (σ1 σ2 : fS), f_X7_addConnection x1 x2 x3 x4 σ = some (r, σ1) ∧ f_X8_addConnection x1 x2 x3 x4 σ1 = some (r, σ2) ∧ LI σ2 := fun _ x1 x2 x3 x4 h => op_step (fun P hP => op_connection P hP x1 x2 x3 x4) h

/-! ===== sums over crossings, connections and vehicles ===== -/
abbrev DCc (σ : fS) (P : aP) : Prop := DC σ 140 139 141 142 143 P
abbrev DCm (σ : fS) (P : aP) : Prop := DC σ 172 171 173 174 175 P
abbrev LVc (σ : fS) (P : aP) : Prop := LV σ 146 149 147 150 152 153 154 155 (lA P) (P.1 2).length (P.1 3).length
abbrev LVm (σ : fS) (P : aP) : Prop := LV σ 177 176 184 182 178 179 180 181 (lA P) (P.1 2).length (P.1 3).length
abbrev FTc (σ : fS) (P : aP) : Prop := ∀ k, k < (P.1 4).length → σ 144 k = nI (kindF P (dA P).1 k)
theorem rsA (P : aP) (c : Nat) : (dA P).1 c ≤ 4 := rs_le P _ c
theorem c_sailsA {σ : fS} {P : aP} (hok : aOK P) (hD : DCc σ P) {c : Nat} (hc : c < (P.1 2).length) : f_X0_sails (nI c) σ = some (bI (decide ((dA P).1 c = 0)), σ) := c_sails (by have : (P.1 2).length ≤ 12 := hok.1 2 (by decide); omega) (rsA P c) (hD.1 c hc).2.1
def gS (P : aP) (w s i : Nat) : Nat := if (dA P).1 i = 0 ∧ tg (P.1 2) i w = s then 1 else 0
def gA (P : aP) (i : Nat) : Nat := if (dA P).1 i = 0 then 1 else 0
def gP (P : aP) (m : Bool) (k : Nat) : Nat := if decide (kindF P (dA P).1 k = 2) = m then tg (P.1 4) k 3 else 0
def gD (P : aP) (i : Nat) : Nat := (dA P).2.2 i
def gM (P : aP) (i : Nat) : Nat := if (dA P).1 i = 0 then laN P i * laL P i else 0
def gB (P : aP) (c v : Nat) : Nat := if abA (ab (lA P) v) = nI c then 1 else 0
def gBA (P : aP) (v : Nat) : Nat := if abA (ab (lA P) v) = -10004 then 0 else 1
def gL (P : aP) (v : Nat) : Nat := if abA (ab (lA P) v) = -10004 then 0 else tg (P.1 3) v 1
def gH (P : aP) (v : Nat) : Nat := sh (lA P) v
def gIn (P : aP) (c l v : Nat) : Nat := if abA (ab (lA P) v) = nI c ∧ abL (ab (lA P) v) = nI l then 1 else 0
def gMe (P : aP) (c l v : Nat) : Nat := if abA (ab (lA P) v) = nI c ∧ abL (ab (lA P) v) = nI l then tg (P.1 3) v 1 else 0
theorem nI_a0 (a : Nat) : nI a + (0 : Int32) = nI a := nI_add a 0
theorem c_countAll {b : Nat} {σ : fS} {P : aP} (hp : PV b σ P) (hok : aOK P) (hD : DCc σ P)  : f_X0_countAllSailing b σ = some (nI (sumN (gA P) 0 (P.1 2).length), σ) := by
  have z2 : (P.1 2).length ≤ 12 := hok.1 2 (by decide)
  have z3 : (P.1 3).length ≤ 24 := hok.1 3 (by decide)
  have z4 : (P.1 4).length ≤ 8 := hok.1 4 (by decide)
  unfold f_X0_countAllSailing
  refine sum_all (f := fun n a v => f_X0_countAllSailing_b4 b n a v σ) (g := gA P) (by omega) (fun n a => ?_) (fun n a i hi => ?_)
  · show f_X0_countAllSailing_b4 b (n + 1) (nI a) (nI (P.1 2).length) σ = _
    rw [f_X0_countAllSailing_b4, cCn hp, fcall_ok, if_pos (nI_le (Nat.le_refl _) (by omega))]
  · show f_X0_countAllSailing_b4 b (n + 1) (nI a) (nI i) σ = f_X0_countAllSailing_b4 b n (nI (a + gA P i)) (nI (i + 1)) σ
    rw [f_X0_countAllSailing_b4, cCn hp, fcall_ok, if_neg (nI_ge hi (by omega))]
    rw [c_sailsA hok hD hi, fcall_ok]
    unfold f_X0_countAllSailing_b26 gA
    by_cases h0 : (dA P).1 i = 0
    · rw [decide_eq_true h0, if_neg bI_t, if_pos h0, nI_1, nI_1]
    · rw [decide_eq_false h0, if_pos bI_f, if_neg h0, nI_1]; rfl
theorem c_countS {b : Nat} {σ : fS} {P : aP} (hp : PV b σ P) (hok : aOK P) (hD : DCc σ P) {w s : Nat} {x : Int32} (hx : x = nI w) (hw : w < 4) (hs : s < 2 ^ 31) : f_X0_countSailing b x (nI s) σ = some (nI (sumN (gS P w s) 0 (P.1 2).length), σ) := by
  have z2 : (P.1 2).length ≤ 12 := hok.1 2 (by decide)
  have z3 : (P.1 3).length ≤ 24 := hok.1 3 (by decide)
  have z4 : (P.1 4).length ≤ 8 := hok.1 4 (by decide)
  unfold f_X0_countSailing
  refine sum_all (f := fun n a v => f_X0_countSailing_b6 b n x (nI s) a v σ) (g := gS P w s) (by omega) (fun n a => ?_) (fun n a i hi => ?_)
  · show f_X0_countSailing_b6 b (n + 1) x (nI s) (nI a) (nI (P.1 2).length) σ = _
    rw [f_X0_countSailing_b6, cCn hp, fcall_ok, if_pos (nI_le (Nat.le_refl _) (by omega))]
  · show f_X0_countSailing_b6 b (n + 1) x (nI s) (nI a) (nI i) σ = f_X0_countSailing_b6 b n x (nI s) (nI (a + gS P w s i)) (nI (i + 1)) σ
    rw [f_X0_countSailing_b6, cCn hp, fcall_ok, if_neg (nI_ge hi (by omega))]
    rw [c_sailsA hok hD hi, fcall_ok]
    unfold f_X0_countSailing_b44 gS
    by_cases h0 : (dA P).1 i = 0
    · rw [decide_eq_true h0, if_neg bI_t, cC hp hok.1 hi hx hw, fcall_ok]
      by_cases h1 : tg (P.1 2) i w = s
      · rw [if_pos (by rw [h1]), if_pos ⟨h0, h1⟩, nI_1, nI_1]
      · rw [if_neg (fun e => h1 (nI_inj (okCol hok hi hw) hs e)), if_neg (fun e => h1 e.2), nI_1]; rfl
    · rw [decide_eq_false h0, if_pos bI_f, if_neg (fun e => h0 e.1), nI_1]; rfl
theorem c_passengers {b : Nat} {σ : fS} {P : aP} (hp : PV b σ P) (hok : aOK P) (hF : FTc σ P) (m : Bool) : f_X0_sumPassengers b (bI m) σ = some (nI (sumN (gP P m) 0 (P.1 4).length), σ) := by
  have z2 : (P.1 2).length ≤ 12 := hok.1 2 (by decide)
  have z3 : (P.1 3).length ≤ 24 := hok.1 3 (by decide)
  have z4 : (P.1 4).length ≤ 8 := hok.1 4 (by decide)
  unfold f_X0_sumPassengers
  refine sum_all (f := fun n a v => f_X0_sumPassengers_b5 b n (bI m) a v σ) (g := gP P m) (by omega) (fun n a => ?_) (fun n a i hi => ?_)
  · show f_X0_sumPassengers_b5 b (n + 1) (bI m) (nI a) (nI (P.1 4).length) σ = _
    rw [f_X0_sumPassengers_b5, cKn hp, fcall_ok, if_pos (nI_le (Nat.le_refl _) (by omega))]
  · show f_X0_sumPassengers_b5 b (n + 1) (bI m) (nI a) (nI i) σ = f_X0_sumPassengers_b5 b n (bI m) (nI (a + gP P m i)) (nI (i + 1)) σ
    rw [f_X0_sumPassengers_b5, cKn hp, fcall_ok, if_neg (nI_ge hi (by omega))]
    have kl := kindF_le P (dA P).1 i
    rw [fb_x rfl (by omega) (by decide), nI_clamp (by omega), hF i hi]
    unfold f_X0_sumPassengers_b33 f_X0_sumPassengers_b50 gP
    by_cases h0 : kindF P (dA P).1 i = 2
    · rw [if_pos (by rw [h0]; rfl), decide_eq_true h0]
      cases m with
      | true => rw [if_pos (show (1 : Int32) = bI true from rfl), if_pos rfl, cK3 hp hok.1 hi, fcall_ok, nI_add, nI_1]
      | false => rw [if_neg (by decide), if_neg (by decide), nI_1]; rfl
    · rw [if_neg (show ¬ nI (kindF P (dA P).1 i) = (2 : Int32) from fun e => h0 (nI_inj (b := 2) (by omega) (by decide) e)), decide_eq_false h0]
      cases m with
      | true => rw [if_neg (by decide), if_neg (by decide), nI_1]; rfl
      | false => rw [if_pos (show (0 : Int32) = bI false from rfl), if_pos rfl, cK3 hp hok.1 hi, fcall_ok, nI_add, nI_1]
theorem c_delays {b : Nat} {σ : fS} {P : aP} (hp : PV b σ P) (hok : aOK P) (hD : DCc σ P)  : f_X0_sumDelays b σ = some (nI (sumN (gD P) 0 (P.1 2).length), σ) := by
  have z2 : (P.1 2).length ≤ 12 := hok.1 2 (by decide)
  have z3 : (P.1 3).length ≤ 24 := hok.1 3 (by decide)
  have z4 : (P.1 4).length ≤ 8 := hok.1 4 (by decide)
  unfold f_X0_sumDelays
  refine sum_all (f := fun n a v => f_X0_sumDelays_b4 b n a v σ) (g := gD P) (by omega) (fun n a => ?_) (fun n a i hi => ?_)
  · show f_X0_sumDelays_b4 b (n + 1) (nI a) (nI (P.1 2).length) σ = _
    rw [f_X0_sumDelays_b4, cCn hp, fcall_ok, if_pos (nI_le (Nat.le_refl _) (by omega))]
  · show f_X0_sumDelays_b4 b (n + 1) (nI a) (nI i) σ = f_X0_sumDelays_b4 b n (nI (a + gD P i)) (nI (i + 1)) σ
    rw [f_X0_sumDelays_b4, cCn hp, fcall_ok, if_neg (nI_ge hi (by omega))]
    rw [fb_x rfl (by omega) (by decide), nI_clamp (by omega), (hD.1 i hi).2.2.2, nI_add, nI_1]
    rfl
theorem c_laneMeters {b : Nat} {σ : fS} {P : aP} (hp : PV b σ P) (hok : aOK P) (hD : DCc σ P)  : f_X0_sumLaneMeters b σ = some (nI (sumN (gM P) 0 (P.1 2).length), σ) := by
  have z2 : (P.1 2).length ≤ 12 := hok.1 2 (by decide)
  have z3 : (P.1 3).length ≤ 24 := hok.1 3 (by decide)
  have z4 : (P.1 4).length ≤ 8 := hok.1 4 (by decide)
  unfold f_X0_sumLaneMeters
  refine sum_all (f := fun n a v => f_X0_sumLaneMeters_b4 b n a v σ) (g := gM P) (by omega) (fun n a => ?_) (fun n a i hi => ?_)
  · show f_X0_sumLaneMeters_b4 b (n + 1) (nI a) (nI (P.1 2).length) σ = _
    rw [f_X0_sumLaneMeters_b4, cCn hp, fcall_ok, if_pos (nI_le (Nat.le_refl _) (by omega))]
  · show f_X0_sumLaneMeters_b4 b (n + 1) (nI a) (nI i) σ = f_X0_sumLaneMeters_b4 b n (nI (a + gM P i)) (nI (i + 1)) σ
    rw [f_X0_sumLaneMeters_b4, cCn hp, fcall_ok, if_neg (nI_ge hi (by omega))]
    rw [c_sailsA hok hD hi, fcall_ok]
    unfold f_X0_sumLaneMeters_b37 gM
    by_cases h0 : (dA P).1 i = 0
    · rw [decide_eq_true h0, if_neg bI_t, if_pos h0, c_laN hp hok hi, fcall_ok, c_laL hp hok hi, fcall_ok, nI_mul, nI_add, nI_1]
    · rw [decide_eq_false h0, if_pos bI_f, if_neg h0, nI_1]; rfl
theorem c_countAboard {b : Nat} {σ : fS} {P : aP} (hp : PV b σ P) (hok : aOK P) (hL : LVc σ P) (c : Nat) : f_X2_countAboard b (nI c) σ = some (nI (sumN (gB P c) 0 (P.1 3).length), σ) := by
  have z2 : (P.1 2).length ≤ 12 := hok.1 2 (by decide)
  have z3 : (P.1 3).length ≤ 24 := hok.1 3 (by decide)
  have z4 : (P.1 4).length ≤ 8 := hok.1 4 (by decide)
  unfold f_X2_countAboard
  refine sum_all (f := fun n a v => f_X2_countAboard_b5 b n (nI c) a v σ) (g := gB P c) (by omega) (fun n a => ?_) (fun n a i hi => ?_)
  · show f_X2_countAboard_b5 b (n + 1) (nI c) (nI a) (nI (P.1 3).length) σ = _
    rw [f_X2_countAboard_b5, cVn hp, fcall_ok, if_pos (nI_le (Nat.le_refl _) (by omega))]
  · show f_X2_countAboard_b5 b (n + 1) (nI c) (nI a) (nI i) σ = f_X2_countAboard_b5 b n (nI c) (nI (a + gB P c i)) (nI (i + 1)) σ
    rw [f_X2_countAboard_b5, cVn hp, fcall_ok, if_neg (nI_ge hi (by omega))]
    rw [fb_x rfl (by omega) (by decide), nI_clamp (by omega), (hL.2.2 i hi).1]
    unfold f_X2_countAboard_b31 gB
    by_cases h0 : abA (ab (lA P) i) = nI c
    · rw [if_pos h0, if_pos h0, nI_1, nI_1]
    · rw [if_neg h0, if_neg h0, nI_1]; rfl
theorem c_allAboard {b : Nat} {σ : fS} {P : aP} (hp : PV b σ P) (hok : aOK P) (hL : LVc σ P)  : f_X2_countAllAboard b σ = some (nI (sumN (gBA P) 0 (P.1 3).length), σ) := by
  have z2 : (P.1 2).length ≤ 12 := hok.1 2 (by decide)
  have z3 : (P.1 3).length ≤ 24 := hok.1 3 (by decide)
  have z4 : (P.1 4).length ≤ 8 := hok.1 4 (by decide)
  unfold f_X2_countAllAboard
  refine sum_all (f := fun n a v => f_X2_countAllAboard_b4 b n a v σ) (g := gBA P) (by omega) (fun n a => ?_) (fun n a i hi => ?_)
  · show f_X2_countAllAboard_b4 b (n + 1) (nI a) (nI (P.1 3).length) σ = _
    rw [f_X2_countAllAboard_b4, cVn hp, fcall_ok, if_pos (nI_le (Nat.le_refl _) (by omega))]
  · show f_X2_countAllAboard_b4 b (n + 1) (nI a) (nI i) σ = f_X2_countAllAboard_b4 b n (nI (a + gBA P i)) (nI (i + 1)) σ
    rw [f_X2_countAllAboard_b4, cVn hp, fcall_ok, if_neg (nI_ge hi (by omega))]
    rw [fb_x rfl (by omega) (by decide), nI_clamp (by omega), (hL.2.2 i hi).1]
    unfold f_X2_countAllAboard_b30 gBA
    by_cases h0 : abA (ab (lA P) i) = -10004
    · rw [if_pos h0, if_pos h0, nI_1]; rfl
    · rw [if_neg h0, if_neg h0, nI_1, nI_1]
theorem c_metersAboard {b : Nat} {σ : fS} {P : aP} (hp : PV b σ P) (hok : aOK P) (hL : LVc σ P)  : f_X2_sumMetersAboard b σ = some (nI (sumN (gL P) 0 (P.1 3).length), σ) := by
  have z2 : (P.1 2).length ≤ 12 := hok.1 2 (by decide)
  have z3 : (P.1 3).length ≤ 24 := hok.1 3 (by decide)
  have z4 : (P.1 4).length ≤ 8 := hok.1 4 (by decide)
  unfold f_X2_sumMetersAboard
  refine sum_all (f := fun n a v => f_X2_sumMetersAboard_b4 b n a v σ) (g := gL P) (by omega) (fun n a => ?_) (fun n a i hi => ?_)
  · show f_X2_sumMetersAboard_b4 b (n + 1) (nI a) (nI (P.1 3).length) σ = _
    rw [f_X2_sumMetersAboard_b4, cVn hp, fcall_ok, if_pos (nI_le (Nat.le_refl _) (by omega))]
  · show f_X2_sumMetersAboard_b4 b (n + 1) (nI a) (nI i) σ = f_X2_sumMetersAboard_b4 b n (nI (a + gL P i)) (nI (i + 1)) σ
    rw [f_X2_sumMetersAboard_b4, cVn hp, fcall_ok, if_neg (nI_ge hi (by omega))]
    rw [fb_x rfl (by omega) (by decide), nI_clamp (by omega), (hL.2.2 i hi).1]
    unfold f_X2_sumMetersAboard_b39 gL
    by_cases h0 : abA (ab (lA P) i) = -10004
    · rw [if_pos h0, if_pos h0, nI_1]; rfl
    · rw [if_neg h0, if_neg h0, cV1 hp hok.1 hi, fcall_ok, nI_add, nI_1]
theorem c_shifts {b : Nat} {σ : fS} {P : aP} (hp : PV b σ P) (hok : aOK P) (hL : LVc σ P)  : f_X2_sumShifts b σ = some (nI (sumN (gH P) 0 (P.1 3).length), σ) := by
  have z2 : (P.1 2).length ≤ 12 := hok.1 2 (by decide)
  have z3 : (P.1 3).length ≤ 24 := hok.1 3 (by decide)
  have z4 : (P.1 4).length ≤ 8 := hok.1 4 (by decide)
  unfold f_X2_sumShifts
  refine sum_all (f := fun n a v => f_X2_sumShifts_b4 b n a v σ) (g := gH P) (by omega) (fun n a => ?_) (fun n a i hi => ?_)
  · show f_X2_sumShifts_b4 b (n + 1) (nI a) (nI (P.1 3).length) σ = _
    rw [f_X2_sumShifts_b4, cVn hp, fcall_ok, if_pos (nI_le (Nat.le_refl _) (by omega))]
  · show f_X2_sumShifts_b4 b (n + 1) (nI a) (nI i) σ = f_X2_sumShifts_b4 b n (nI (a + gH P i)) (nI (i + 1)) σ
    rw [f_X2_sumShifts_b4, cVn hp, fcall_ok, if_neg (nI_ge hi (by omega))]
    rw [fb_x rfl (by omega) (by decide), nI_clamp (by omega), (hL.2.2 i hi).2.2.2, nI_add, nI_1]
    rfl
theorem c_inLane {b : Nat} {σ : fS} {P : aP} (hp : PV b σ P) (hok : aOK P) (hL : LVc σ P) (c l : Nat) : f_X2_countInLane b (nI c) (nI l) σ = some (nI (sumN (gIn P c l) 0 (P.1 3).length), σ) := by
  have z2 : (P.1 2).length ≤ 12 := hok.1 2 (by decide)
  have z3 : (P.1 3).length ≤ 24 := hok.1 3 (by decide)
  have z4 : (P.1 4).length ≤ 8 := hok.1 4 (by decide)
  unfold f_X2_countInLane
  refine sum_all (f := fun n a v => f_X2_countInLane_b6 b n (nI c) (nI l) a v σ) (g := gIn P c l) (by omega) (fun n a => ?_) (fun n a i hi => ?_)
  · show f_X2_countInLane_b6 b (n + 1) (nI c) (nI l) (nI a) (nI (P.1 3).length) σ = _
    rw [f_X2_countInLane_b6, cVn hp, fcall_ok, if_pos (nI_le (Nat.le_refl _) (by omega))]
  · show f_X2_countInLane_b6 b (n + 1) (nI c) (nI l) (nI a) (nI i) σ = f_X2_countInLane_b6 b n (nI c) (nI l) (nI (a + gIn P c l i)) (nI (i + 1)) σ
    rw [f_X2_countInLane_b6, cVn hp, fcall_ok, if_neg (nI_ge hi (by omega))]
    rw [fb_x rfl (by omega) (by decide), nI_clamp (by omega), (hL.2.2 i hi).1]
    unfold f_X2_countInLane_b43 gIn
    by_cases h0 : abA (ab (lA P) i) = nI c
    · rw [if_pos h0, fb_x rfl (by omega) (by decide), (hL.2.2 i hi).2.1]
      by_cases h1 : abL (ab (lA P) i) = nI l
      · rw [if_pos h1, if_pos ⟨h0, h1⟩, nI_1, nI_1]
      · rw [if_neg h1, if_neg (fun e => h1 e.2), nI_1]; rfl
    · rw [if_neg h0, if_neg (fun e => h0 e.1), nI_1]; rfl
theorem c_metersIn {b : Nat} {σ : fS} {P : aP} (hp : PV b σ P) (hok : aOK P) (hL : LVc σ P) (c l : Nat) : f_X2_sumMetersInLane b (nI c) (nI l) σ = some (nI (sumN (gMe P c l) 0 (P.1 3).length), σ) := by
  have z2 : (P.1 2).length ≤ 12 := hok.1 2 (by decide)
  have z3 : (P.1 3).length ≤ 24 := hok.1 3 (by decide)
  have z4 : (P.1 4).length ≤ 8 := hok.1 4 (by decide)
  unfold f_X2_sumMetersInLane
  refine sum_all (f := fun n a v => f_X2_sumMetersInLane_b6 b n (nI c) (nI l) a v σ) (g := gMe P c l) (by omega) (fun n a => ?_) (fun n a i hi => ?_)
  · show f_X2_sumMetersInLane_b6 b (n + 1) (nI c) (nI l) (nI a) (nI (P.1 3).length) σ = _
    rw [f_X2_sumMetersInLane_b6, cVn hp, fcall_ok, if_pos (nI_le (Nat.le_refl _) (by omega))]
  · show f_X2_sumMetersInLane_b6 b (n + 1) (nI c) (nI l) (nI a) (nI i) σ = f_X2_sumMetersInLane_b6 b n (nI c) (nI l) (nI (a + gMe P c l i)) (nI (i + 1)) σ
    rw [f_X2_sumMetersInLane_b6, cVn hp, fcall_ok, if_neg (nI_ge hi (by omega))]
    rw [fb_x rfl (by omega) (by decide), nI_clamp (by omega), (hL.2.2 i hi).1]
    unfold f_X2_sumMetersInLane_b55 gMe
    by_cases h0 : abA (ab (lA P) i) = nI c
    · rw [if_pos h0, fb_x rfl (by omega) (by decide), (hL.2.2 i hi).2.1]
      by_cases h1 : abL (ab (lA P) i) = nI l
      · rw [if_pos h1, if_pos ⟨h0, h1⟩, cV1 hp hok.1 hi, fcall_ok, nI_add, nI_1]
      · rw [if_neg h1, if_neg (fun e => h1 e.2), nI_1]; rfl
    · rw [if_neg h0, if_neg (fun e => h0 e.1), nI_1]; rfl
theorem m_countAll {σ : fS} {P : aP} (hg : GV (σ 165) P) (hok : aOK P) (hD : DCm σ P)  : f_X8_sailing_b9 fN 2 0 0 0 σ = some (nI (sumN (gA P) 0 (P.1 2).length), σ) := by
  have z2 : (P.1 2).length ≤ 12 := hok.1 2 (by decide)
  have z3 : (P.1 3).length ≤ 24 := hok.1 3 (by decide)
  have z4 : (P.1 4).length ≤ 8 := hok.1 4 (by decide)
  skip
  refine sum_all (f := fun n a v => f_X8_sailing_b9 n 2 0 a v σ) (g := gA P) (by omega) (fun n a => ?_) (fun n a i hi => ?_)
  · show f_X8_sailing_b9 (n + 1) 2 0 (nI a) (nI (P.1 2).length) σ = _
    rw [f_X8_sailing_b9, fb122, mCn hg, if_pos (nI_le (Nat.le_refl _) (by omega))]
  · show f_X8_sailing_b9 (n + 1) 2 0 (nI a) (nI i) σ = f_X8_sailing_b9 n 2 0 (nI (a + gA P i)) (nI (i + 1)) σ
    rw [f_X8_sailing_b9, fb122, mCn hg, if_neg (nI_ge hi (by omega))]
    have rl := rsA P i
    rw [fb_x rfl (by omega) (by decide), nI_clamp (by omega), (hD.1 i hi).2.1]
    unfold f_X8_sailing_b48 f_X8_sailing_b52 f_X8_sailing_b53 gA
    by_cases h0 : (dA P).1 i = 0
    · rw [h0, if_pos nI_0, if_pos rfl, if_pos rfl, nI_1, nI_1]
    · rw [if_neg (nI_ne0 (by omega) (by omega)), if_neg h0, nI_1, nI_a0]; rfl
theorem m_countS {σ : fS} {P : aP} (hg : GV (σ 165) P) (hok : aOK P) (hD : DCm σ P) {w s : Nat} {x : Int32} (hx : x = nI w) (hw : w < 2) (hs : s < 2 ^ 31) : f_X8_sailing_b9 fN x (nI s) 0 0 σ = some (nI (sumN (gS P w s) 0 (P.1 2).length), σ) := by
  have z2 : (P.1 2).length ≤ 12 := hok.1 2 (by decide)
  have z3 : (P.1 3).length ≤ 24 := hok.1 3 (by decide)
  have z4 : (P.1 4).length ≤ 8 := hok.1 4 (by decide)
  have hx2 : ¬ x = (2 : Int32) := fun e => by rw [hx] at e; have := nI_inj (b := 2) (by omega) (by decide) e; omega
  refine sum_all (f := fun n a v => f_X8_sailing_b9 n x (nI s) a v σ) (g := gS P w s) (by omega) (fun n a => ?_) (fun n a i hi => ?_)
  · show f_X8_sailing_b9 (n + 1) x (nI s) (nI a) (nI (P.1 2).length) σ = _
    rw [f_X8_sailing_b9, fb122, mCn hg, if_pos (nI_le (Nat.le_refl _) (by omega))]
  · show f_X8_sailing_b9 (n + 1) x (nI s) (nI a) (nI i) σ = f_X8_sailing_b9 n x (nI s) (nI (a + gS P w s i)) (nI (i + 1)) σ
    rw [f_X8_sailing_b9, fb122, mCn hg, if_neg (nI_ge hi (by omega))]
    have rl := rsA P i
    rw [fb_x rfl (by omega) (by decide), nI_clamp (by omega), (hD.1 i hi).2.1]
    unfold f_X8_sailing_b48 f_X8_sailing_b52 f_X8_sailing_b53 gS
    by_cases h0 : (dA P).1 i = 0
    · rw [if_pos (by rw [h0]; rfl), if_neg hx2, mC hg hok.1 hi hx (by omega), fcall_ok]
      by_cases h1 : tg (P.1 2) i w = s
      · rw [if_pos (by rw [h1]), if_pos ⟨h0, h1⟩, nI_1, nI_1]
      · rw [if_neg (fun e => h1 (nI_inj (okCol hok hi (by omega)) hs e)), if_neg (fun e => h1 e.2), nI_1, nI_a0]; rfl
    · rw [if_neg (nI_ne0 (by omega) (by omega)), if_neg (fun e => h0 e.1), nI_1, nI_a0]; rfl
theorem m_loaded {σ : fS} {P : aP} (hg : GV (σ 165) P) (hok : aOK P) (hL : LVm σ P) (c : Nat) : f_X8_loaded (nI c) σ = some (nI (sumN (gB P c) 0 (P.1 3).length), σ) := by
  have z2 : (P.1 2).length ≤ 12 := hok.1 2 (by decide)
  have z3 : (P.1 3).length ≤ 24 := hok.1 3 (by decide)
  have z4 : (P.1 4).length ≤ 8 := hok.1 4 (by decide)
  unfold f_X8_loaded
  refine sum_all (f := fun n a v => f_X8_loaded_b4 n (nI c) a v σ) (g := gB P c) (by omega) (fun n a => ?_) (fun n a i hi => ?_)
  · show f_X8_loaded_b4 (n + 1) (nI c) (nI a) (nI (P.1 3).length) σ = _
    rw [f_X8_loaded_b4, fb171, mVn hg, if_pos (nI_le (Nat.le_refl _) (by omega))]
  · show f_X8_loaded_b4 (n + 1) (nI c) (nI a) (nI i) σ = f_X8_loaded_b4 n (nI c) (nI (a + gB P c i)) (nI (i + 1)) σ
    rw [f_X8_loaded_b4, fb171, mVn hg, if_neg (nI_ge hi (by omega))]
    rw [fb_x rfl (by omega) (by decide), nI_clamp (by omega), (hL.2.2 i hi).1]
    unfold f_X8_loaded_b32 gB
    by_cases h0 : abA (ab (lA P) i) = nI c
    · rw [if_pos h0, if_pos h0, nI_1, nI_1]
    · rw [if_neg h0, if_neg h0, nI_1, nI_a0]; rfl
theorem m_meters {σ : fS} {P : aP} (hg : GV (σ 165) P) (hok : aOK P) (hL : LVm σ P)  : f_X8_meters σ = some (nI (sumN (gL P) 0 (P.1 3).length), σ) := by
  have z2 : (P.1 2).length ≤ 12 := hok.1 2 (by decide)
  have z3 : (P.1 3).length ≤ 24 := hok.1 3 (by decide)
  have z4 : (P.1 4).length ≤ 8 := hok.1 4 (by decide)
  unfold f_X8_meters
  refine sum_all (f := fun n a v => f_X8_meters_b4 n a v σ) (g := gL P) (by omega) (fun n a => ?_) (fun n a i hi => ?_)
  · show f_X8_meters_b4 (n + 1) (nI a) (nI (P.1 3).length) σ = _
    rw [f_X8_meters_b4, fb171, mVn hg, if_pos (nI_le (Nat.le_refl _) (by omega))]
  · show f_X8_meters_b4 (n + 1) (nI a) (nI i) σ = f_X8_meters_b4 n (nI (a + gL P i)) (nI (i + 1)) σ
    rw [f_X8_meters_b4, fb171, mVn hg, if_neg (nI_ge hi (by omega))]
    rw [fb_x rfl (by omega) (by decide), nI_clamp (by omega), (hL.2.2 i hi).1]
    unfold f_X8_meters_b39 gL
    by_cases h0 : abA (ab (lA P) i) = -10004
    · rw [if_pos h0, if_pos h0, nI_1, nI_a0]; rfl
    · rw [if_neg h0, if_neg h0, mV1 hg hok.1 hi, fcall_ok, nI_add, nI_1]
theorem m_allAboard {σ : fS} {P : aP} (hg : GV (σ 165) P) (hok : aOK P) (hL : LVm σ P)  : f_X8_allAboard σ = some (nI (sumN (gBA P) 0 (P.1 3).length), σ) := by
  have z2 : (P.1 2).length ≤ 12 := hok.1 2 (by decide)
  have z3 : (P.1 3).length ≤ 24 := hok.1 3 (by decide)
  have z4 : (P.1 4).length ≤ 8 := hok.1 4 (by decide)
  unfold f_X8_allAboard
  refine sum_all (f := fun n a v => f_X8_allAboard_b4 n a v σ) (g := gBA P) (by omega) (fun n a => ?_) (fun n a i hi => ?_)
  · show f_X8_allAboard_b4 (n + 1) (nI a) (nI (P.1 3).length) σ = _
    rw [f_X8_allAboard_b4, fb171, mVn hg, if_pos (nI_le (Nat.le_refl _) (by omega))]
  · show f_X8_allAboard_b4 (n + 1) (nI a) (nI i) σ = f_X8_allAboard_b4 n (nI (a + gBA P i)) (nI (i + 1)) σ
    rw [f_X8_allAboard_b4, fb171, mVn hg, if_neg (nI_ge hi (by omega))]
    rw [fb_x rfl (by omega) (by decide), nI_clamp (by omega), (hL.2.2 i hi).1]
    unfold f_X8_allAboard_b34 gBA
    by_cases h0 : abA (ab (lA P) i) = -10004
    · rw [if_pos h0, if_pos h0, nI_1, nI_a0]; rfl
    · rw [if_neg h0, if_neg h0, nI_1, nI_1]
theorem m_laneMeters {σ : fS} {P : aP} (hg : GV (σ 165) P) (hok : aOK P) (hD : DCm σ P)  : f_X8_laneMeters σ = some (nI (sumN (gM P) 0 (P.1 2).length), σ) := by
  have z2 : (P.1 2).length ≤ 12 := hok.1 2 (by decide)
  have z3 : (P.1 3).length ≤ 24 := hok.1 3 (by decide)
  have z4 : (P.1 4).length ≤ 8 := hok.1 4 (by decide)
  unfold f_X8_laneMeters
  refine sum_all (f := fun n a v => f_X8_laneMeters_b4 n a v σ) (g := gM P) (by omega) (fun n a => ?_) (fun n a i hi => ?_)
  · show f_X8_laneMeters_b4 (n + 1) (nI a) (nI (P.1 2).length) σ = _
    rw [f_X8_laneMeters_b4, fb122, mCn hg, if_pos (nI_le (Nat.le_refl _) (by omega))]
  · show f_X8_laneMeters_b4 (n + 1) (nI a) (nI i) σ = f_X8_laneMeters_b4 n (nI (a + gM P i)) (nI (i + 1)) σ
    rw [f_X8_laneMeters_b4, fb122, mCn hg, if_neg (nI_ge hi (by omega))]
    have rl := rsA P i
    have sc := (hok.2.2.2.1 i hi).1
    rw [fb_x rfl (by omega) (by decide), nI_clamp (by omega), (hD.1 i hi).2.1]
    unfold f_X8_laneMeters_b52 gM
    by_cases h0 : (dA P).1 i = 0
    · rw [if_pos (by rw [h0]; rfl), if_pos h0, mC0 hg hok.1 hi, fcall_ok, mS1 hg hok.1 sc, fcall_ok, mC0 hg hok.1 hi, fcall_ok, mS2 hg hok.1 sc, fcall_ok, nI_mul, nI_add, nI_1]
      rfl
    · rw [if_neg (nI_ne0 (by omega) (by omega)), if_neg h0, nI_1, nI_a0]; rfl
theorem m_passengers {σ : fS} {P : aP} (hg : GV (σ 165) P) (hok : aOK P) (hD : DCm σ P) (m : Bool) : f_X8_passengers (bI (!m)) σ = some (nI (sumN (gP P m) 0 (P.1 4).length), σ) := by
  have z2 : (P.1 2).length ≤ 12 := hok.1 2 (by decide)
  have z3 : (P.1 3).length ≤ 24 := hok.1 3 (by decide)
  have z4 : (P.1 4).length ≤ 8 := hok.1 4 (by decide)
  unfold f_X8_passengers
  refine sum_all (f := fun n a v => f_X8_passengers_b4 n (bI (!m)) a v σ) (g := gP P m) (by omega) (fun n a => ?_) (fun n a i hi => ?_)
  · show f_X8_passengers_b4 (n + 1) (bI (!m)) (nI a) (nI (P.1 4).length) σ = _
    rw [f_X8_passengers_b4, fb244, mKn hg, if_pos (nI_le (Nat.le_refl _) (by omega))]
  · show f_X8_passengers_b4 (n + 1) (bI (!m)) (nI a) (nI i) σ = f_X8_passengers_b4 n (bI (!m)) (nI (a + gP P m i)) (nI (i + 1)) σ
    rw [f_X8_passengers_b4, fb244, mKn hg, if_neg (nI_ge hi (by omega))]
    have kl := kindF_le P (dA P).1 i
    have kk := hok.2.2.2.2.2.1 i hi
    rw [m_kindOf (rs := (dA P).1) hg hok hi (rsA P _) (hD.1 _ kk.1).2.1, fcall_ok]
    unfold f_X8_passengers_b31 f_X8_passengers_b45 gP
    by_cases h0 : kindF P (dA P).1 i = 2
    · rw [if_pos (by rw [h0]; rfl), decide_eq_true h0]
      cases m with
      | true => rw [if_pos (show (0 : Int32) = bI (!true) from rfl), if_pos rfl, mK3 hg hok.1 hi, fcall_ok, nI_add, nI_1]
      | false => rw [if_neg (by decide), if_neg (by decide), nI_1, nI_a0]; rfl
    · rw [if_neg (show ¬ nI (kindF P (dA P).1 i) = (2 : Int32) from fun e => h0 (nI_inj (b := 2) (by omega) (by decide) e)), decide_eq_false h0]
      cases m with
      | true => rw [if_neg (by decide), if_neg (by decide), nI_1, nI_a0]; rfl
      | false => rw [if_pos (show (1 : Int32) = bI (!false) from rfl), if_pos rfl, mK3 hg hok.1 hi, fcall_ok, nI_add, nI_1]
theorem m_delays {σ : fS} {P : aP} (hg : GV (σ 165) P) (hok : aOK P) (hD : DCm σ P)  : f_X8_account_b110 fN 0 0 σ = some (nI (sumN (gD P) 0 (P.1 2).length), σ) := by
  have z2 : (P.1 2).length ≤ 12 := hok.1 2 (by decide)
  have z3 : (P.1 3).length ≤ 24 := hok.1 3 (by decide)
  have z4 : (P.1 4).length ≤ 8 := hok.1 4 (by decide)
  skip
  refine sum_all (f := fun n a v => f_X8_account_b110 n a v σ) (g := gD P) (by omega) (fun n a => ?_) (fun n a i hi => ?_)
  · show f_X8_account_b110 (n + 1) (nI a) (nI (P.1 2).length) σ = _
    rw [f_X8_account_b110, fb122, mCn hg, if_pos (nI_le (Nat.le_refl _) (by omega))]
  · show f_X8_account_b110 (n + 1) (nI a) (nI i) σ = f_X8_account_b110 n (nI (a + gD P i)) (nI (i + 1)) σ
    rw [f_X8_account_b110, fb122, mCn hg, if_neg (nI_ge hi (by omega))]
    rw [fb_x rfl (by omega) (by decide), nI_clamp (by omega), (hD.1 i hi).2.2.2, nI_add, nI_1]
    rfl
theorem m_shifts {σ : fS} {P : aP} (hg : GV (σ 165) P) (hok : aOK P) (hL : LVm σ P)  : f_X8_account_b153 fN 0 0 σ = some (nI (sumN (gH P) 0 (P.1 3).length), σ) := by
  have z2 : (P.1 2).length ≤ 12 := hok.1 2 (by decide)
  have z3 : (P.1 3).length ≤ 24 := hok.1 3 (by decide)
  have z4 : (P.1 4).length ≤ 8 := hok.1 4 (by decide)
  skip
  refine sum_all (f := fun n a v => f_X8_account_b153 n a v σ) (g := gH P) (by omega) (fun n a => ?_) (fun n a i hi => ?_)
  · show f_X8_account_b153 (n + 1) (nI a) (nI (P.1 3).length) σ = _
    rw [f_X8_account_b153, fb171, mVn hg, if_pos (nI_le (Nat.le_refl _) (by omega))]
  · show f_X8_account_b153 (n + 1) (nI a) (nI i) σ = f_X8_account_b153 n (nI (a + gH P i)) (nI (i + 1)) σ
    rw [f_X8_account_b153, fb171, mVn hg, if_neg (nI_ge hi (by omega))]
    rw [fb_x rfl (by omega) (by decide), nI_clamp (by omega), (hL.2.2 i hi).2.2.2, nI_add, nI_1]
    rfl

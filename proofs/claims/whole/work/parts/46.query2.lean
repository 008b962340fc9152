/-! ===== lanes, accounts, sailingIf ===== -/
/-- a lane of a crossing, or none -/
theorem lane_cases {P : aP} (hok : aOK P) (x1 x2 : Int32) : (∃ c l, c < (P.1 2).length ∧ l < laN P c ∧ x1 = nI c ∧ x2 = nI l) ∨ ∀ σ, PV 1 σ P → GV (σ 165) P → f_X3_hasLane 1 x1 x2 σ = some (0, σ) ∧ f_X8_isLane x1 x2 σ = some (0, σ) := by
  have z2 : (P.1 2).length ≤ 12 := hok.1 2 (by decide)
  rcases ix_cases x1 (n := (P.1 2).length) (by omega) with ⟨c, hc, rfl⟩ | o
  · have lb := laN_b hok hc
    have sc := (hok.2.2.2.1 c hc).1
    rcases ix_cases x2 (n := laN P c) (by omega) with ⟨l, hl, rfl⟩ | o
    · exact Or.inl ⟨c, l, hc, hl, rfl, rfl⟩
    · refine Or.inr (fun σ hp hg => ?_)
      have nc : σ 6 3 = nI (P.1 2).length := (hp.1 2 (by decide)).1
      unfold f_X3_hasLane f_X8_isLane
      refine ⟨?_, by rw [p_isCrossing1 (gn (j := 2) (k := 122) hg (by decide) rfl) (by omega) rfl hc, fcall_ok, if_neg (by decide), mC0 hg hok.1 hc, fcall_ok, mS1 hg hok.1 sc, fcall_ok, show tg (P.1 0) (tg (P.1 2) c 0) 1 = laN P c from rfl, p_in0 (by omega) o, fcall_ok, if_pos rfl]⟩
      rw [p_has1 (t := 1 + 5) nc (by omega) rfl hc, fcall_ok, if_neg (by decide)]
      by_cases q2 : x2 < 0
      · rw [if_pos q2]
      · rcases o with q | q
        · exact absurd q q2
        · rw [if_neg q2, c_laN hp hok hc, fcall_ok, if_pos q]
  · refine Or.inr (fun σ hp hg => ?_)
    have nc : σ 6 3 = nI (P.1 2).length := (hp.1 2 (by decide)).1
    unfold f_X3_hasLane f_X8_isLane
    rw [p_has0 (t := 1 + 5) nc o, fcall_ok, if_pos rfl, p_isCrossing0 (gn (j := 2) (k := 122) hg (by decide) rfl) (by omega) o, fcall_ok, if_pos rfl]
    exact ⟨rfl, rfl⟩
theorem lane_in {σ : fS} {P : aP} (hok : aOK P) {c l : Nat} (hc : c < (P.1 2).length) (hl : l < laN P c) : (PV 1 σ P → f_X3_hasLane 1 (nI c) (nI l) σ = some (1, σ)) ∧ (GV (σ 165) P → f_X8_isLane (nI c) (nI l) σ = some (1, σ)) := by
  have z2 : (P.1 2).length ≤ 12 := hok.1 2 (by decide)
  have lb := laN_b hok hc
  have sc := (hok.2.2.2.1 c hc).1
  refine ⟨fun hp => ?_, fun hg => ?_⟩
  · have nc : σ 6 3 = nI (P.1 2).length := (hp.1 2 (by decide)).1
    unfold f_X3_hasLane
    rw [p_has1 (t := 1 + 5) nc (by omega) rfl hc, fcall_ok, if_neg (by decide), if_neg (nI_pos (by omega)), c_laN hp hok hc, fcall_ok, if_neg (nI_ge hl (by omega))]
  · unfold f_X8_isLane
    rw [p_isCrossing1 (gn (j := 2) (k := 122) hg (by decide) rfl) (by omega) rfl hc, fcall_ok, if_neg (by decide), mC0 hg hok.1 hc, fcall_ok, mS1 hg hok.1 sc, fcall_ok, show tg (P.1 0) (tg (P.1 2) c 0) 1 = laN P c from rfl, p_in1 (by omega) rfl hl, fcall_ok, if_neg (by decide)]
theorem st_27 : ∀ (σ : fS) (x1 : Int32) (x2 : Int32), LI σ → ∃ (r : Int32) (σ1 σ2 : fS), f_X7_laneLeft x1 x2 σ = some (r, σ1) ∧ f_X8_laneLeft x1 x2 σ1 = some (r, σ2) ∧ LI σ2 := by
  intro σ x1 x2 hLI
  obtain ⟨⟨P, k, F, hPV, hGV, hok, -⟩, -⟩ := id hLI
  have z2 : (P.1 2).length ≤ 12 := hok.1 2 (by decide)
  unfold f_X7_laneLeft f_X8_laneLeft
  rcases lane_cases hok x1 x2 with ⟨c, l, hc, hl, rfl, rfl⟩ | h
  · have lb := laN_b hok hc
    have rl := rsA P c
    obtain ⟨s1, e1, p1, g1, d1, t1, f1⟩ := run1 hPV hGV hok
    rw [(lane_in hok hc hl).1 hPV, fcall_ok, if_neg (by decide), e1, fcallv_ok, c_sailsA hok d1 hc, fcall_ok]
    by_cases h0 : (dA P).1 c = 0
    · obtain ⟨s2, e2, p2, g2, d2, t2, l2, f2⟩ := run2 p1 g1 hok d1 t1
      obtain ⟨s3, e3, g3, d3, l3, r3, f3⟩ := run3 g2 hok
      rw [decide_eq_true h0, if_neg bI_t, e2, fcallv_ok, ix4, fb_x rfl (by omega) (by decide), nI_clamp (by omega), (l2.2.1 _ (by omega)).1]
      refine ⟨_, s2, s3, rfl, ?_, hLI.fin (fun q hq => by rw [f2 q (by omega), f1 q (by omega)]) (fun q hq => f3 q (by omega))⟩
      rw [(lane_in hok hc hl).2 g2, fcall_ok, if_neg (by decide), e3, fcallv_ok, fb_x rfl (by omega) (by decide), nI_clamp (by omega), (d3.1 c hc).2.1, if_pos (by rw [h0]; rfl), iy4, fb_x rfl (by omega) (by decide), nI_clamp (by omega), (l3.2.1 _ (by omega)).1]
    · obtain ⟨s3, e3, g3, d3, l3, r3, f3⟩ := run3 g1 hok
      rw [decide_eq_false h0, if_pos bI_f]
      refine ⟨_, s1, s3, rfl, ?_, hLI.fin (fun q hq => f1 q (by omega)) (fun q hq => f3 q (by omega))⟩
      rw [(lane_in hok hc hl).2 g1, fcall_ok, if_neg (by decide), e3, fcallv_ok, fb_x rfl (by omega) (by decide), nI_clamp (by omega), (d3.1 c hc).2.1, if_neg (nI_ne0 (by omega) (by omega))]
  · rw [(h σ hPV hGV).1, fcall_ok, if_pos rfl]
    refine ⟨_, σ, σ, rfl, ?_, hLI⟩
    rw [(h σ hPV hGV).2, fcall_ok, if_pos rfl]
def stB (P : aP) (c l : Nat) (x : Int32) (v : Nat) : Bool := decide (abA (ab (lA P) v) = nI c ∧ abL (ab (lA P) v) = nI l ∧ abS (ab (lA P) v) = x)
theorem c_standing {b : Nat} {σ : fS} {P : aP} (hp : PV b σ P) (hok : aOK P) (hL : LVc σ P) (c l : Nat) (x : Int32) : f_X2_standingAt b (nI c) (nI l) x σ = some (orI (-10004) nI (fstI (stB P c l x) 0 (P.1 3).length), σ) := by
  have z3 : (P.1 3).length ≤ 24 := hok.1 3 (by decide)
  unfold f_X2_standingAt
  refine find_loop (f := fun n v => f_X2_standingAt_b3 b n (nI c) (nI l) x v σ) (N := (P.1 3).length) (c := stB P c l x) (r := nI) (fun n => ?_) (fun n i hi hcc => ?_) (fun n i hi hcc => ?_) _ 0 fN (by omega) (by unfold fN; omega)
  · show f_X2_standingAt_b3 b (n + 1) (nI c) (nI l) x (nI (P.1 3).length) σ = _
    rw [f_X2_standingAt_b3, cVn hp, fcall_ok, if_pos (nI_le (Nat.le_refl _) (by omega))]
  · obtain ⟨g1, g2, g3⟩ := of_decide_eq_true hcc
    obtain ⟨a1, a2, a3, -⟩ := hL.2.2 i hi
    show f_X2_standingAt_b3 b (n + 1) (nI c) (nI l) x (nI i) σ = _
    rw [f_X2_standingAt_b3, cVn hp, fcall_ok, if_neg (nI_ge hi (by omega)), fb_x rfl (by omega) (by decide), nI_clamp (by omega), a1, if_pos g1, fb_x rfl (by omega) (by decide), a2, if_pos g2, fb_x rfl (by omega) (by decide), a3, if_pos g3]
  · have g := of_decide_eq_false hcc
    obtain ⟨a1, a2, a3, -⟩ := hL.2.2 i hi
    show f_X2_standingAt_b3 b (n + 1) (nI c) (nI l) x (nI i) σ = f_X2_standingAt_b3 b n (nI c) (nI l) x (nI (i + 1)) σ
    rw [f_X2_standingAt_b3, cVn hp, fcall_ok, if_neg (nI_ge hi (by omega)), fb_x rfl (by omega) (by decide), nI_clamp (by omega), a1]
    unfold f_X2_standingAt_b52
    by_cases g1 : abA (ab (lA P) i) = nI c
    · rw [if_pos g1, fb_x rfl (by omega) (by decide), a2]
      by_cases g2 : abL (ab (lA P) i) = nI l
      · rw [if_pos g2, fb_x rfl (by omega) (by decide), a3, if_neg (fun g3 => g ⟨g1, g2, g3⟩), nI_1]
      · rw [if_neg g2, nI_1]
    · rw [if_neg g1, nI_1]
/-- who stands at a place of a lane -/
theorem stand_in {P : aP} (hok : aOK P) {c l i : Nat} (hc : c < (P.1 2).length) (hl : l < 4) (hi : i < ll (lA P) (4 * c + l)) : fstI (stB P c l (nI i)) 0 (P.1 3).length = some (lv (lA P) (4 * c + l) i) := by
  have z2 : (P.1 2).length ≤ 12 := hok.1 2 (by decide)
  have z3 : (P.1 3).length ≤ 24 := hok.1 3 (by decide)
  have V := VI_A hok
  obtain ⟨h1, h2⟩ := V.2.2.2.2.1 c l hc hl i hi
  have h24 := V.ll24 z3 hc hl
  cases hf : fstI (stB P c l (nI i)) 0 (P.1 3).length with
  | none =>
    have := fstI_none _ _ hf _ (Nat.zero_le _) (by rw [Nat.zero_add]; exact h1)
    unfold stB at this
    rw [h2] at this
    exact absurd ⟨rfl, rfl, rfl⟩ (of_decide_eq_false this)
  | some v =>
    obtain ⟨-, a, b⟩ := fstI_some _ _ _ hf
    rw [Nat.zero_add] at a
    obtain ⟨g1, g2, g3⟩ := of_decide_eq_true b
    cases hab : ab (lA P) v with
    | none =>
      rw [hab] at g1
      exact absurd g1.symm (nI_NONE (by omega))
    | some t =>
      obtain ⟨c', l', k'⟩ := t
      obtain ⟨x1, x2, x3, x4⟩ := V.2.2.2.2.2.1 v a c' l' k' hab
      have h24' := V.ll24 z3 x1 x2
      rw [hab] at g1 g2 g3
      have y1 : c' = c := nI_inj (by omega) (by omega) g1
      have y2 : l' = l := nI_inj (by omega) (by omega) g2
      have y3 : k' = i := nI_inj (by omega) (by omega) g3
      subst y1
      subst y2
      subst y3
      rw [x4]
theorem stand_out {P : aP} (hok : aOK P) {c l : Nat} (hc : c < (P.1 2).length) (hl : l < 4) {x : Int32} (hx : x < 0 ∨ nI (ll (lA P) (4 * c + l)) ≤ x) : orI (-10004) nI (fstI (stB P c l x) 0 (P.1 3).length) = -10004 := by
  have z2 : (P.1 2).length ≤ 12 := hok.1 2 (by decide)
  have z3 : (P.1 3).length ≤ 24 := hok.1 3 (by decide)
  have V := VI_A hok
  cases hf : fstI (stB P c l x) 0 (P.1 3).length with
  | none => rfl
  | some v =>
    exfalso
    obtain ⟨-, a, b⟩ := fstI_some _ _ _ hf
    rw [Nat.zero_add] at a
    obtain ⟨g1, g2, g3⟩ := of_decide_eq_true b
    cases hab : ab (lA P) v with
    | none =>
      rw [hab] at g1
      exact absurd g1.symm (nI_NONE (by omega))
    | some t =>
      obtain ⟨c', l', k'⟩ := t
      obtain ⟨x1, x2, x3, x4⟩ := V.2.2.2.2.2.1 v a c' l' k' hab
      have h24' := V.ll24 z3 x1 x2
      rw [hab] at g1 g2 g3
      have y1 : c' = c := nI_inj (by omega) (by omega) g1
      have y2 : l' = l := nI_inj (by omega) (by omega) g2
      subst y1
      subst y2
      have g3 : nI k' = x := g3
      rw [← g3] at hx
      rcases hx with q | q
      · exact nI_pos (by omega) q
      · exact nI_ge x3 (by omega) q
theorem st_28 : ∀ (σ : fS) (x1 : Int32) (x2 : Int32) (x3 : Int32), LI σ → ∃ (r : Int32) (σ1 σ2 : fS), f_X7_laneVehicle x1 x2 x3 σ = some (r, σ1) ∧ f_X8_laneVehicle x1 x2 x3 σ1 = some (r, σ2) ∧ LI σ2 := by
  intro σ x1 x2 x3 hLI
  obtain ⟨⟨P, k, F, hPV, hGV, hok, -⟩, -⟩ := id hLI
  have z2 : (P.1 2).length ≤ 12 := hok.1 2 (by decide)
  have z3 : (P.1 3).length ≤ 24 := hok.1 3 (by decide)
  unfold f_X7_laneVehicle f_X8_laneVehicle
  rcases lane_cases hok x1 x2 with ⟨c, l, hc, hl, rfl, rfl⟩ | h
  · have lb := laN_b hok hc
    have hl4 : l < 4 := by omega
    have h24 := (VI_A hok).ll24 z3 hc hl4
    obtain ⟨s1, e1, p1, g1, d1, t1, f1⟩ := run1 hPV hGV hok
    obtain ⟨s2, e2, p2, g2, d2, t2, l2, f2⟩ := run2 p1 g1 hok d1 t1
    obtain ⟨s3, e3, g3, d3, l3, r3, f3⟩ := run3 g2 hok
    rw [(lane_in hok hc hl).1 hPV, fcall_ok, if_neg (by decide), e1, fcallv_ok, e2, fcallv_ok, c_standing (b := 1) p2 hok l2 c l x3, fcall_ok]
    refine ⟨_, s2, s3, rfl, ?_, hLI.fin (fun q hq => by rw [f2 q (by omega), f1 q (by omega)]) (fun q hq => f3 q (by omega))⟩
    rw [(lane_in hok hc hl).2 g2, fcall_ok, if_neg (by decide), e3, fcallv_ok, iy4, fb_x rfl (by omega) (by decide), nI_clamp (by omega), (l3.2.1 _ (by omega)).2]
    rcases ix_cases x3 (n := ll (lA P) (4 * c + l)) (by omega) with ⟨i, hi, rfl⟩ | o
    · rw [p_in1 (by omega) rfl hi, fcall_ok, if_neg (by decide), iy24, fb_x rfl (by omega) (by decide), nI_clamp (by omega), r3 _ (by omega) i hi, stand_in hok hc hl4 hi]
      rfl
    · rw [p_in0 (by omega) o, fcall_ok, if_pos rfl, stand_out hok hc hl4 o]
  · rw [(h σ hPV hGV).1, fcall_ok, if_pos rfl]
    refine ⟨_, σ, σ, rfl, ?_, hLI⟩
    rw [(h σ hPV hGV).2, fcall_ok, if_pos rfl]
theorem st_31 : ∀ (σ : fS) (x1 : Int32), LI σ → ∃ (r : Int32) (σ1 σ2 : fS), f_X7_account x1 σ = some (r, σ1) ∧ f_X8_account x1 σ1 = some (r, σ2) ∧ LI σ2 := by
  intro σ x1 hLI
  obtain ⟨⟨P, k, F, hPV, hGV, hok, -⟩, -⟩ := id hLI
  unfold f_X7_account f_X8_account f_X8_sailing
  by_cases h : (0 : Int32) ≤ x1 ∧ x1 ≤ 9
  · obtain ⟨c, rfl, -, u⟩ := rng_nI (a := 0) (b := 9) rfl rfl (by decide) (by decide) h
    obtain ⟨s1, e1, p1, g1, d1, t1, f1⟩ := run1 hPV hGV hok
    obtain ⟨s2, e2, p2, g2, d2, t2, l2, f2⟩ := run2 p1 g1 hok d1 t1
    obtain ⟨s3, e3, g3, d3, l3, r3, f3⟩ := run3 g2 hok
    have fin : ∀ v : Int32, fcall (fcallv (f_X8_tell s2) (fun σ1 => f_X8_sailing_b9 fN 2 0 0 0 σ1)) (fun r1_ σ1 => (if nI c = (0 : Int32) then some (r1_, σ1) else if nI c = (1 : Int32) then fb (122 : Int32) 277 (some (((σ1 165 (122 : Int32).toNatClampNeg) - r1_), σ1)) else if nI c = (2 : Int32) then fcall (f_X8_passengers (1 : Int32) σ1) (fun r2_ σ2 => some (r2_, σ2)) else if nI c = (3 : Int32) then fcall (f_X8_passengers (0 : Int32) σ1) (fun r3_ σ3 => some (r3_, σ3)) else if nI c = (4 : Int32) then fcall (f_X8_allAboard σ1) (fun r4_ σ4 => some (r4_, σ4)) else if nI c = (5 : Int32) then fb (171 : Int32) 277 (fcall (f_X8_allAboard σ1) (fun r5_ σ5 => some (((σ1 165 (171 : Int32).toNatClampNeg) - r5_), σ5))) else if nI c = (6 : Int32) then f_X8_account_b110 fN ((0 : Int32)) ((0 : Int32)) σ1 else if nI c = (7 : Int32) then fcall (f_X8_meters σ1) (fun r6_ σ6 => some (r6_, σ6)) else if nI c = (8 : Int32) then fcall (f_X8_laneMeters σ1) (fun r7_ σ7 => some (r7_, σ7)) else if nI c = (9 : Int32) then f_X8_account_b153 fN ((0 : Int32)) ((0 : Int32)) σ1 else some ((-10002 : Int32), σ1))) = some (v, s3) → ∃ (r : Int32) (σ1 σ2 : fS), (some (v, s2) : Option (Int32 × fS)) = some (r, σ1) ∧ fcall (fcallv (f_X8_tell σ1) (fun σ1 => f_X8_sailing_b9 fN 2 0 0 0 σ1)) (fun r1_ σ1 => (if nI c = (0 : Int32) then some (r1_, σ1) else if nI c = (1 : Int32) then fb (122 : Int32) 277 (some (((σ1 165 (122 : Int32).toNatClampNeg) - r1_), σ1)) else if nI c = (2 : Int32) then fcall (f_X8_passengers (1 : Int32) σ1) (fun r2_ σ2 => some (r2_, σ2)) else if nI c = (3 : Int32) then fcall (f_X8_passengers (0 : Int32) σ1) (fun r3_ σ3 => some (r3_, σ3)) else if nI c = (4 : Int32) then fcall (f_X8_allAboard σ1) (fun r4_ σ4 => some (r4_, σ4)) else if nI c = (5 : Int32) then fb (171 : Int32) 277 (fcall (f_X8_allAboard σ1) (fun r5_ σ5 => some (((σ1 165 (171 : Int32).toNatClampNeg) - r5_), σ5))) else if nI c = (6 : Int32) then f_X8_account_b110 fN ((0 : Int32)) ((0 : Int32)) σ1 else if nI c = (7 : Int32) then fcall (f_X8_meters σ1) (fun r6_ σ6 => some (r6_, σ6)) else if nI c = (8 : Int32) then fcall (f_X8_laneMeters σ1) (fun r7_ σ7 => some (r7_, σ7)) else if nI c = (9 : Int32) then f_X8_account_b153 fN ((0 : Int32)) ((0 : Int32)) σ1 else some ((-10002 : Int32), σ1))) = some (r, σ2) ∧ LI σ2 := fun v hv => ⟨v, s2, s3, rfl, hv, hLI.fin (fun q hq => by rw [f2 q (by omega), f1 q (by omega)]) (fun q hq => f3 q (by omega))⟩
    rw [e3, fcallv_ok, m_countAll g3 hok d3, fcall_ok] at fin
    rw [p_isOutside, if_pos h, fcall_ok, if_pos rfl, e1, fcallv_ok, e2, fcallv_ok]
    rcases (show c = 0 ∨ c = 1 ∨ c = 2 ∨ c = 3 ∨ c = 4 ∨ c = 5 ∨ c = 6 ∨ c = 7 ∨ c = 8 ∨ c = 9 by omega) with rfl | rfl | rfl | rfl | rfl | rfl | rfl | rfl | rfl | rfl
    · rw [if_pos nI_0, c_countAll (b := 1) p2 hok d2, fcall_ok]
      exact fin _ (by rw [if_pos nI_0])
    · rw [if_neg (by decide), if_pos (show nI 1 = (1 : Int32) from rfl), show f_X5_size 6 12 4 s2 = _ from cCn (b := 1) p2, fcall_ok, c_countAll (b := 1) p2 hok d2, fcall_ok]
      exact fin _ (by rw [if_neg (by decide), if_pos (show nI 1 = (1 : Int32) from rfl), fb122, mCn g3])
    · rw [if_neg (by decide), if_neg (by decide), if_pos (show nI 2 = (2 : Int32) from rfl), show f_X0_sumPassengers 1 0 s2 = _ from c_passengers (b := 1) p2 hok t2 false, fcall_ok]
      exact fin _ (by rw [if_neg (by decide), if_neg (by decide), if_pos (show nI 2 = (2 : Int32) from rfl), show f_X8_passengers 1 s3 = _ from m_passengers g3 hok d3 false, fcall_ok])
    · rw [if_neg (by decide), if_neg (by decide), if_neg (by decide), if_pos (show nI 3 = (3 : Int32) from rfl), show f_X0_sumPassengers 1 1 s2 = _ from c_passengers (b := 1) p2 hok t2 true, fcall_ok]
      exact fin _ (by rw [if_neg (by decide), if_neg (by decide), if_neg (by decide), if_pos (show nI 3 = (3 : Int32) from rfl), show f_X8_passengers 0 s3 = _ from m_passengers g3 hok d3 true, fcall_ok])
    · rw [if_neg (by decide), if_neg (by decide), if_neg (by decide), if_neg (by decide), if_pos (show nI 4 = (4 : Int32) from rfl), c_allAboard (b := 1) p2 hok l2, fcall_ok]
      exact fin _ (by rw [if_neg (by decide), if_neg (by decide), if_neg (by decide), if_neg (by decide), if_pos (show nI 4 = (4 : Int32) from rfl), m_allAboard g3 hok l3, fcall_ok])
    · rw [if_neg (by decide), if_neg (by decide), if_neg (by decide), if_neg (by decide), if_neg (by decide), if_pos (show nI 5 = (5 : Int32) from rfl), show f_X5_size 8 24 3 s2 = _ from cVn (b := 1) p2, fcall_ok, c_allAboard (b := 1) p2 hok l2, fcall_ok]
      exact fin _ (by rw [if_neg (by decide), if_neg (by decide), if_neg (by decide), if_neg (by decide), if_neg (by decide), if_pos (show nI 5 = (5 : Int32) from rfl), fb171, mVn g3, m_allAboard g3 hok l3, fcall_ok])
    · rw [if_neg (by decide), if_neg (by decide), if_neg (by decide), if_neg (by decide), if_neg (by decide), if_neg (by decide), if_pos (show nI 6 = (6 : Int32) from rfl), c_delays (b := 1) p2 hok d2, fcall_ok]
      exact fin _ (by rw [if_neg (by decide), if_neg (by decide), if_neg (by decide), if_neg (by decide), if_neg (by decide), if_neg (by decide), if_pos (show nI 6 = (6 : Int32) from rfl), m_delays g3 hok d3])
    · rw [if_neg (by decide), if_neg (by decide), if_neg (by decide), if_neg (by decide), if_neg (by decide), if_neg (by decide), if_neg (by decide), if_pos (show nI 7 = (7 : Int32) from rfl), c_metersAboard (b := 1) p2 hok l2, fcall_ok]
      exact fin _ (by rw [if_neg (by decide), if_neg (by decide), if_neg (by decide), if_neg (by decide), if_neg (by decide), if_neg (by decide), if_neg (by decide), if_pos (show nI 7 = (7 : Int32) from rfl), m_meters g3 hok l3, fcall_ok])
    · rw [if_neg (by decide), if_neg (by decide), if_neg (by decide), if_neg (by decide), if_neg (by decide), if_neg (by decide), if_neg (by decide), if_neg (by decide), if_pos (show nI 8 = (8 : Int32) from rfl), c_laneMeters (b := 1) p2 hok d2, fcall_ok]
      exact fin _ (by rw [if_neg (by decide), if_neg (by decide), if_neg (by decide), if_neg (by decide), if_neg (by decide), if_neg (by decide), if_neg (by decide), if_neg (by decide), if_pos (show nI 8 = (8 : Int32) from rfl), m_laneMeters g3 hok d3, fcall_ok])
    · rw [if_neg (by decide), if_neg (by decide), if_neg (by decide), if_neg (by decide), if_neg (by decide), if_neg (by decide), if_neg (by decide), if_neg (by decide), if_neg (by decide), c_shifts (b := 1) p2 hok l2, fcall_ok]
      exact fin _ (by rw [if_neg (by decide), if_neg (by decide), if_neg (by decide), if_neg (by decide), if_neg (by decide), if_neg (by decide), if_neg (by decide), if_neg (by decide), if_neg (by decide), if_pos (show nI 9 = (9 : Int32) from rfl), m_shifts g3 hok l3])
  · obtain ⟨s3, e3, g3, d3, l3, r3, f3⟩ := run3 hGV hok
    rw [p_isOutside, if_neg h, fcall_ok, if_neg (by decide)]
    refine ⟨_, σ, s3, rfl, ?_, hLI.fin (fun q hq => rfl) (fun q hq => f3 q (by omega))⟩
    rw [e3, fcallv_ok, m_countAll g3 hok d3, fcall_ok, if_neg (in_no h (by decide)), if_neg (in_no h (by decide)), if_neg (in_no h (by decide)), if_neg (in_no h (by decide)), if_neg (in_no h (by decide)), if_neg (in_no h (by decide)), if_neg (in_no h (by decide)), if_neg (in_no h (by decide)), if_neg (in_no h (by decide)), if_neg (in_no h (by decide))]
theorem upd_back {g : Nat → Int32} {k : Nat} {v : Int32} : upd (upd g k v) k (g k) = g := by
  funext i
  unfold upd
  by_cases h : i = k
  · rw [if_pos h, h]
  · rw [if_neg h, if_neg h]
theorem st_33 : ∀ (σ : fS) (x1 : Int32), LI σ → ∃ (r : Int32) (σ1 σ2 : fS), f_X7_sailingIf x1 σ = some (r, σ1) ∧ f_X8_sailingIf x1 σ1 = some (r, σ2) ∧ LI σ2 := by
  intro σ x1 hLI
  obtain ⟨⟨P, k, F, hPV, hGV, hok, -⟩, -⟩ := id hLI
  unfold f_X7_sailingIf f_X8_sailingIf f_X8_sailing
  by_cases h : (0 : Int32) ≤ x1 ∧ x1 ≤ 200
  · obtain ⟨n, rfl, -, u⟩ := rng_nI (a := 0) (b := 200) rfl rfl (by decide) (by decide) h
    have hokn : aOK (setMa P n) := by
      obtain ⟨b1, b2, b3, b4, b5, b6, b7, b8, b9⟩ := hok
      exact ⟨b1, b2, b3, b4, b5, b6, b7, b8, u⟩
    obtain ⟨t1, k1, f1, p1⟩ := p_pcopy (b0 := 16) (b1 := 1) hPV hok.1 (Or.inr (by decide))
    have p2 : PV 16 (fu t1 16 7 (nI n)) (setMa P n) := p1.margin
    obtain ⟨s1, e1, f2, d1, -⟩ := c_make (b := 16) (by decide) p2 hokn
    have p3 : PV 16 s1 (setMa P n) := p2.of (fun q a x => f2 q (by omega))
    have g1 : GV (s1 165) P := by rw [f2 165 (by decide), fu_cell (by decide), f1 165 (by decide)]; exact hGV
    have g2 : GV (fu s1 165 97 (nI n) 165) (setMa P n) := by
      rw [fu_row]
      exact g1.low (by decide) rfl (fun q hq => by rw [if_neg (by omega)]; rfl) (fun q hq => by rw [if_neg (by omega)]; rfl) (by rw [if_pos rfl]; rfl)
    obtain ⟨s3, e3, g3, d3, l3, r3, f3⟩ := run3 g2 hokn
    rw [p_isOutside, if_pos h, fcall_ok, if_pos rfl, k1, fcallv_ok, fL_ok, e1, fcallv_ok, c_countAll (b := 16) p3 hokn d1, fcall_ok]
    refine ⟨_, s1, fu s3 165 97 (s1 165 97), rfl, ?_, ?_⟩
    · rw [p_in, if_pos h, fcall_ok, if_neg (by decide), fb97, fb97, fL_ok, show (97 : Int32).toNatClampNeg = 97 from rfl, e3, fcallv_ok, m_countAll g3 hokn d3, fcall_ok, fb97, fL_ok]
    · refine hLI.fin (s := s1) (fun q hq => by rw [f2 q (by omega), fu_cell (by omega), f1 q (by omega)]) (fun q hq => ?_)
      by_cases hq5 : q = 165
      · subst hq5
        rw [fu_row, f3 165 (by decide), fu_row, upd_back]
      · rw [fu_cell hq5, f3 q (by omega), fu_cell hq5]
  · rw [p_isOutside, if_neg h, fcall_ok, if_neg (by decide)]
    refine ⟨_, σ, σ, rfl, ?_, hLI⟩
    rw [p_in, if_neg h, fcall_ok, if_pos rfl]

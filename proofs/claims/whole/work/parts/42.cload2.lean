/-! ===== the class loads ===== -/
theorem c_next {b : Nat} {σ : fS} {P : aP} (hp : PV b σ P) (hok : aOK P) (hD : DC σ 140 139 141 142 143 P) {p : Nat} (hpl : p < (P.1 2).length) : f_X0_nextSailing b (nI p) σ = some (orI (-10004) (fun n => nI (ord P n)) (nxtF P (ord P p)), σ) := by
  have z2 : (P.1 2).length ≤ 12 := hok.1 2 (by decide)
  obtain ⟨hc, hpc⟩ := pos_ord hpl
  have dc := okD hok hc
  unfold f_X0_nextSailing nxtF
  rw [fb_x rfl (by omega) (by decide), nI_clamp (by omega), hD.2 p hpl, cC3 hp hok.1 hc, fcall_ok, nI_1, hpc]
  refine find_loop (f := fun n v => f_X0_nextSailing_b20 b n (nI (tg (P.1 2) (ord P p) 3)) v σ) (N := (P.1 2).length) (c := nxtB P (ord P p)) (r := fun n => nI (ord P n)) (fun n => ?_) (fun n i hi hcc => ?_) (fun n i hi hcc => ?_) _ (p + 1) fN (by omega) (by unfold fN; omega)
  · show f_X0_nextSailing_b20 b (n + 1) (nI (tg (P.1 2) (ord P p) 3)) (nI (P.1 2).length) σ = _
    rw [f_X0_nextSailing_b20, cCn hp, fcall_ok, if_pos (nI_le (Nat.le_refl _) (by omega))]
  · have hq := (pos_ord hi).1
    have dq := okD hok hq
    obtain ⟨g1, g2⟩ := of_decide_eq_true hcc
    show f_X0_nextSailing_b20 b (n + 1) (nI (tg (P.1 2) (ord P p) 3)) (nI i) σ = _
    rw [f_X0_nextSailing_b20, cCn hp, fcall_ok, if_neg (nI_ge hi (by omega)), fb_x rfl (by omega) (by decide), nI_clamp (by omega), hD.2 i hi, c_sails (by omega) (rs_le P _ _) (hD.1 _ hq).2.1, fcall_ok, show (dPl P (P.1 2).length).1 (ord P i) = 0 from g1, show bI (decide (0 = 0)) = 1 from rfl, if_neg (by decide), fb_x rfl (by omega) (by decide), hD.2 i hi, cC3 hp hok.1 hq, fcall_ok, if_neg (nI_ge g2 (by omega)), fb_x rfl (by omega) (by decide), hD.2 i hi]
  · have hq := (pos_ord hi).1
    have dq := okD hok hq
    have g := of_decide_eq_false hcc
    show f_X0_nextSailing_b20 b (n + 1) (nI (tg (P.1 2) (ord P p) 3)) (nI i) σ = f_X0_nextSailing_b20 b n (nI (tg (P.1 2) (ord P p) 3)) (nI (i + 1)) σ
    rw [f_X0_nextSailing_b20, cCn hp, fcall_ok, if_neg (nI_ge hi (by omega)), fb_x rfl (by omega) (by decide), nI_clamp (by omega), hD.2 i hi, c_sails (by omega) (rs_le P _ _) (hD.1 _ hq).2.1, fcall_ok]
    unfold f_X0_nextSailing_b73
    by_cases g1 : (dA P).1 (ord P i) = 0
    · rw [show (dPl P (P.1 2).length).1 (ord P i) = 0 from g1, show bI (decide (0 = 0)) = 1 from rfl, if_neg (by decide), fb_x rfl (by omega) (by decide), hD.2 i hi, cC3 hp hok.1 hq, fcall_ok, if_pos (nI_le (Nat.le_of_not_lt (fun x => g ⟨g1, x⟩)) (by omega)), nI_1]
    · rw [decide_eq_false (show ¬ (dPl P (P.1 2).length).1 (ord P i) = 0 from g1), if_pos bI_f, nI_1]
/-- one vehicle of the queue -/
theorem c_one {b : Nat} {σ : fS} {P : aP} {S : aL} {p j Q : Nat} (hjQ : j < Q) (hQ : Q ≤ 24) (hb : b + 15 ≤ 138) (hp : PV b σ P) (hok : aOK P) (hD : DC σ 140 139 141 142 143 P) (hpl : p < (P.1 2).length) (hV : VI P p j S) (hj : j < ql S (ord P p)) (hL : LV σ 146 149 147 150 152 153 154 155 S (P.1 2).length (P.1 3).length) (hP : LPt σ P S) (n : Nat) : ∃ σ', f_X2_loadOrShift_b28 b (n + 1) (nI (ord P p)) (orI (-10004) (fun n => nI (ord P n)) (nxtF P (ord P p))) (nI Q) (nI j) σ = f_X2_loadOrShift_b28 b n (nI (ord P p)) (orI (-10004) (fun n => nI (ord P n)) (nxtF P (ord P p))) (nI Q) (nI (j + 1)) σ' ∧ (∀ q, q < 146 ∨ 156 ≤ q → σ' q = σ q) ∧ LV σ' 146 149 147 150 152 153 154 155 (loadS P S (ord P p) (qv S (ord P p) j)) (P.1 2).length (P.1 3).length ∧ LPt σ' P (loadS P S (ord P p) (qv S (ord P p) j)) := by
  have z2 : (P.1 2).length ≤ 12 := hok.1 2 (by decide)
  have z3 : (P.1 3).length ≤ 24 := hok.1 3 (by decide)
  obtain ⟨hc, hpc⟩ := pos_ord hpl
  have hq24 := hV.1 _ hc
  obtain ⟨w1, w2⟩ := hL.1 _ hc
  have hv := (hV.2.1 p (Nat.le_refl _) hpl).1 j hj
  have b70 : ∀ s0 : Option Nat, s0 = whereF P S (ord P p) (qv S (ord P p) j) → ∃ σ', f_X2_loadOrShift_b74 b (fun v4 v5 v6 v7 σ => f_X2_loadOrShift_b28 b n v4 v5 v6 v7 σ) (nI (ord P p)) (orI (-10004) (fun n => nI (ord P n)) (nxtF P (ord P p))) (nI Q) (nI j) (nI (qv S (ord P p) j)) (bO (-10004) s0) σ = f_X2_loadOrShift_b28 b n (nI (ord P p)) (orI (-10004) (fun n => nI (ord P n)) (nxtF P (ord P p))) (nI Q) (nI (j + 1)) σ' ∧ (∀ q, q < 146 ∨ 156 ≤ q → σ' q = σ q) ∧ LV σ' 146 149 147 150 152 153 154 155 (loadS P S (ord P p) (qv S (ord P p) j)) (P.1 2).length (P.1 3).length ∧ LPt σ' P (loadS P S (ord P p) (qv S (ord P p) j)) := fun s0 hs0 => by
    unfold f_X2_loadOrShift_b74 f_X2_loadOrShift_b125
    cases s0 with
    | some l =>
      obtain ⟨hl, hfit⟩ := whereF_some hs0.symm
      have lb := laN_b hok hc
      obtain ⟨s', e, f1, f2, f3⟩ := c_board hb hp hok hL hP hc (by omega) hv hfit
      have hS : loadS P S (ord P p) (qv S (ord P p) j) = boardS P S (ord P p) l (qv S (ord P p) j) := by unfold loadS; rw [← hs0]
      rw [show bO (-10004) (some l) = nI l from rfl, if_neg (nI_NONE (by omega)), e, fcallv_ok, nI_1, hS]
      exact ⟨s', rfl, f1, f2, f3⟩
    | none =>
      rw [show bO (-10004) none = -10004 from rfl, if_pos rfl]
      cases hn : nxtF P (ord P p) with
      | none =>
        have hS : loadS P S (ord P p) (qv S (ord P p) j) = S := by unfold loadS; rw [← hs0, hn]
        rw [show orI (-10004) (fun n => nI (ord P n)) none = -10004 from rfl, if_pos rfl, nI_1, hS]
        exact ⟨σ, rfl, fun _ _ => rfl, hL, hP⟩
      | some m =>
        obtain ⟨hm1, hm2, hm3⟩ := nxtF_some hc hn
        rw [hpc] at hm1
        have hmc := (pos_ord hm2).1
        have hroom := hV.room z3 hpl hj hm1 hm2
        have hS : loadS P S (ord P p) (qv S (ord P p) j) = joinS (shiftS S (qv S (ord P p) j)) (ord P m) (qv S (ord P p) j) := by unfold loadS; rw [← hs0, hn]
        have sv := (hL.2.2 _ hv).2.2.2
        rw [show orI (-10004) (fun n => nI (ord P n)) (some m) = nI (ord P m) from rfl, if_neg (nI_NONE (by omega)), fb_x rfl (by omega) (by decide), fb_x rfl (by omega) (by decide), fL_ok, nI_clamp (by omega), sv, nI_1, c_lineUp (m := ql S (ord P m)) (by omega) hroom (by rw [fu_cell (by decide)]; exact (hL.1 _ hmc).1), fcallv_ok, nI_1, hS]
        have hL2 : LV (fu σ 155 (qv S (ord P p) j) (nI (sh S (qv S (ord P p) j) + 1))) 146 149 147 150 152 153 154 155 (shiftS S (qv S (ord P p) j)) (P.1 2).length (P.1 3).length := hL.shift (fu_cell (by decide)) (fu_cell (by decide)) (fu_cell (by decide)) (fu_cell (by decide)) (fu_cell (by decide)) (fu_cell (by decide)) (fu_cell (by decide)) (fu_row _ _ _ _)
        refine ⟨_, rfl, fun q hq => by rw [fu_cell (by omega), fu_cell (by omega), fu_cell (by omega)], ?_, fun k hk h0 => ?_⟩
        · refine LV.join (c := ord P m) (v := qv S (ord P p) j) hL2 hV.1 hmc hroom ?_ ?_ ?_ ?_ ?_ ?_ ?_ ?_
          · rw [fu_row, fu_cell (by decide)]; rfl
          · rw [fu_cell (by decide), fu_row]; rfl
          · rw [fu_cell (by decide), fu_cell (by decide)]
          · rw [fu_cell (by decide), fu_cell (by decide)]
          · rw [fu_cell (by decide), fu_cell (by decide)]
          · rw [fu_cell (by decide), fu_cell (by decide)]
          · rw [fu_cell (by decide), fu_cell (by decide)]
          · rw [fu_cell (by decide), fu_cell (by decide)]
        · rw [fu_cell (by decide), fu_cell (by decide), fu_cell (by decide)]
          exact hP k hk h0
  rw [f_X2_loadOrShift_b28, if_neg (nI_ge hjQ (by omega)), ix24, fb_x rfl (by omega) (by decide), nI_clamp (by omega), w2 j hj, c_sails (by omega) (rs_le P _ _) (hD.1 _ hc).2.1, fcall_ok]
  by_cases h0 : (dA P).1 (ord P p) = 0
  · rw [show (dPl P (P.1 2).length).1 (ord P p) = 0 from h0, show bI (decide (0 = 0)) = 1 from rfl, if_neg (by decide), c_findLane hp hok hV hL hP hc hv, fcall_ok]
    exact b70 _ (by unfold whereF; rw [if_pos h0])
  · rw [decide_eq_false (show ¬ (dPl P (P.1 2).length).1 (ord P p) = 0 from h0), if_pos bI_f]
    exact b70 none (by unfold whereF; rw [if_neg h0])
theorem c_place {b : Nat} {σ : fS} {P : aP} {S : aL} {p : Nat} (hb : b + 15 ≤ 138) (hp : PV b σ P) (hok : aOK P) (hD : DC σ 140 139 141 142 143 P) (hpl : p < (P.1 2).length) (hV : VI P p 0 S) (hL : LV σ 146 149 147 150 152 153 154 155 S (P.1 2).length (P.1 3).length) (hP : LPt σ P S) : ∃ σ', f_X2_loadOrShift b (nI p) σ = some σ' ∧ (∀ q, q < 146 ∨ 156 ≤ q → σ' q = σ q) ∧ LV σ' 146 149 147 150 152 153 154 155 (loadN P (ord P p) S (ql S (ord P p))) (P.1 2).length (P.1 3).length ∧ LPt σ' P (loadN P (ord P p) S (ql S (ord P p))) := by
  have z2 : (P.1 2).length ≤ 12 := hok.1 2 (by decide)
  obtain ⟨hc, hpc⟩ := pos_ord hpl
  have hq24 := hV.1 _ hc
  unfold f_X2_loadOrShift
  rw [fb_x rfl (by omega) (by decide), c_next hp hok hD hpl, fcall_ok, nI_clamp (by omega), hD.2 p hpl, fb_x rfl (by omega) (by decide), nI_clamp (by omega), (hL.1 _ hc).1]
  obtain ⟨s, ⟨h1, h2, h3⟩, e⟩ := do_all (f := fun n v s => f_X2_loadOrShift_b28 b n (nI (ord P p)) (orI (-10004) (fun n => nI (ord P n)) (nxtF P (ord P p))) (nI (ql S (ord P p))) v s) (N := ql S (ord P p)) (I := fun j s => (∀ q, q < 146 ∨ 156 ≤ q → s q = σ q) ∧ LV s 146 149 147 150 152 153 154 155 (loadN P (ord P p) S j) (P.1 2).length (P.1 3).length ∧ LPt s P (loadN P (ord P p) S j)) (fin := fun s => some s) (by omega) (fun n s hI => by
    show f_X2_loadOrShift_b28 b (n + 1) (nI (ord P p)) (orI (-10004) (fun n => nI (ord P n)) (nxtF P (ord P p))) (nI (ql S (ord P p))) (nI (ql S (ord P p))) s = _
    rw [f_X2_loadOrShift_b28, if_pos (nI_le (Nat.le_refl _) (by omega))]) (fun n j s hj hI => by
    obtain ⟨i1, i2, i3⟩ := hI
    have hp' : PV b s P := hp.of (fun q a x => i1 q (by omega))
    have hD' : DC s 140 139 141 142 143 P := hD.of (i1 140 (by decide)) (i1 139 (by decide)) (i1 141 (by decide)) (i1 142 (by decide)) (i1 143 (by decide))
    obtain ⟨s', e, f1, f2, f3⟩ := c_one hj hq24 hb hp' hok hD' hpl (hV.loadN hok hpl j (by omega)) (by rw [(loadN_q hc j).1]; exact hj) i2 i3 n
    exact ⟨s', ⟨fun q hq => by rw [f1 q hq]; exact i1 q hq, f2, f3⟩, e⟩) (σ := σ) ⟨fun _ _ => rfl, hL, hP⟩
  exact ⟨s, e, h1, h2, h3⟩
theorem c_emptyLanes {b : Nat} {σ : fS} {P : aP} (hb : b + 15 ≤ 138) (hp : PV b σ P) (hok : aOK P) {c : Nat} (hc : c < (P.1 2).length) : ∃ σ', f_X2_emptyLanes b (nI c) σ = some σ' ∧ (∀ q, q ≠ 147 → q ≠ 150 → σ' q = σ q) ∧ (∀ k, 4 * c ≤ k → k < 4 * c + 4 → σ' 147 k = nI (laL P c) ∧ σ' 150 k = 0) ∧ ∀ k, k < 4 * c → σ' 147 k = σ 147 k ∧ σ' 150 k = σ 150 k := by
  have z2 : (P.1 2).length ≤ 12 := hok.1 2 (by decide)
  unfold f_X2_emptyLanes
  obtain ⟨s, ⟨h1, h2, h3⟩, e⟩ := do_all (f := fun n v s => f_X2_emptyLanes_b2 b n (nI c) v s) (N := 4) (I := fun l s => (∀ q, q ≠ 147 → q ≠ 150 → s q = σ q) ∧ (∀ k, 4 * c ≤ k → k < 4 * c + l → s 147 k = nI (laL P c) ∧ s 150 k = 0) ∧ ∀ k, k < 4 * c → s 147 k = σ 147 k ∧ s 150 k = σ 150 k) (fin := fun s => some s) (by decide) (fun n s hI => by
    show f_X2_emptyLanes_b2 b (n + 1) (nI c) (nI 4) s = _
    rw [f_X2_emptyLanes_b2, if_pos (show (4 : Int32) ≤ nI 4 from by decide)]) (fun n l s hl hI => by
    obtain ⟨i1, i2, i3⟩ := hI
    have hp' : PV b s P := hp.of (fun q a x => i1 q (by omega) (by omega))
    refine ⟨fu (fu s 147 (4 * c + l) (nI (laL P c))) 150 (4 * c + l) 0, ⟨fun q a x => by rw [fu_cell x, fu_cell a]; exact i1 q a x, fun k a x => ?_, fun k a => ?_⟩, ?_⟩
    · rw [fu_cell (a := 147) (by decide)]
      by_cases hk : k = 4 * c + l
      · subst hk
        rw [fu_self, fu_self]
        exact ⟨rfl, rfl⟩
      · rw [fu_slot hk, fu_slot hk, fu_slot hk]
        exact i2 k a (by omega)
    · rw [fu_slot (by omega), fu_slot (by omega), fu_slot (by omega), fu_slot (by omega)]
      exact i3 k a
    · show f_X2_emptyLanes_b2 b (n + 1) (nI c) (nI l) s = f_X2_emptyLanes_b2 b n (nI c) (nI (l + 1)) _
      rw [f_X2_emptyLanes_b2, if_neg (show ¬ (4 : Int32) ≤ nI l from nI_ge (b := 4) hl (by decide)), c_laL hp' hok hc, fcall_ok, ix4, fb_x rfl (by omega) (by decide), fL_ok, fb_x rfl (by omega) (by decide), fL_ok, nI_clamp (by omega), nI_1]) (σ := σ) ⟨fun _ _ _ => rfl, fun k a x => by omega, fun _ _ => ⟨rfl, rfl⟩⟩
  exact ⟨s, e, h1, h2, h3⟩
theorem c_load {b : Nat} {σ : fS} {P : aP} (hb : b + 15 ≤ 138) (hp : PV b σ P) (hok : aOK P) (hD : DC σ 140 139 141 142 143 P) : ∃ σ', f_X2_make b σ = some σ' ∧ (∀ q, q < 146 ∨ 156 ≤ q → σ' q = σ q) ∧ LV σ' 146 149 147 150 152 153 154 155 (lA P) (P.1 2).length (P.1 3).length := by
  have z2 : (P.1 2).length ≤ 12 := hok.1 2 (by decide)
  have z3 : (P.1 3).length ≤ 24 := hok.1 3 (by decide)
  unfold f_X2_make
  -- lanes and queues are empty
  obtain ⟨s1, ⟨a1, a2⟩, e1⟩ := do_all (f := fun n v s => f_X2_make_b2 b n v s) (N := (P.1 2).length) (I := fun c s => (∀ q, q < 146 ∨ 156 ≤ q → s q = σ q) ∧ LV s 146 149 147 150 152 153 154 155 (lIni P) c 0) (fin := fun s => f_X2_make_b34 b fN 0 s) (by omega) (fun n s hI => by
    have hp' : PV b s P := hp.of (fun q a x => hI.1 q (by omega))
    show f_X2_make_b2 b (n + 1) (nI (P.1 2).length) s = _
    rw [f_X2_make_b2, cCn hp', fcall_ok, if_pos (nI_le (Nat.le_refl _) (by omega))]) (fun n c s hc hI => by
    obtain ⟨i1, i2⟩ := hI
    have hp' : PV b s P := hp.of (fun q a x => i1 q (by omega))
    have hp1 : PV b (fu s 146 c 0) P := hp'.of (fun q a x => fu_cell (by omega))
    obtain ⟨s', e, f1, f2, f3⟩ := c_emptyLanes hb hp1 hok hc
    refine ⟨s', ⟨fun q hq => by rw [f1 q (by omega) (by omega), fu_cell (by omega)]; exact i1 q hq, fun c' hc' => ⟨?_, fun i hi => absurd hi (Nat.not_lt_zero _)⟩, fun k hk => ?_, fun v hv => absurd hv (Nat.not_lt_zero _)⟩, ?_⟩
    · rw [f1 146 (by decide) (by decide)]
      by_cases h : c' = c
      · subst h
        rw [fu_self]; rfl
      · rw [fu_slot h]; exact (i2.1 c' (by omega)).1
    · by_cases h : k < 4 * c
      · rw [(f3 k h).1, (f3 k h).2, fu_cell (by decide), fu_cell (by decide)]
        exact i2.2.1 k h
      · obtain ⟨x, y⟩ := f2 k (by omega) (by omega)
        rw [x, y]
        refine ⟨?_, rfl⟩
        show nI (laL P c) = nI (laL P (k / 4))
        rw [show k / 4 = c by omega]
    · show f_X2_make_b2 b (n + 1) (nI c) s = f_X2_make_b2 b n (nI (c + 1)) s'
      rw [f_X2_make_b2, cCn hp', fcall_ok, if_neg (nI_ge hc (by omega)), fb_x rfl (by omega) (by decide), fL_ok, nI_clamp (by omega), e, fcallv_ok, nI_1]) (σ := σ) ⟨fun _ _ => rfl, fun c hc => absurd hc (Nat.not_lt_zero _), fun k hk => by omega, fun v hv => absurd hv (Nat.not_lt_zero _)⟩
  -- those who want a crossing
  obtain ⟨s2, ⟨b1, b2⟩, e2⟩ := do_all (f := fun n v s => f_X2_make_b34 b n v s) (N := (P.1 3).length) (I := fun v s => (∀ q, q < 146 ∨ 156 ≤ q → s q = σ q) ∧ LV s 146 149 147 150 152 153 154 155 (lVe P v) (P.1 2).length v) (fin := fun s => f_X2_make_b101 b fN 0 s) (by omega) (fun n s hI => by
    have hp' : PV b s P := hp.of (fun q a x => hI.1 q (by omega))
    show f_X2_make_b34 b (n + 1) (nI (P.1 3).length) s = _
    rw [f_X2_make_b34, cVn hp', fcall_ok, if_pos (nI_le (Nat.le_refl _) (by omega))]) (fun n v s hv hI => by
    obtain ⟨i1, i2⟩ := hI
    have hp' : PV b s P := hp.of (fun q a x => i1 q (by omega))
    obtain ⟨q1, q2, q3, q4⟩ := lVe_inv hok v (by omega)
    have hw := (hok.2.2.2.2.1 v hv).1
    have eab : ab (lVe P v) v = none := by unfold ab; rw [q4]; rfl
    have esh : sh (lVe P v) v = 0 := by unfold sh; rw [q4]; rfl
    have hq := q1 (tg (P.1 3) v 0)
    have hp5 : PV b (fu (fu (fu (fu s 152 v (-10004)) 153 v (-10004)) 154 v (-10004)) 155 v 0) P := hp'.of (fun q a x => by rw [fu_cell (by omega), fu_cell (by omega), fu_cell (by omega), fu_cell (by omega)])
    have hL5 : LV (fu (fu (fu (fu s 152 v (-10004)) 153 v (-10004)) 154 v (-10004)) 155 v 0) 146 149 147 150 152 153 154 155 (lVe P v) (P.1 2).length (v + 1) := by
      refine i2.ext ?_ ?_ ?_ ?_ ?_ ?_ ?_ ?_
      · rw [fu_cell (by decide), fu_cell (by decide), fu_cell (by decide), fu_cell (by decide)]
      · rw [fu_cell (by decide), fu_cell (by decide), fu_cell (by decide), fu_cell (by decide)]
      · rw [fu_cell (by decide), fu_cell (by decide), fu_cell (by decide), fu_cell (by decide)]
      · rw [fu_cell (by decide), fu_cell (by decide), fu_cell (by decide), fu_cell (by decide)]
      · rw [fu_cell (by decide), fu_cell (by decide), fu_cell (by decide), fu_row, eab]; rfl
      · rw [fu_cell (by decide), fu_cell (by decide), fu_row, fu_cell (by decide), eab]; rfl
      · rw [fu_cell (by decide), fu_row, fu_cell (by decide), fu_cell (by decide), eab]; rfl
      · rw [fu_row, fu_cell (by decide), fu_cell (by decide), fu_cell (by decide), esh]; rfl
    refine ⟨fu (fu (fu (fu (fu (fu s 152 v (-10004)) 153 v (-10004)) 154 v (-10004)) 155 v 0) 149 (24 * tg (P.1 3) v 0 + ql (lVe P v) (tg (P.1 3) v 0)) (nI v)) 146 (tg (P.1 3) v 0) (nI (ql (lVe P v) (tg (P.1 3) v 0) + 1)), ⟨fun q hq => ?_, ?_⟩, ?_⟩
    · rw [fu_cell (by omega), fu_cell (by omega), fu_cell (by omega), fu_cell (by omega), fu_cell (by omega), fu_cell (by omega)]; exact i1 q hq
    · refine hL5.join (fun c _ => by have := q1 c; omega) hw (by omega) ?_ ?_ ?_ ?_ ?_ ?_ ?_ ?_
      · rw [fu_row, fu_cell (a := 146) (c := 149) (by decide)]
      · rw [fu_cell (a := 149) (c := 146) (by decide), fu_row]
      · rw [fu_cell (c := 146) (by decide), fu_cell (c := 149) (by decide)]
      · rw [fu_cell (c := 146) (by decide), fu_cell (c := 149) (by decide)]
      · rw [fu_cell (c := 146) (by decide), fu_cell (c := 149) (by decide)]
      · rw [fu_cell (c := 146) (by decide), fu_cell (c := 149) (by decide)]
      · rw [fu_cell (c := 146) (by decide), fu_cell (c := 149) (by decide)]
      · rw [fu_cell (c := 146) (by decide), fu_cell (c := 149) (by decide)]
    · show f_X2_make_b34 b (n + 1) (nI v) s = f_X2_make_b34 b n (nI (v + 1)) _
      rw [f_X2_make_b34, cVn hp', fcall_ok, if_neg (nI_ge hv (by omega)), fb_x rfl (by omega) (by decide), fL_ok, fb_x rfl (by omega) (by decide), fL_ok, fb_x rfl (by omega) (by decide), fL_ok, fb_x rfl (by omega) (by decide), fL_ok, nI_clamp (by omega), cV0 hp5 hok.1 hv, fcall_ok, c_lineUp (by omega) (by omega) ((hL5.1 _ hw).1), fcallv_ok, nI_1]) (σ := s1) ⟨a1, a2⟩
  -- place by place
  obtain ⟨s3, ⟨c1, c2, c3⟩, e3⟩ := do_all (f := fun n v s => f_X2_make_b101 b n v s) (N := (P.1 2).length) (I := fun p s => (∀ q, q < 146 ∨ 156 ≤ q → s q = σ q) ∧ LV s 146 149 147 150 152 153 154 155 (lPl P p) (P.1 2).length (P.1 3).length ∧ LPt s P (lPl P p)) (fin := fun s => some s) (by omega) (fun n s hI => by
    have hp' : PV b s P := hp.of (fun q a x => hI.1 q (by omega))
    show f_X2_make_b101 b (n + 1) (nI (P.1 2).length) s = _
    rw [f_X2_make_b101, cCn hp', fcall_ok, if_pos (nI_le (Nat.le_refl _) (by omega))]) (fun n p s hpl hI => by
    obtain ⟨i1, i2, i3⟩ := hI
    have hp' : PV b s P := hp.of (fun q a x => i1 q (by omega))
    have hD' : DC s 140 139 141 142 143 P := hD.of (i1 140 (by decide)) (i1 139 (by decide)) (i1 141 (by decide)) (i1 142 (by decide)) (i1 143 (by decide))
    obtain ⟨s', e, f1, f2, f3⟩ := c_place hb hp' hok hD' hpl (VI_pl hok p (by omega)) i2 i3
    refine ⟨s', ⟨fun q hq => by rw [f1 q hq]; exact i1 q hq, f2, f3⟩, ?_⟩
    show f_X2_make_b101 b (n + 1) (nI p) s = f_X2_make_b101 b n (nI (p + 1)) s'
    rw [f_X2_make_b101, cCn hp', fcall_ok, if_neg (nI_ge hpl (by omega)), e, fcallv_ok, nI_1]) (σ := s2) ⟨b1, b2, fun k _ h0 => by
      have q4 := (lVe_inv hok _ (Nat.le_refl (P.1 3).length)).2.2.2
      have : ll (lPl P 0) k = 0 := by show ll (lVe P (P.1 3).length) k = 0; unfold ll; rw [q4]; rfl
      omega⟩
  exact ⟨s3, e1.trans (e2.trans e3), c1, c2⟩

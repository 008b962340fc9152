/-! ===== the reference loads ===== -/
theorem find_gen {β : Type} {f : Nat → Int32 → β} {N : Nat} {c : Nat → Bool} {r : Nat → β} {e : β} (h0 : ∀ n, f (n + 1) (nI N) = e) (h1 : ∀ n i, i < N → c i = true → f (n + 1) (nI i) = r i) (h2 : ∀ n i, i < N → c i = false → f (n + 1) (nI i) = f n (nI (i + 1))) : ∀ d i n, i + d = N → d < n → f n (nI i) = (fstI c i d).elim e r := by
  intro d
  induction d with
  | zero =>
    intro i n hi hn
    obtain ⟨n, rfl⟩ : ∃ m, n = m + 1 := ⟨n - 1, by omega⟩
    have : i = N := by omega
    subst this
    exact h0 n
  | succ d ih =>
    intro i n hi hn
    obtain ⟨n, rfl⟩ : ∃ m, n = m + 1 := ⟨n - 1, by omega⟩
    unfold fstI
    cases hc : c i with
    | true => rw [if_pos rfl]; exact h1 n i (by omega) hc
    | false => rw [if_neg (by decide), h2 n i (by omega) hc]; exact ih (i + 1) n (by omega) (by omega)
def LRt (σ : fS) (P : aP) (S : aL) : Prop := ∀ k, k < 4 * (P.1 2).length → ∀ i, i < ll S k → σ 183 (24 * k + i) = nI (lv S k i)
theorem LRt.board {σ σ' : fS} {P : aP} {S : aL} {c m v : Nat} (hL : LRt σ P S) (h24 : ∀ k, k < 4 * (P.1 2).length → ll S k ≤ 24) (hr : ll S (4 * c + m) < 24) (e : σ' 183 = upd (σ 183) (24 * (4 * c + m) + ll S (4 * c + m)) (nI v)) : LRt σ' P (boardS P S c m v) := by
  intro k hk
  have hk24 := h24 k hk
  rw [e]
  show ∀ i, i < up1 (ll S) (4 * c + m) (ll S (4 * c + m) + 1) k → upd (σ 183) _ _ (24 * k + i) = nI (up2 (lv S) (4 * c + m) (ll S (4 * c + m)) v k i)
  intro i hi
  by_cases hk2 : k = 4 * c + m
  · subst hk2
    rw [up1_self] at hi
    by_cases hi2 : i = ll S (4 * c + m)
    · subst hi2
      rw [upd_self, up2_self]
    · rw [upd_ne (by omega), up2_ne (fun x => hi2 x.2)]
      exact hL _ hk i (by omega)
  · rw [up1_ne hk2] at hi
    rw [upd_ne (by omega), up2_ne (fun x => hk2 x.1)]
    exact hL k hk i hi
theorem VI.ll24' {P : aP} {n j : Nat} {S : aL} (hz : (P.1 3).length ≤ 24) (h : VI P n j S) : ∀ k, k < 4 * (P.1 2).length → ll S k ≤ 24 := fun k hk => by
  have := h.ll24 hz (c := k / 4) (l := k % 4) (by omega) (by omega)
  rw [show 4 * (k / 4) + k % 4 = k by omega] at this
  exact this
theorem m_laneFor {σ : fS} {P : aP} {S : aL} {n j : Nat} (hg : GV (σ 165) P) (hok : aOK P) (hV : VI P n j S) (hL : LV σ 177 176 184 182 178 179 180 181 S (P.1 2).length (P.1 3).length) (hR : LRt σ P S) {c v : Nat} (hc : c < (P.1 2).length) (hv : v < (P.1 3).length) : f_X8_laneFor (nI c) (nI v) σ = some (bO (-1) (pickL P S c v), σ) := by
  have z2 : (P.1 2).length ≤ 12 := hok.1 2 (by decide)
  have z3 : (P.1 3).length ≤ 24 := hok.1 3 (by decide)
  have lb := laN_b hok hc
  have rb := rmP_b hok hc
  have sc := hok.2.2.2.1 c hc
  have vb := hok.2.2.2.2.1 v hv
  have key : ∀ d l n bo, l + d = laN P c → d < n → (∀ m, bo = some m → m < 4) → f_X8_laneFor_b5 n (nI c) (nI v) (bO (-1) bo) (nI l) σ = some (bO (-1) (pickF P S c v d l bo), σ) := by
    intro d
    induction d with
    | zero =>
      intro l n bo hl hn hb
      obtain ⟨n, rfl⟩ : ∃ m, n = m + 1 := ⟨n - 1, by omega⟩
      rw [f_X8_laneFor_b5, mC0 hg hok.1 hc, fcall_ok, mS1 hg hok.1 sc.1, fcall_ok, if_pos (show nI (tg (P.1 0) (tg (P.1 2) c 0) 1) ≤ nI l from nI_le (show laN P c ≤ l by omega) (by omega))]
      rfl
    | succ d ih =>
      intro l n bo hl hn hb
      obtain ⟨n, rfl⟩ : ∃ m, n = m + 1 := ⟨n - 1, by omega⟩
      have hl4 : l < 4 := by omega
      have lk := hL.2.1 (4 * c + l) (by omega)
      have l2 := hV.lf200 hok hc hl4
      have l24 := hV.ll24 z3 hc hl4
      have no : canB P S c v l bo = false → f_X8_laneFor_b5 n (nI c) (nI v) (bO (-1) bo) (nI (l + 1)) σ = some (bO (-1) (pickF P S c v (d + 1) l bo), σ) := fun h => by
        rw [ih (l + 1) n bo (by omega) (by omega) hb]
        show _ = some (bO (-1) (pickF P S c v d (l + 1) (if canB P S c v l bo = true then some l else bo)), σ)
        rw [if_neg (by rw [h]; decide)]
      have yes : canB P S c v l bo = true → f_X8_laneFor_b5 n (nI c) (nI v) (nI l) (nI (l + 1)) σ = some (bO (-1) (pickF P S c v (d + 1) l bo), σ) := fun h => by
        have := ih (l + 1) n (some l) (by omega) (by omega) (fun m hm => by cases hm; exact hl4)
        have this : f_X8_laneFor_b5 n (nI c) (nI v) (nI l) (nI (l + 1)) σ = _ := this
        rw [this]
        show _ = some (bO (-1) (pickF P S c v d (l + 1) (if canB P S c v l bo = true then some l else bo)), σ)
        rw [if_pos h]
      have b116 : mayB P S c l v = true → f_X8_laneFor_b116 (fun v1 v2 v3 v4 σ => f_X8_laneFor_b5 n v1 v2 v3 v4 σ) (nI c) (nI v) (bO (-1) bo) (nI l) (nI (4 * c + l)) σ = some (bO (-1) (pickF P S c v (d + 1) l bo), σ) := fun hm => by
        unfold f_X8_laneFor_b116 f_X8_laneFor_b121 f_X8_laneFor_b169 f_X8_laneFor_b172
        rw [if_neg (by decide), fb_x rfl (by omega) (by decide), mV1 hg hok.1 hv, fcall_ok, nI_clamp (by omega), lk.1, nI_1]
        by_cases g1 : tg (P.1 3) v 1 ≤ lf S (4 * c + l)
        · rw [if_neg (nI_nlt g1 (by omega))]
          cases bo with
          | none =>
            rw [show bO (-1) none = -1 from rfl, if_pos rfl]
            exact yes (by unfold canB; rw [decide_eq_true g1, hm]; rfl)
          | some m =>
            have hm4 := hb m rfl
            have l2m := hV.lf200 hok hc hm4
            have lm := hL.2.1 (4 * c + m) (by omega)
            rw [show bO (-1) (some m) = nI m from rfl, if_neg (nI_neg1 (by omega)), fb_x rfl (by omega) (by decide), iy4, fb_x rfl (by omega) (by decide), nI_clamp (by omega), lm.1]
            by_cases g2 : lf S (4 * c + l) < lf S (4 * c + m)
            · rw [if_neg (nI_ge g2 (by omega))]
              exact yes (by unfold canB; rw [decide_eq_true g1, hm, show betB S c l (some m) = true from decide_eq_true g2]; rfl)
            · rw [if_pos (nI_le (by omega) (by omega))]
              exact no (by unfold canB; rw [show betB S c l (some m) = false from decide_eq_false g2]; simp)
        · rw [if_pos (nI_lt (by omega) (by omega))]
          exact no (by unfold canB; rw [decide_eq_false g1]; rfl)
      have b120 : mayB P S c l v = false → f_X8_laneFor_b120 (fun v1 v2 v3 v4 σ => f_X8_laneFor_b5 n v1 v2 v3 v4 σ) (nI c) (nI v) (bO (-1) bo) (nI l) (nI (4 * c + l)) σ = some (bO (-1) (pickF P S c v (d + 1) l bo), σ) := fun hm => by
        unfold f_X8_laneFor_b120 f_X8_laneFor_b121 f_X8_laneFor_b172
        rw [if_pos rfl, nI_1]
        exact no (by unfold canB; rw [hm]; simp)
      rw [f_X8_laneFor_b5, mC0 hg hok.1 hc, fcall_ok, mS1 hg hok.1 sc.1, fcall_ok, if_neg (show ¬ nI (tg (P.1 0) (tg (P.1 2) c 0) 1) ≤ nI l from nI_ge (show l < laN P c by omega) (show laN P c < 2 ^ 31 by omega)), iy4, fb_x rfl (by omega) (by decide), nI_clamp (by omega), lk.2]
      by_cases h0 : ll S (4 * c + l) = 0
      · rw [if_pos (by rw [h0]; rfl)]
        unfold f_X8_laneFor_b68
        rw [mV2 hg hok.1 hv, fcall_ok, if_pos rfl]
        exact b116 (by unfold mayB; exact decide_eq_true (Or.inl h0))
      · obtain ⟨m, hm⟩ : ∃ m, ll S (4 * c + l) = m + 1 := ⟨ll S (4 * c + l) - 1, by omega⟩
        have hlast := hR (4 * c + l) (by omega) m (by omega)
        have hlv := (hV.2.2.2.2.1 c l hc hl4 m (by omega)).1
        have pl := (hok.2.2.2.2.1 _ hlv).2.2.2
        have ei : (24 : Int32) * nI (4 * c + l) + nI (ll S (4 * c + l)) - (1 : Int32) = nI (24 * (4 * c + l) + m) := by
          rw [iy24, hm, show 24 * (4 * c + l) + (m + 1) = (24 * (4 * c + l) + m) + 1 by omega, nI_pred]
        rw [if_neg (nI_ne0 (by omega) (by omega)), fb_x rfl (by omega) (by decide), ei, fb_x rfl (by omega) (by decide), nI_clamp (by omega), hlast, mV2 hg hok.1 hlv, fcall_ok]
        unfold f_X8_laneFor_b68
        have hmay : mayB P S c l v = decide (if rmP P c = 1 then tg (P.1 3) v 2 ≤ tg (P.1 3) (lv S (4 * c + l) m) 2 else tg (P.1 3) (lv S (4 * c + l) m) 2 ≤ tg (P.1 3) v 2) := by
          unfold mayB
          rw [hm, Nat.add_sub_cancel]
          refine decide_eq_decide.mpr ⟨fun x => ?_, fun x => Or.inr x⟩
          rcases x with x | x
          · omega
          · exact x
        rw [mV2 hg hok.1 hv, fcall_ok, if_neg (nI_neg1 (by omega)), mC1 hg hok.1 hc, fcall_ok, mB1 hg hok.1 sc.2.1, fcall_ok, show tg (P.1 1) (tg (P.1 2) c 1) 1 = rmP P c from rfl]
        by_cases hr : rmP P c = 1
        · rw [if_pos (by rw [hr]; rfl)]
          by_cases hq : tg (P.1 3) v 2 ≤ tg (P.1 3) (lv S (4 * c + l) m) 2
          · rw [if_neg (nI_nlt hq (by omega))]
            exact b116 (by rw [hmay]; exact decide_eq_true (by rw [if_pos hr]; exact hq))
          · rw [if_pos (nI_lt (by omega) (by omega))]
            exact b120 (by rw [hmay]; exact decide_eq_false (by rw [if_pos hr]; exact hq))
        · rw [if_neg (show ¬ nI (rmP P c) = (1 : Int32) from fun e => hr (nI_inj (b := 1) (by omega) (by decide) e))]
          by_cases hq : tg (P.1 3) (lv S (4 * c + l) m) 2 ≤ tg (P.1 3) v 2
          · rw [if_neg (nI_nlt hq (by omega))]
            exact b116 (by rw [hmay]; exact decide_eq_true (by rw [if_neg hr]; exact hq))
          · rw [if_pos (nI_lt (by omega) (by omega))]
            exact b120 (by rw [hmay]; exact decide_eq_false (by rw [if_neg hr]; exact hq))
  exact key (laN P c) 0 fN none (Nat.zero_add _) (by unfold fN; omega) (fun m hm => by cases hm)
theorem m_waitsAt {σ : fS} {c v m : Nat} (hc : c < 12) (hm : m < 24) (h : σ 177 c = nI m) : f_X8_waitsAt (nI c) (nI v) σ = some (fu (fu σ 176 (24 * c + m) (nI v)) 177 c (nI (m + 1))) := by
  unfold f_X8_waitsAt
  rw [fb_x rfl hc (by decide), nI_clamp (by omega), h, iy24, fb_x rfl (by omega) (by decide), fL_ok, fb_x rfl hc (by decide), fb_x rfl hc (by decide), fL_ok, nI_clamp (by omega), fu_cell (by decide), h, nI_1]
theorem m_shiftsFrom {σ : fS} {P : aP} (hg : GV (σ 165) P) (hok : aOK P) (hD : DC σ 172 171 173 174 175 P) {c v : Nat} (hc : c < (P.1 2).length) : f_X8_shiftsFrom (nI c) (nI v) σ = (nxtF P c).elim (some σ) (fun m => fcallv (f_X8_waitsAt (nI (ord P m)) (nI v) σ) (fun σ3 => fb (nI v) 24 (fb (nI v) 24 (fL (fu σ3 181 (nI v).toNatClampNeg ((σ3 181 (nI v).toNatClampNeg) + (1 : Int32))) (fun σ4 => some σ4))))) := by
  have z2 : (P.1 2).length ≤ 12 := hok.1 2 (by decide)
  have dc := okD hok hc
  have hpc := pos_lt hc
  unfold f_X8_shiftsFrom nxtF
  rw [fb_x rfl (by omega) (by decide), nI_clamp (by omega), (hD.1 c hc).1, nI_1]
  refine find_gen (f := fun n x => f_X8_shiftsFrom_b9 n (nI c) (nI v) x σ) (N := (P.1 2).length) (c := nxtB P c) (fun n => ?_) (fun n i hi hcc => ?_) (fun n i hi hcc => ?_) _ (pos P c + 1) fN (by omega) (by unfold fN; omega)
  · show f_X8_shiftsFrom_b9 (n + 1) (nI c) (nI v) (nI (P.1 2).length) σ = _
    rw [f_X8_shiftsFrom_b9, fb122, mCn hg, if_pos (nI_le (Nat.le_refl _) (by omega))]
  · have hq := (pos_ord hi).1
    have dq := okD hok hq
    obtain ⟨g1, g2⟩ := of_decide_eq_true hcc
    show f_X8_shiftsFrom_b9 (n + 1) (nI c) (nI v) (nI i) σ = _
    rw [f_X8_shiftsFrom_b9, fb122, mCn hg, if_neg (nI_ge hi (by omega)), fb_x rfl (by omega) (by decide), nI_clamp (n := i) (by omega), hD.2 i hi, fb_x rfl (by omega) (by decide), nI_clamp (n := ord P i) (by omega), (hD.1 _ hq).2.1, g1, if_pos nI_0, mC3 hg hok.1 hq, fcall_ok, mC3 hg hok.1 hc, fcall_ok, if_neg (nI_ge g2 (by omega))]
  · have hq := (pos_ord hi).1
    have dq := okD hok hq
    have g := of_decide_eq_false hcc
    have rl := rs_le P (P.1 2).length (ord P i)
    show f_X8_shiftsFrom_b9 (n + 1) (nI c) (nI v) (nI i) σ = f_X8_shiftsFrom_b9 n (nI c) (nI v) (nI (i + 1)) σ
    rw [f_X8_shiftsFrom_b9, fb122, mCn hg, if_neg (nI_ge hi (by omega)), fb_x rfl (by omega) (by decide), nI_clamp (n := i) (by omega), hD.2 i hi, fb_x rfl (by omega) (by decide), nI_clamp (n := ord P i) (by omega), (hD.1 _ hq).2.1]
    unfold f_X8_shiftsFrom_b72
    by_cases g1 : (dA P).1 (ord P i) = 0
    · rw [g1, if_pos nI_0, mC3 hg hok.1 hq, fcall_ok, mC3 hg hok.1 hc, fcall_ok, if_pos (nI_le (Nat.le_of_not_lt (fun x => g ⟨g1, x⟩)) (by omega)), nI_1]
    · rw [if_neg (nI_ne0 (show 0 < (dA P).1 (ord P i) by omega) (show (dPl P (P.1 2).length).1 (ord P i) < 2 ^ 31 by omega)), nI_1]
theorem m_one {σ : fS} {P : aP} {S : aL} {p j : Nat} (hg : GV (σ 165) P) (hok : aOK P) (hD : DC σ 172 171 173 174 175 P) (hpl : p < (P.1 2).length) (hV : VI P p j S) (hj : j < ql S (ord P p)) (hL : LV σ 177 176 184 182 178 179 180 181 S (P.1 2).length (P.1 3).length) (hR : LRt σ P S) : ∃ σ', f_X8_loads (nI (ord P p)) (nI (qv S (ord P p) j)) σ = some σ' ∧ (∀ q, q < 176 ∨ 185 ≤ q → σ' q = σ q) ∧ LV σ' 177 176 184 182 178 179 180 181 (loadS P S (ord P p) (qv S (ord P p) j)) (P.1 2).length (P.1 3).length ∧ LRt σ' P (loadS P S (ord P p) (qv S (ord P p) j)) := by
  have z2 : (P.1 2).length ≤ 12 := hok.1 2 (by decide)
  have z3 : (P.1 3).length ≤ 24 := hok.1 3 (by decide)
  obtain ⟨hc, hpc⟩ := pos_ord hpl
  have hv := (hV.2.1 p (Nat.le_refl _) hpl).1 j hj
  have hab := hV.2.2.2.1 p (Nat.le_refl _) hpl j (by rw [if_pos rfl]; omega) hj
  have rl := rs_le P (P.1 2).length (ord P p)
  have b19 : ∀ s0 : Option Nat, s0 = whereF P S (ord P p) (qv S (ord P p) j) → ∃ σ', f_X8_loads_b19 (nI (ord P p)) (nI (qv S (ord P p) j)) (bO (-1) s0) σ = some σ' ∧ (∀ q, q < 176 ∨ 185 ≤ q → σ' q = σ q) ∧ LV σ' 177 176 184 182 178 179 180 181 (loadS P S (ord P p) (qv S (ord P p) j)) (P.1 2).length (P.1 3).length ∧ LRt σ' P (loadS P S (ord P p) (qv S (ord P p) j)) := fun s0 hs0 => by
    unfold f_X8_loads_b19
    cases s0 with
    | some l =>
      obtain ⟨hl, hfit⟩ := whereF_some hs0.symm
      have lb := laN_b hok hc
      have hl4 : l < 4 := by omega
      have hS : loadS P S (ord P p) (qv S (ord P p) j) = boardS P S (ord P p) l (qv S (ord P p) j) := by unfold loadS; rw [← hs0]
      have hll := hV.lane24 z3 hc hl4 hv hab
      rw [hS]
      generalize ord P p = c at *
      generalize qv S c j = v at *
      obtain ⟨k1, k2⟩ := hL.2.1 (4 * c + l) (by omega)
      have n1 : nI (ll S (4 * c + l)) + (1 : Int32) = nI (ll S (4 * c + l) + 1) := nI_1 _
      let s5 := fu (fu (fu (fu (fu σ 178 v (nI c)) 179 v (nI l)) 180 v (nI (ll S (4 * c + l)))) 183 (24 * (4 * c + l) + ll S (4 * c + l)) (nI v)) 182 (4 * c + l) (nI (ll S (4 * c + l) + 1))
      have g5 : GV (s5 165) P := by
        show GV (fu (fu (fu (fu (fu σ 178 _ _) 179 _ _) 180 _ _) 183 _ _) 182 _ _ 165) P
        rw [fu_cell (by decide), fu_cell (by decide), fu_cell (by decide), fu_cell (by decide), fu_cell (by decide)]; exact hg
      have e184 : s5 184 (4 * c + l) = nI (lf S (4 * c + l)) := by
        show fu (fu (fu (fu (fu σ 178 _ _) 179 _ _) 180 _ _) 183 _ _) 182 _ _ 184 _ = _
        rw [fu_cell (by decide), fu_cell (by decide), fu_cell (by decide), fu_cell (by decide), fu_cell (by decide)]; exact k1
      refine ⟨fu s5 184 (4 * c + l) (nI (lf S (4 * c + l) - tg (P.1 3) v 1)), ?_, fun q hq => ?_, ?_, ?_⟩
      · rw [show bO (-1) (some l) = nI l from rfl, if_neg (nI_neg1 (by omega)), fb_x rfl (by omega) (by decide), fL_ok, fb_x rfl (by omega) (by decide), fL_ok, iy4, fb_x rfl (by omega) (by decide), fb_x rfl (by omega) (by decide), fL_ok, fb_x rfl (by omega) (by decide), nI_clamp (n := v) (by omega), nI_clamp (n := 4 * c + l) (by omega)]
        rw [show fu (fu σ 178 v (nI c)) 179 v (nI l) 182 (4 * c + l) = nI (ll S (4 * c + l)) from by rw [fu_cell (by decide), fu_cell (by decide)]; exact k2, show fu (fu (fu σ 178 v (nI c)) 179 v (nI l)) 180 v (nI (ll S (4 * c + l))) 182 (4 * c + l) = nI (ll S (4 * c + l)) from by rw [fu_cell (by decide), fu_cell (by decide), fu_cell (by decide)]; exact k2, iy24, fb_x rfl (by omega) (by decide), fL_ok, fb_x rfl (by omega) (by decide), fb_x rfl (by omega) (by decide), fL_ok, fb_x rfl (by omega) (by decide), nI_clamp (n := 24 * (4 * c + l) + ll S (4 * c + l)) (by omega)]
        rw [show fu (fu (fu (fu σ 178 v (nI c)) 179 v (nI l)) 180 v (nI (ll S (4 * c + l)))) 183 (24 * (4 * c + l) + ll S (4 * c + l)) (nI v) 182 (4 * c + l) = nI (ll S (4 * c + l)) from by rw [fu_cell (by decide), fu_cell (by decide), fu_cell (by decide), fu_cell (by decide)]; exact k2, n1]
        rw [show fu (fu (fu (fu (fu σ 178 v (nI c)) 179 v (nI l)) 180 v (nI (ll S (4 * c + l)))) 183 (24 * (4 * c + l) + ll S (4 * c + l)) (nI v)) 182 (4 * c + l) (nI (ll S (4 * c + l) + 1)) = s5 from rfl, mV1 g5 hok.1 hv, fcall_ok, fb_x rfl (by omega) (by decide), fL_ok, e184, nI_sub hfit]
      · show fu (fu (fu (fu (fu (fu σ 178 _ _) 179 _ _) 180 _ _) 183 _ _) 182 _ _) 184 _ _ q = σ q
        rw [fu_cell (by omega), fu_cell (by omega), fu_cell (by omega), fu_cell (by omega), fu_cell (by omega), fu_cell (by omega)]
      · refine hL.board ?_ ?_ ?_ ?_ ?_ ?_ ?_ ?_
        · show fu (fu (fu (fu (fu (fu σ 178 _ _) 179 _ _) 180 _ _) 183 _ _) 182 _ _) 184 _ _ 177 = _
          rw [fu_cell (by decide), fu_cell (by decide), fu_cell (by decide), fu_cell (by decide), fu_cell (by decide), fu_cell (by decide)]
        · show fu (fu (fu (fu (fu (fu σ 178 _ _) 179 _ _) 180 _ _) 183 _ _) 182 _ _) 184 _ _ 176 = _
          rw [fu_cell (by decide), fu_cell (by decide), fu_cell (by decide), fu_cell (by decide), fu_cell (by decide), fu_cell (by decide)]
        · show fu (fu (fu (fu (fu (fu σ 178 _ _) 179 _ _) 180 _ _) 183 _ _) 182 _ _) 184 _ _ 184 = _
          rw [fu_row, fu_cell (by decide), fu_cell (by decide), fu_cell (by decide), fu_cell (by decide), fu_cell (by decide)]
        · show fu (fu (fu (fu (fu (fu σ 178 _ _) 179 _ _) 180 _ _) 183 _ _) 182 _ _) 184 _ _ 182 = _
          rw [fu_cell (by decide), fu_row, fu_cell (by decide), fu_cell (by decide), fu_cell (by decide), fu_cell (by decide)]
        · show fu (fu (fu (fu (fu (fu σ 178 _ _) 179 _ _) 180 _ _) 183 _ _) 182 _ _) 184 _ _ 178 = _
          rw [fu_cell (by decide), fu_cell (by decide), fu_cell (by decide), fu_cell (by decide), fu_cell (by decide), fu_row]
        · show fu (fu (fu (fu (fu (fu σ 178 _ _) 179 _ _) 180 _ _) 183 _ _) 182 _ _) 184 _ _ 179 = _
          rw [fu_cell (by decide), fu_cell (by decide), fu_cell (by decide), fu_cell (by decide), fu_row, fu_cell (by decide)]
        · show fu (fu (fu (fu (fu (fu σ 178 _ _) 179 _ _) 180 _ _) 183 _ _) 182 _ _) 184 _ _ 180 = _
          rw [fu_cell (by decide), fu_cell (by decide), fu_cell (by decide), fu_row, fu_cell (by decide), fu_cell (by decide)]
        · show fu (fu (fu (fu (fu (fu σ 178 _ _) 179 _ _) 180 _ _) 183 _ _) 182 _ _) 184 _ _ 181 = _
          rw [fu_cell (by decide), fu_cell (by decide), fu_cell (by decide), fu_cell (by decide), fu_cell (by decide), fu_cell (by decide)]
      · refine hR.board (hV.ll24' z3) hll ?_
        show fu (fu (fu (fu (fu (fu σ 178 _ _) 179 _ _) 180 _ _) 183 _ _) 182 _ _) 184 _ _ 183 = _
        rw [fu_cell (by decide), fu_cell (by decide), fu_row, fu_cell (by decide), fu_cell (by decide), fu_cell (by decide)]
    | none =>
      rw [show bO (-1) none = -1 from rfl, if_pos rfl, m_shiftsFrom hg hok hD hc]
      cases hn : nxtF P (ord P p) with
      | none =>
        have hS : loadS P S (ord P p) (qv S (ord P p) j) = S := by unfold loadS; rw [← hs0, hn]
        rw [hS]
        exact ⟨σ, rfl, fun _ _ => rfl, hL, hR⟩
      | some m =>
        obtain ⟨hm1, hm2, hm3⟩ := nxtF_some hc hn
        rw [hpc] at hm1
        have hmc := (pos_ord hm2).1
        have hroom := hV.room z3 hpl hj hm1 hm2
        have hS : loadS P S (ord P p) (qv S (ord P p) j) = joinS (shiftS S (qv S (ord P p) j)) (ord P m) (qv S (ord P p) j) := by unfold loadS; rw [← hs0, hn]
        have sv := (hL.2.2 _ hv).2.2.2
        rw [hS, Option.elim_some]
        generalize qv S (ord P p) j = v at *
        generalize ord P m = c at *
        refine ⟨fu (fu (fu σ 176 (24 * c + ql S c) (nI v)) 177 c (nI (ql S c + 1))) 181 v (nI (sh S v + 1)), ?_, fun q hq => by rw [fu_cell (by omega), fu_cell (by omega), fu_cell (by omega)], ?_, fun k hk i hi => ?_⟩
        · show fcallv (fcallv (f_X8_waitsAt (nI c) (nI v) σ) _) _ = _
          rw [m_waitsAt (m := ql S c) (by omega) hroom (hL.1 _ hmc).1, fcallv_ok, fb_x rfl (by omega) (by decide), fb_x rfl (by omega) (by decide), fL_ok, fcallv_ok, nI_clamp (by omega), fu_cell (by decide), fu_cell (by decide), sv, nI_1]
        · have hL2 : LV (fu σ 181 v (nI (sh S v + 1))) 177 176 184 182 178 179 180 181 (shiftS S v) (P.1 2).length (P.1 3).length := hL.shift (fu_cell (by decide)) (fu_cell (by decide)) (fu_cell (by decide)) (fu_cell (by decide)) (fu_cell (by decide)) (fu_cell (by decide)) (fu_cell (by decide)) (fu_row _ _ _ _)
          refine LV.join (c := c) (v := v) hL2 hV.1 hmc hroom ?_ ?_ ?_ ?_ ?_ ?_ ?_ ?_
          · rw [fu_cell (by decide), fu_row, fu_cell (by decide), fu_cell (by decide)]; rfl
          · rw [fu_cell (by decide), fu_cell (by decide), fu_row, fu_cell (by decide)]; rfl
          · rw [fu_cell (by decide), fu_cell (by decide), fu_cell (by decide), fu_cell (by decide)]
          · rw [fu_cell (by decide), fu_cell (by decide), fu_cell (by decide), fu_cell (by decide)]
          · rw [fu_cell (by decide), fu_cell (by decide), fu_cell (by decide), fu_cell (by decide)]
          · rw [fu_cell (by decide), fu_cell (by decide), fu_cell (by decide), fu_cell (by decide)]
          · rw [fu_cell (by decide), fu_cell (by decide), fu_cell (by decide), fu_cell (by decide)]
          · rw [fu_row, fu_row, fu_cell (by decide), fu_cell (by decide)]
        · rw [fu_cell (by decide), fu_cell (by decide), fu_cell (by decide)]
          exact hR k hk i hi
  unfold f_X8_loads
  rw [fb_x rfl (by omega) (by decide), nI_clamp (by omega), (hD.1 _ hc).2.1]
  by_cases h0 : (dA P).1 (ord P p) = 0
  · rw [h0, if_pos nI_0, m_laneFor hg hok hV hL hR hc hv, fcall_ok]
    exact b19 _ (by unfold whereF; rw [if_pos h0])
  · rw [if_neg (nI_ne0 (show 0 < (dA P).1 (ord P p) by omega) (show (dPl P (P.1 2).length).1 (ord P p) < 2 ^ 31 by omega))]
    exact b19 none (by unfold whereF; rw [if_neg h0])
theorem m_place {σ : fS} {P : aP} {S : aL} {p : Nat} (hg : GV (σ 165) P) (hok : aOK P) (hD : DC σ 172 171 173 174 175 P) (hpl : p < (P.1 2).length) (hV : VI P p 0 S) (hL : LV σ 177 176 184 182 178 179 180 181 S (P.1 2).length (P.1 3).length) (hR : LRt σ P S) (K : Int32 → fS → Option fS) : ∃ σ', f_X8_tell_b191 K fN (nI p) (nI (ord P p)) 0 σ = K (nI (p + 1)) σ' ∧ (∀ q, q < 176 ∨ 185 ≤ q → σ' q = σ q) ∧ LV σ' 177 176 184 182 178 179 180 181 (loadN P (ord P p) S (ql S (ord P p))) (P.1 2).length (P.1 3).length ∧ LRt σ' P (loadN P (ord P p) S (ql S (ord P p))) := by
  have z2 : (P.1 2).length ≤ 12 := hok.1 2 (by decide)
  have z3 : (P.1 3).length ≤ 24 := hok.1 3 (by decide)
  obtain ⟨hc, hpc⟩ := pos_ord hpl
  have hq24 := hV.1 _ hc
  obtain ⟨s, ⟨h1, h2, h3⟩, e⟩ := do_all (f := fun n v s => f_X8_tell_b191 K n (nI p) (nI (ord P p)) v s) (N := ql S (ord P p)) (I := fun j s => (∀ q, q < 176 ∨ 185 ≤ q → s q = σ q) ∧ LV s 177 176 184 182 178 179 180 181 (loadN P (ord P p) S j) (P.1 2).length (P.1 3).length ∧ LRt s P (loadN P (ord P p) S j)) (fin := fun s => K (nI (p + 1)) s) (by omega) (fun n s hI => by
    have := (hI.2.1.1 _ hc).1
    rw [(loadN_q hc _).1] at this
    show f_X8_tell_b191 K (n + 1) (nI p) (nI (ord P p)) (nI (ql S (ord P p))) s = _
    rw [f_X8_tell_b191, fb_x rfl (by omega) (by decide), nI_clamp (by omega), this, if_pos (nI_le (Nat.le_refl _) (by omega)), nI_1]) (fun n j s hj hI => by
    obtain ⟨i1, i2, i3⟩ := hI
    have hg' : GV (s 165) P := by rw [i1 165 (by decide)]; exact hg
    have hD' : DC s 172 171 173 174 175 P := hD.of (i1 172 (by decide)) (i1 171 (by decide)) (i1 173 (by decide)) (i1 174 (by decide)) (i1 175 (by decide))
    have hj' : j < ql (loadN P (ord P p) S j) (ord P p) := by rw [(loadN_q hc j).1]; exact hj
    have hVj := hV.loadN hok hpl j (by omega)
    obtain ⟨s', e, f1, f2, f3⟩ := m_one hg' hok hD' hpl hVj hj' i2 i3
    refine ⟨s', ⟨fun q hq => by rw [f1 q hq]; exact i1 q hq, f2, f3⟩, ?_⟩
    have hv := (hVj.2.1 p (Nat.le_refl _) hpl).1 j hj'
    show f_X8_tell_b191 K (n + 1) (nI p) (nI (ord P p)) (nI j) s = f_X8_tell_b191 K n (nI p) (nI (ord P p)) (nI (j + 1)) s'
    rw [f_X8_tell_b191, fb_x rfl (by omega) (by decide), nI_clamp (by omega), (i2.1 _ hc).1, if_neg (nI_ge hj' (by rw [(loadN_q hc j).1]; omega)), iy24, fb_x rfl (by omega) (by decide), nI_clamp (by omega), (i2.1 _ hc).2 j hj', e, fcallv_ok, nI_1]) (σ := σ) ⟨fun _ _ => rfl, hL, hR⟩
  exact ⟨s, e, h1, h2, h3⟩
theorem m_emptyLanes {σ : fS} {P : aP} (hg : GV (σ 165) P) (hok : aOK P) {c : Nat} (hc : c < (P.1 2).length) (K : Int32 → fS → Option fS) : ∃ σ', f_X8_tell_b55 K fN (nI c) 0 σ = K (nI (c + 1)) σ' ∧ (∀ q, q ≠ 184 → q ≠ 182 → σ' q = σ q) ∧ (∀ k, 4 * c ≤ k → k < 4 * c + 4 → σ' 184 k = nI (laL P c) ∧ σ' 182 k = 0) ∧ ∀ k, k < 4 * c → σ' 184 k = σ 184 k ∧ σ' 182 k = σ 182 k := by
  have z2 : (P.1 2).length ≤ 12 := hok.1 2 (by decide)
  have sc := hok.2.2.2.1 c hc
  obtain ⟨s, ⟨h1, h2, h3⟩, e⟩ := do_all (f := fun n v s => f_X8_tell_b55 K n (nI c) v s) (N := 4) (I := fun l s => (∀ q, q ≠ 184 → q ≠ 182 → s q = σ q) ∧ (∀ k, 4 * c ≤ k → k < 4 * c + l → s 184 k = nI (laL P c) ∧ s 182 k = 0) ∧ ∀ k, k < 4 * c → s 184 k = σ 184 k ∧ s 182 k = σ 182 k) (fin := fun s => K (nI (c + 1)) s) (by decide) (fun n s hI => by
    show f_X8_tell_b55 K (n + 1) (nI c) (nI 4) s = _
    rw [f_X8_tell_b55, if_pos (show (4 : Int32) ≤ nI 4 from by decide), nI_1]) (fun n l s hl hI => by
    obtain ⟨i1, i2, i3⟩ := hI
    have hg' : GV (fu s 182 (4 * c + l) 0 165) P := by rw [fu_cell (by decide), i1 165 (by decide) (by decide)]; exact hg
    refine ⟨fu (fu s 182 (4 * c + l) 0) 184 (4 * c + l) (nI (laL P c)), ⟨fun q a x => by rw [fu_cell a, fu_cell x]; exact i1 q a x, fun k a x => ?_, fun k a => ?_⟩, ?_⟩
    · rw [fu_cell (a := 182) (c := 184) (by decide)]
      by_cases hk : k = 4 * c + l
      · subst hk
        rw [fu_self, fu_self]
        exact ⟨rfl, rfl⟩
      · rw [fu_slot hk, fu_slot hk, fu_slot hk]
        exact i2 k a (by omega)
    · rw [fu_slot (by omega), fu_slot (by omega), fu_slot (by omega), fu_slot (by omega)]
      exact i3 k a
    · show f_X8_tell_b55 K (n + 1) (nI c) (nI l) s = f_X8_tell_b55 K n (nI c) (nI (l + 1)) _
      rw [f_X8_tell_b55, if_neg (show ¬ (4 : Int32) ≤ nI l from nI_ge (b := 4) hl (by decide)), iy4, fb_x rfl (by omega) (by decide), fL_ok, nI_clamp (by omega), mC0 hg' hok.1 hc, fcall_ok, mS2 hg' hok.1 sc.1, fcall_ok, fb_x rfl (by omega) (by decide), fL_ok, nI_1]
      rfl) (σ := σ) ⟨fun _ _ _ => rfl, fun k a x => by omega, fun _ _ => ⟨rfl, rfl⟩⟩
  exact ⟨s, e, h1, h2, h3⟩
theorem m_load {σ : fS} {P : aP} (hg : GV (σ 165) P) (hok : aOK P) (hD : DC σ 172 171 173 174 175 P) : ∃ σ', f_X8_tell_b35 fN 0 σ = some σ' ∧ (∀ q, q < 176 ∨ 185 ≤ q → σ' q = σ q) ∧ LV σ' 177 176 184 182 178 179 180 181 (lA P) (P.1 2).length (P.1 3).length ∧ LRt σ' P (lA P) := by
  have z2 : (P.1 2).length ≤ 12 := hok.1 2 (by decide)
  have z3 : (P.1 3).length ≤ 24 := hok.1 3 (by decide)
  obtain ⟨s1, ⟨a1, a2⟩, e1⟩ := do_all (f := fun n v s => f_X8_tell_b35 n v s) (N := (P.1 2).length) (I := fun c s => (∀ q, q < 176 ∨ 185 ≤ q → s q = σ q) ∧ LV s 177 176 184 182 178 179 180 181 (lIni P) c 0) (fin := fun s => f_X8_tell_b106 fN 0 s) (by omega) (fun n s hI => by
    have hg' : GV (s 165) P := by rw [hI.1 165 (by decide)]; exact hg
    show f_X8_tell_b35 (n + 1) (nI (P.1 2).length) s = _
    rw [f_X8_tell_b35, fb122, mCn hg', if_pos (nI_le (Nat.le_refl _) (by omega))]) (fun n c s hc hI => by
    obtain ⟨i1, i2⟩ := hI
    have hg' : GV (s 165) P := by rw [i1 165 (by decide)]; exact hg
    have hg1 : GV (fu s 177 c 0 165) P := by rw [fu_cell (by decide)]; exact hg'
    obtain ⟨s', e, f1, f2, f3⟩ := m_emptyLanes hg1 hok hc (fun v1 σ => f_X8_tell_b35 n v1 σ)
    refine ⟨s', ⟨fun q hq => by rw [f1 q (by omega) (by omega), fu_cell (by omega)]; exact i1 q hq, fun c' hc' => ⟨?_, fun i hi => absurd hi (Nat.not_lt_zero _)⟩, fun k hk => ?_, fun v hv => absurd hv (Nat.not_lt_zero _)⟩, ?_⟩
    · rw [f1 177 (by decide) (by decide)]
      by_cases h : c' = c
      · subst h
        rw [fu_self]; rfl
      · rw [fu_slot h]; exact (i2.1 c' (by omega)).1
    · by_cases h : k < 4 * c
      · rw [(f3 k h).1, (f3 k h).2, fu_cell (by decide), fu_cell (by decide)]
        exact i2.2.1 k h
      · obtain ⟨x, y⟩ := f2 k (by omega) (by omega)
        rw [x, y]
        refine ⟨?_, rfl⟩
        show nI (laL P c) = nI (laL P (k / 4))
        rw [show k / 4 = c by omega]
    · show f_X8_tell_b35 (n + 1) (nI c) s = f_X8_tell_b35 n (nI (c + 1)) s'
      rw [f_X8_tell_b35, fb122, mCn hg', if_neg (nI_ge hc (by omega)), fb_x rfl (by omega) (by decide), fL_ok, nI_clamp (by omega), e]) (σ := σ) ⟨fun _ _ => rfl, fun c hc => absurd hc (Nat.not_lt_zero _), fun k hk => by omega, fun v hv => absurd hv (Nat.not_lt_zero _)⟩
  obtain ⟨s2, ⟨b1, b2⟩, e2⟩ := do_all (f := fun n v s => f_X8_tell_b106 n v s) (N := (P.1 3).length) (I := fun v s => (∀ q, q < 176 ∨ 185 ≤ q → s q = σ q) ∧ LV s 177 176 184 182 178 179 180 181 (lVe P v) (P.1 2).length v) (fin := fun s => f_X8_tell_b171 fN 0 s) (by omega) (fun n s hI => by
    have hg' : GV (s 165) P := by rw [hI.1 165 (by decide)]; exact hg
    show f_X8_tell_b106 (n + 1) (nI (P.1 3).length) s = _
    rw [f_X8_tell_b106, fb171, mVn hg', if_pos (nI_le (Nat.le_refl _) (by omega))]) (fun n v s hv hI => by
    obtain ⟨i1, i2⟩ := hI
    have hg' : GV (s 165) P := by rw [i1 165 (by decide)]; exact hg
    obtain ⟨q1, q2, q3, q4⟩ := lVe_inv hok v (by omega)
    have hw := (hok.2.2.2.2.1 v hv).1
    have eab : ab (lVe P v) v = none := by unfold ab; rw [q4]; rfl
    have esh : sh (lVe P v) v = 0 := by unfold sh; rw [q4]; rfl
    have hq := q1 (tg (P.1 3) v 0)
    have hg5 : GV (fu (fu (fu (fu s 178 v (-10004)) 179 v (-10004)) 180 v (-10004)) 181 v 0 165) P := by rw [fu_cell (by decide), fu_cell (by decide), fu_cell (by decide), fu_cell (by decide)]; exact hg'
    have hL5 : LV (fu (fu (fu (fu s 178 v (-10004)) 179 v (-10004)) 180 v (-10004)) 181 v 0) 177 176 184 182 178 179 180 181 (lVe P v) (P.1 2).length (v + 1) := by
      refine i2.ext ?_ ?_ ?_ ?_ ?_ ?_ ?_ ?_
      · rw [fu_cell (by decide), fu_cell (by decide), fu_cell (by decide), fu_cell (by decide)]
      · rw [fu_cell (by decide), fu_cell (by decide), fu_cell (by decide), fu_cell (by decide)]
      · rw [fu_cell (by decide), fu_cell (by decide), fu_cell (by decide), fu_cell (by decide)]
      · rw [fu_cell (by decide), fu_cell (by decide), fu_cell (by decide), fu_cell (by decide)]
      · rw [fu_cell (by decide), fu_cell (by decide), fu_cell (by decide), fu_row, eab]; rfl
      · rw [fu_cell (by decide), fu_cell (by decide), fu_row, fu_cell (by decide), eab]; rfl
      · rw [fu_cell (by decide), fu_row, fu_cell (by decide), fu_cell (by decide), eab]; rfl
      · rw [fu_row, fu_cell (by decide), fu_cell (by decide), fu_cell (by decide), esh]; rfl
    refine ⟨fu (fu (fu (fu (fu (fu s 178 v (-10004)) 179 v (-10004)) 180 v (-10004)) 181 v 0) 176 (24 * tg (P.1 3) v 0 + ql (lVe P v) (tg (P.1 3) v 0)) (nI v)) 177 (tg (P.1 3) v 0) (nI (ql (lVe P v) (tg (P.1 3) v 0) + 1)), ⟨fun q hq => ?_, ?_⟩, ?_⟩
    · rw [fu_cell (by omega), fu_cell (by omega), fu_cell (by omega), fu_cell (by omega), fu_cell (by omega), fu_cell (by omega)]; exact i1 q hq
    · refine hL5.join (fun c _ => by have := q1 c; omega) hw (by omega) ?_ ?_ ?_ ?_ ?_ ?_ ?_ ?_
      · rw [fu_row, fu_cell (a := 177) (c := 176) (by decide)]
      · rw [fu_cell (a := 176) (c := 177) (by decide), fu_row]
      · rw [fu_cell (c := 177) (by decide), fu_cell (c := 176) (by decide)]
      · rw [fu_cell (c := 177) (by decide), fu_cell (c := 176) (by decide)]
      · rw [fu_cell (c := 177) (by decide), fu_cell (c := 176) (by decide)]
      · rw [fu_cell (c := 177) (by decide), fu_cell (c := 176) (by decide)]
      · rw [fu_cell (c := 177) (by decide), fu_cell (c := 176) (by decide)]
      · rw [fu_cell (c := 177) (by decide), fu_cell (c := 176) (by decide)]
    · show f_X8_tell_b106 (n + 1) (nI v) s = f_X8_tell_b106 n (nI (v + 1)) _
      rw [f_X8_tell_b106, fb171, mVn hg', if_neg (nI_ge hv (by omega)), fb_x rfl (by omega) (by decide), fL_ok, fb_x rfl (by omega) (by decide), fL_ok, fb_x rfl (by omega) (by decide), fL_ok, fb_x rfl (by omega) (by decide), fL_ok, nI_clamp (by omega), mV0 hg5 hok.1 hv, fcall_ok, m_waitsAt (by omega) (by omega) ((hL5.1 _ hw).1), fcallv_ok, nI_1]) (σ := s1) ⟨a1, a2⟩
  obtain ⟨s3, ⟨c1, c2, c3⟩, e3⟩ := do_all (f := fun n v s => f_X8_tell_b171 n v s) (N := (P.1 2).length) (I := fun p s => (∀ q, q < 176 ∨ 185 ≤ q → s q = σ q) ∧ LV s 177 176 184 182 178 179 180 181 (lPl P p) (P.1 2).length (P.1 3).length ∧ LRt s P (lPl P p)) (fin := fun s => some s) (by omega) (fun n s hI => by
    have hg' : GV (s 165) P := by rw [hI.1 165 (by decide)]; exact hg
    show f_X8_tell_b171 (n + 1) (nI (P.1 2).length) s = _
    rw [f_X8_tell_b171, fb122, mCn hg', if_pos (nI_le (Nat.le_refl _) (by omega))]) (fun n p s hpl hI => by
    obtain ⟨i1, i2, i3⟩ := hI
    have hg' : GV (s 165) P := by rw [i1 165 (by decide)]; exact hg
    have hD' : DC s 172 171 173 174 175 P := hD.of (i1 172 (by decide)) (i1 171 (by decide)) (i1 173 (by decide)) (i1 174 (by decide)) (i1 175 (by decide))
    obtain ⟨s', e, f1, f2, f3⟩ := m_place hg' hok hD' hpl (VI_pl hok p (by omega)) i2 i3 (fun v1 σ => f_X8_tell_b171 n v1 σ)
    refine ⟨s', ⟨fun q hq => by rw [f1 q hq]; exact i1 q hq, f2, f3⟩, ?_⟩
    show f_X8_tell_b171 (n + 1) (nI p) s = f_X8_tell_b171 n (nI (p + 1)) s'
    rw [f_X8_tell_b171, fb122, mCn hg', if_neg (nI_ge hpl (by omega)), fb_x rfl (by omega) (by decide), nI_clamp (by omega), hD'.2 p hpl, e]) (σ := s2) ⟨b1, b2, fun k _ i hi => by
      have q4 := (lVe_inv hok _ (Nat.le_refl (P.1 3).length)).2.2.2
      have : ll (lPl P 0) k = 0 := by show ll (lVe P (P.1 3).length) k = 0; unfold ll; rw [q4]; rfl
      omega⟩
  exact ⟨s3, e1.trans (e2.trans e3), c1, c2, c3⟩
/-- all that the reference's tell leaves -/
theorem m_tell {σ : fS} {P : aP} (hg : GV (σ 165) P) (hok : aOK P) : ∃ σ', f_X8_tell σ = some σ' ∧ (∀ q, q < 171 ∨ 185 ≤ q → σ' q = σ q) ∧ DC σ' 172 171 173 174 175 P ∧ LV σ' 177 176 184 182 178 179 180 181 (lA P) (P.1 2).length (P.1 3).length ∧ LRt σ' P (lA P) := by
  obtain ⟨s1, e1, f1, d1⟩ := m_decided hg hok
  obtain ⟨s2, e2, f2, l1, l2⟩ := m_load (σ := s1) (by rw [f1 165 (by decide)]; exact hg) hok d1
  exact ⟨s2, e1.trans e2, fun q hq => by rw [f2 q (by omega), f1 q (by omega)], d1.of (f2 172 (by decide)) (f2 171 (by decide)) (f2 173 (by decide)) (f2 174 (by decide)) (f2 175 (by decide)), l1, l2⟩

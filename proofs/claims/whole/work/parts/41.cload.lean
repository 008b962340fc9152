/-! ===== loading stands in rows ===== -/
def abA : Option (Nat × Nat × Nat) → Int32
  | none => -10004
  | some (c, _, _) => nI c
def abL : Option (Nat × Nat × Nat) → Int32
  | none => -10004
  | some (_, l, _) => nI l
def abS : Option (Nat × Nat × Nat) → Int32
  | none => -10004
  | some (_, _, k) => nI k
def LV (σ : fS) (w q f n a l s h : Nat) (S : aL) (nc nv : Nat) : Prop :=
  (∀ c, c < nc → σ w c = nI (ql S c) ∧ ∀ i, i < ql S c → σ q (24 * c + i) = nI (qv S c i)) ∧
  (∀ k, k < 4 * nc → σ f k = nI (lf S k) ∧ σ n k = nI (ll S k)) ∧
  (∀ v, v < nv → σ a v = abA (ab S v) ∧ σ l v = abL (ab S v) ∧ σ s v = abS (ab S v) ∧ σ h v = nI (sh S v))
theorem upd_self (g : Nat → Int32) (k : Nat) (v : Int32) : upd g k v k = v := if_pos rfl
theorem upd_ne {g : Nat → Int32} {k i : Nat} {v : Int32} (h : i ≠ k) : upd g k v i = g i := if_neg h
theorem LV.of {σ σ' : fS} {w q f n a l s h : Nat} {S : aL} {nc nv : Nat} (hL : LV σ w q f n a l s h S nc nv) (e1 : σ' w = σ w) (e2 : σ' q = σ q) (e3 : σ' f = σ f) (e4 : σ' n = σ n) (e5 : σ' a = σ a) (e6 : σ' l = σ l) (e7 : σ' s = σ s) (e8 : σ' h = σ h) : LV σ' w q f n a l s h S nc nv := by
  unfold LV
  rw [e1, e2, e3, e4, e5, e6, e7, e8]
  exact hL
theorem LV.join {σ σ' : fS} {w q f n a l s h : Nat} {S : aL} {nc nv c v : Nat} (hL : LV σ w q f n a l s h S nc nv) (h24 : ∀ c, c < nc → ql S c ≤ 24) (hc : c < nc) (hr : ql S c < 24) (e1 : σ' w = upd (σ w) c (nI (ql S c + 1))) (e2 : σ' q = upd (σ q) (24 * c + ql S c) (nI v)) (e3 : σ' f = σ f) (e4 : σ' n = σ n) (e5 : σ' a = σ a) (e6 : σ' l = σ l) (e7 : σ' s = σ s) (e8 : σ' h = σ h) : LV σ' w q f n a l s h (joinS S c v) nc nv := by
  obtain ⟨l1, l2, l3⟩ := hL
  refine ⟨fun c' hc' => ?_, fun k hk => by rw [e3, e4]; exact l2 k hk, fun u hu => by rw [e5, e6, e7, e8]; exact l3 u hu⟩
  rw [e1, e2]
  show upd (σ w) c _ c' = nI (up1 (ql S) c (ql S c + 1) c') ∧ ∀ i, i < up1 (ql S) c (ql S c + 1) c' → upd (σ q) _ _ (24 * c' + i) = nI (up2 (qv S) c (ql S c) v c' i)
  have hq := h24 c' hc'
  by_cases hcc : c' = c
  · subst hcc
    rw [upd_self, up1_self]
    refine ⟨rfl, fun i hi => ?_⟩
    by_cases hi2 : i = ql S c'
    · subst hi2
      rw [upd_self, up2_self]
    · rw [upd_ne (by omega), up2_ne (fun x => hi2 x.2)]
      exact (l1 c' hc').2 i (by omega)
  · rw [upd_ne hcc, up1_ne hcc]
    refine ⟨(l1 c' hc').1, fun i hi => ?_⟩
    rw [upd_ne (by omega), up2_ne (fun x => hcc x.1)]
    exact (l1 c' hc').2 i hi
theorem LV.shift {σ σ' : fS} {w q f n a l s h : Nat} {S : aL} {nc nv v : Nat} (hL : LV σ w q f n a l s h S nc nv) (e1 : σ' w = σ w) (e2 : σ' q = σ q) (e3 : σ' f = σ f) (e4 : σ' n = σ n) (e5 : σ' a = σ a) (e6 : σ' l = σ l) (e7 : σ' s = σ s) (e8 : σ' h = upd (σ h) v (nI (sh S v + 1))) : LV σ' w q f n a l s h (shiftS S v) nc nv := by
  obtain ⟨l1, l2, l3⟩ := hL
  refine ⟨fun c' hc' => by rw [e1, e2]; exact l1 c' hc', fun k hk => by rw [e3, e4]; exact l2 k hk, fun u hu => ?_⟩
  rw [e5, e6, e7, e8]
  obtain ⟨a1, a2, a3, a4⟩ := l3 u hu
  refine ⟨a1, a2, a3, ?_⟩
  show upd (σ h) v _ u = nI (up1 (sh S) v (sh S v + 1) u)
  by_cases huv : u = v
  · subst huv
    rw [upd_self, up1_self]
  · rw [upd_ne huv, up1_ne huv]; exact a4
theorem LV.board {σ σ' : fS} {w q f n a l s h : Nat} {P : aP} {S : aL} {nc nv c m v : Nat} (hL : LV σ w q f n a l s h S nc nv) (e1 : σ' w = σ w) (e2 : σ' q = σ q) (e3 : σ' f = upd (σ f) (4 * c + m) (nI (lf S (4 * c + m) - tg (P.1 3) v 1))) (e4 : σ' n = upd (σ n) (4 * c + m) (nI (ll S (4 * c + m) + 1))) (e5 : σ' a = upd (σ a) v (nI c)) (e6 : σ' l = upd (σ l) v (nI m)) (e7 : σ' s = upd (σ s) v (nI (ll S (4 * c + m)))) (e8 : σ' h = σ h) : LV σ' w q f n a l s h (boardS P S c m v) nc nv := by
  obtain ⟨l1, l2, l3⟩ := hL
  refine ⟨fun c' hc' => by rw [e1, e2]; exact l1 c' hc', fun k hk => ?_, fun u hu => ?_⟩
  · rw [e3, e4]
    show upd (σ f) _ _ k = nI (up1 (lf S) (4 * c + m) _ k) ∧ upd (σ n) _ _ k = nI (up1 (ll S) (4 * c + m) _ k)
    by_cases hk2 : k = 4 * c + m
    · subst hk2
      rw [upd_self, upd_self, up1_self, up1_self]
      exact ⟨rfl, rfl⟩
    · rw [upd_ne hk2, upd_ne hk2, up1_ne hk2, up1_ne hk2]
      exact l2 k hk
  · rw [e5, e6, e7, e8]
    show upd (σ a) v _ u = abA (up1 (ab S) v _ u) ∧ upd (σ l) v _ u = abL (up1 (ab S) v _ u) ∧ upd (σ s) v _ u = abS (up1 (ab S) v _ u) ∧ σ h u = nI (sh S u)
    by_cases huv : u = v
    · subst huv
      rw [upd_self, upd_self, upd_self, up1_self]
      exact ⟨rfl, rfl, rfl, (l3 u hu).2.2.2⟩
    · rw [upd_ne huv, upd_ne huv, upd_ne huv, up1_ne huv]
      exact l3 u hu
theorem LV.ext {σ σ' : fS} {w q f n a l s h : Nat} {S : aL} {nc v : Nat} (hL : LV σ w q f n a l s h S nc v) (e1 : σ' w = σ w) (e2 : σ' q = σ q) (e3 : σ' f = σ f) (e4 : σ' n = σ n) (e5 : σ' a = upd (σ a) v (abA (ab S v))) (e6 : σ' l = upd (σ l) v (abL (ab S v))) (e7 : σ' s = upd (σ s) v (abS (ab S v))) (e8 : σ' h = upd (σ h) v (nI (sh S v))) : LV σ' w q f n a l s h S nc (v + 1) := by
  obtain ⟨l1, l2, l3⟩ := hL
  refine ⟨fun c' hc' => by rw [e1, e2]; exact l1 c' hc', fun k hk => by rw [e3, e4]; exact l2 k hk, fun u hu => ?_⟩
  rw [e5, e6, e7, e8]
  by_cases huv : u = v
  · subst huv
    rw [upd_self, upd_self, upd_self, upd_self]
    exact ⟨rfl, rfl, rfl, rfl⟩
  · rw [upd_ne huv, upd_ne huv, upd_ne huv, upd_ne huv]
    exact l3 u (by omega)
/-- the class: the port of the last one in a lane -/
def LPt (σ : fS) (P : aP) (S : aL) : Prop := ∀ k, k < 4 * (P.1 2).length → 0 < ll S k → σ 151 k = nI (tg (P.1 3) (lv S k (ll S k - 1)) 2)
theorem LPt.board {σ σ' : fS} {P : aP} {S : aL} {c m v : Nat} (hL : LPt σ P S) (e : σ' 151 = upd (σ 151) (4 * c + m) (nI (tg (P.1 3) v 2))) : LPt σ' P (boardS P S c m v) := by
  intro k hk
  rw [e]
  show 0 < up1 (ll S) (4 * c + m) (ll S (4 * c + m) + 1) k → upd (σ 151) _ _ k = nI (tg (P.1 3) (up2 (lv S) (4 * c + m) (ll S (4 * c + m)) v k (up1 (ll S) (4 * c + m) (ll S (4 * c + m) + 1) k - 1)) 2)
  intro h0
  by_cases hk2 : k = 4 * c + m
  · subst hk2
    rw [upd_self, up1_self, Nat.add_sub_cancel, up2_self]
  · rw [up1_ne hk2] at h0 ⊢
    rw [upd_ne hk2, up2_ne (fun x => hk2 x.1)]
    exact hL k hk h0
theorem ix4 {c l : Nat} : nI c * (4 : Int32) + nI l = nI (4 * c + l) := by rw [show (4 : Int32) = nI 4 from rfl, nI_mul, nI_add, Nat.mul_comm]
theorem ix24 {c l : Nat} : nI c * (24 : Int32) + nI l = nI (24 * c + l) := by rw [show (24 : Int32) = nI 24 from rfl, nI_mul, nI_add, Nat.mul_comm]
theorem iy4 {c l : Nat} : (4 : Int32) * nI c + nI l = nI (4 * c + l) := by rw [show (4 : Int32) = nI 4 from rfl, nI_mul, nI_add]
theorem iy24 {c l : Nat} : (24 : Int32) * nI c + nI l = nI (24 * c + l) := by rw [show (24 : Int32) = nI 24 from rfl, nI_mul, nI_add]
theorem c_laN {b : Nat} {σ : fS} {P : aP} (hp : PV b σ P) (hok : aOK P) {c : Nat} (hc : c < (P.1 2).length) : f_X3_lanesOf b (nI c) σ = some (nI (laN P c), σ) := c_lanesOf hp hok hc
theorem c_laL {b : Nat} {σ : fS} {P : aP} (hp : PV b σ P) (hok : aOK P) {c : Nat} (hc : c < (P.1 2).length) : f_X3_laneLengthOf b (nI c) σ = some (nI (laL P c), σ) := c_laneLengthOf hp hok hc
theorem c_rmP {b : Nat} {σ : fS} {P : aP} (hp : PV b σ P) (hok : aOK P) {c : Nat} (hc : c < (P.1 2).length) : f_X3_rampsOf b (nI c) σ = some (nI (rmP P c), σ) := c_rampsOf hp hok hc
theorem c_lineUp {σ : fS} {c v m : Nat} (hc : c < 12) (hm : m < 24) (h : σ 146 c = nI m) : f_X2_lineUp (nI c) (nI v) σ = some (fu (fu σ 149 (24 * c + m) (nI v)) 146 c (nI (m + 1))) := by
  unfold f_X2_lineUp
  rw [fb_x rfl hc (by decide), nI_clamp (by omega), h, if_neg (show ¬ (24 : Int32) ≤ nI m from nI_ge (b := 24) hm (by decide)), ix24, fb_x rfl (by omega) (by decide), fL_ok, fb_x rfl hc (by decide), fL_ok, nI_clamp (by omega), nI_1]
theorem c_mayStand {b : Nat} {σ : fS} {P : aP} {S : aL} (hp : PV b σ P) (hok : aOK P) {c l v : Nat} (hc : c < (P.1 2).length) (hl : l < 4) (hv : v < (P.1 3).length) (h1 : σ 150 (4 * c + l) = nI (ll S (4 * c + l))) (h24 : ll S (4 * c + l) ≤ 24) (h2 : 0 < ll S (4 * c + l) → σ 151 (4 * c + l) = nI (tg (P.1 3) (lv S (4 * c + l) (ll S (4 * c + l) - 1)) 2) ∧ lv S (4 * c + l) (ll S (4 * c + l) - 1) < (P.1 3).length) : f_X2_mayStand b (nI c) (nI l) (nI v) σ = some (bI (mayB P S c l v), σ) := by
  have z2 : (P.1 2).length ≤ 12 := hok.1 2 (by decide)
  have pv := (hok.2.2.2.2.1 v hv).2.2.2
  have rr := rmP_b hok hc
  unfold f_X2_mayStand mayB
  rw [cV2 hp hok.1 hv, fcall_ok, ix4, fb_x rfl (by omega) (by decide), nI_clamp (by omega), h1]
  by_cases h0 : ll S (4 * c + l) = 0
  · rw [h0, if_pos nI_0]
    rw [decide_eq_true (Or.inl rfl)]
    rfl
  · obtain ⟨h3, h4⟩ := h2 (by omega)
    have pl := (hok.2.2.2.2.1 _ h4).2.2.2
    rw [if_neg (nI_ne0 (by omega) (by omega)), c_rmP hp hok hc, fcall_ok]
    by_cases hr : rmP P c = 1
    · rw [if_pos (by rw [hr]; rfl), fb_x rfl (by omega) (by decide), h3]
      by_cases hq : tg (P.1 3) v 2 ≤ tg (P.1 3) (lv S (4 * c + l) (ll S (4 * c + l) - 1)) 2
      · rw [if_neg (nI_nlt hq (by omega)), decide_eq_true (Or.inr (by rw [if_pos hr]; exact hq))]; rfl
      · rw [if_pos (nI_lt (by omega) (by omega)), decide_eq_false (fun x => by rcases x with x | x; exact h0 x; rw [if_pos hr] at x; exact hq x)]; rfl
    · rw [if_neg (show ¬ nI (rmP P c) = (1 : Int32) from fun e => hr (nI_inj (b := 1) (by omega) (by decide) e)), fb_x rfl (by omega) (by decide), h3]
      by_cases hq : tg (P.1 3) (lv S (4 * c + l) (ll S (4 * c + l) - 1)) 2 ≤ tg (P.1 3) v 2
      · rw [if_neg (nI_nlt hq (by omega)), decide_eq_true (Or.inr (by rw [if_neg hr]; exact hq))]; rfl
      · rw [if_pos (nI_lt (by omega) (by omega)), decide_eq_false (fun x => by rcases x with x | x; exact h0 x; rw [if_neg hr] at x; exact hq x)]; rfl
def bO (e : Int32) : Option Nat → Int32
  | none => e
  | some m => nI m
theorem VI.ll24 {P : aP} {n j : Nat} {S : aL} (hz : (P.1 3).length ≤ 24) (h : VI P n j S) {c l : Nat} (hc : c < (P.1 2).length) (hl : l < 4) : ll S (4 * c + l) ≤ 24 := by
  rw [h.2.2.2.2.2.2.1 c l hc hl]
  have := sumN_le (g := fun v => if atB (ab S v) c l = true then 1 else 0) (h := fun _ => 1) (P.1 3).length 0 (fun k _ _ => by split <;> omega)
  rw [sumN_one] at this
  omega
theorem VI.lf200 {P : aP} {n j : Nat} {S : aL} (hok : aOK P) (h : VI P n j S) {c l : Nat} (hc : c < (P.1 2).length) (hl : l < 4) : lf S (4 * c + l) ≤ 200 := by
  have h1 := h.2.2.2.2.2.2.2.1 c l hc hl
  have h2 := laL_b hok hc
  omega
theorem c_findLane {b : Nat} {σ : fS} {P : aP} {S : aL} {n j : Nat} (hp : PV b σ P) (hok : aOK P) (hV : VI P n j S) (hL : LV σ 146 149 147 150 152 153 154 155 S (P.1 2).length (P.1 3).length) (hP : LPt σ P S) {c v : Nat} (hc : c < (P.1 2).length) (hv : v < (P.1 3).length) : f_X2_findLane b (nI c) (nI v) σ = some (bO (-10004) (pickL P S c v), σ) := by
  have z2 : (P.1 2).length ≤ 12 := hok.1 2 (by decide)
  have z3 : (P.1 3).length ≤ 24 := hok.1 3 (by decide)
  have lb := laN_b hok hc
  have vb := hok.2.2.2.2.1 v hv
  have key : ∀ d l n bo x, l + d = laN P c → d < n → (∀ m, bo = some m → x = nI (lf S (4 * c + m)) ∧ m < 4) → f_X2_findLane_b22 b n (nI c) (nI v) (nI (tg (P.1 3) v 1)) (bO (-10004) bo) x (nI l) σ = some (bO (-10004) (pickF P S c v d l bo), σ) := by
    intro d
    induction d with
    | zero =>
      intro l n bo x hl hn hb
      obtain ⟨n, rfl⟩ : ∃ m, n = m + 1 := ⟨n - 1, by omega⟩
      rw [f_X2_findLane_b22, c_laN hp hok hc, fcall_ok, if_pos (show nI (laN P c) ≤ nI l from nI_le (by omega) (by omega))]
      rfl
    | succ d ih =>
      intro l n bo x hl hn hb
      obtain ⟨n, rfl⟩ : ∃ m, n = m + 1 := ⟨n - 1, by omega⟩
      have hl4 : l < 4 := by omega
      have lk := hL.2.1 (4 * c + l) (by omega)
      have l2 := hV.lf200 hok hc hl4
      have l24 := hV.ll24 z3 hc hl4
      have ms := c_mayStand (b := b) (σ := σ) (S := S) hp hok hc hl4 hv lk.2 l24 (fun h0 => ⟨hP _ (by omega) h0, (hV.2.2.2.2.1 c l hc hl4 _ (by omega)).1⟩)
      have no : canB P S c v l bo = false → f_X2_findLane_b22 b n (nI c) (nI v) (nI (tg (P.1 3) v 1)) (bO (-10004) bo) x (nI (l + 1)) σ = some (bO (-10004) (pickF P S c v (d + 1) l bo), σ) := fun h => by
        rw [ih (l + 1) n bo x (by omega) (by omega) hb]
        show _ = some (bO (-10004) (pickF P S c v d (l + 1) (if canB P S c v l bo = true then some l else bo)), σ)
        rw [if_neg (by rw [h]; decide)]
      have yes : canB P S c v l bo = true → f_X2_findLane_b22 b n (nI c) (nI v) (nI (tg (P.1 3) v 1)) (nI l) (nI (lf S (4 * c + l))) (nI (l + 1)) σ = some (bO (-10004) (pickF P S c v (d + 1) l bo), σ) := fun h => by
        have := ih (l + 1) n (some l) (nI (lf S (4 * c + l))) (by omega) (by omega) (fun m hm => by cases hm; exact ⟨rfl, hl4⟩)
        have this : f_X2_findLane_b22 b n (nI c) (nI v) (nI (tg (P.1 3) v 1)) (nI l) (nI (lf S (4 * c + l))) (nI (l + 1)) σ = _ := this
        rw [this]
        show _ = some (bO (-10004) (pickF P S c v d (l + 1) (if canB P S c v l bo = true then some l else bo)), σ)
        rw [if_pos h]
      have b67 : tg (P.1 3) v 1 ≤ lf S (4 * c + l) → betB S c l bo = true → f_X2_findLane_b67 b (fun v2 v3 v4 v5 v6 v7 σ => f_X2_findLane_b22 b n v2 v3 v4 v5 v6 v7 σ) (nI c) (nI v) (nI (tg (P.1 3) v 1)) (bO (-10004) bo) x (nI l) (nI (lf S (4 * c + l))) σ = some (bO (-10004) (pickF P S c v (d + 1) l bo), σ) := fun g1 g2 => by
        unfold f_X2_findLane_b67 f_X2_findLane_b87
        rw [ms, fcall_ok, nI_1]
        have hcan : canB P S c v l bo = mayB P S c l v := by
          unfold canB
          rw [decide_eq_true g1, g2]
          rfl
        cases hm : mayB P S c l v with
        | true => rw [if_neg bI_t]; exact yes (hcan.trans hm)
        | false => rw [if_pos bI_f]; exact no (hcan.trans hm)
      rw [f_X2_findLane_b22, c_laN hp hok hc, fcall_ok, if_neg (show ¬ nI (laN P c) ≤ nI l from nI_ge (by omega) (by omega)), ix4, fb_x rfl (by omega) (by decide), nI_clamp (by omega), lk.1]
      by_cases g1 : tg (P.1 3) v 1 ≤ lf S (4 * c + l)
      · rw [if_neg (nI_nlt g1 (by omega))]
        cases bo with
        | none =>
          rw [show bO (-10004) none = -10004 from rfl, if_pos rfl]
          exact b67 g1 rfl
        | some m =>
          obtain ⟨hx, hm4⟩ := hb m rfl
          have l2m := hV.lf200 hok hc hm4
          rw [show bO (-10004) (some m) = nI m from rfl, if_neg (nI_NONE (by omega))]
          subst hx
          by_cases g2 : lf S (4 * c + l) < lf S (4 * c + m)
          · rw [if_neg (nI_ge g2 (by omega))]
            exact b67 g1 (decide_eq_true g2)
          · rw [if_pos (nI_le (by omega) (by omega))]
            unfold f_X2_findLane_b87
            rw [nI_1]
            exact no (by unfold canB; rw [show betB S c l (some m) = false from decide_eq_false g2]; simp)
      · rw [if_pos (nI_lt (by omega) (by omega))]
        unfold f_X2_findLane_b87
        rw [nI_1]
        exact no (by unfold canB; rw [decide_eq_false g1]; rfl)
  unfold f_X2_findLane
  rw [cV1 hp hok.1 hv, fcall_ok]
  exact key (laN P c) 0 fN none 0 (Nat.zero_add _) (by unfold fN; omega) (fun m hm => by cases hm)
theorem c_board {b : Nat} {σ : fS} {P : aP} {S : aL} (hb : b + 15 ≤ 138) (hp : PV b σ P) (hok : aOK P) (hL : LV σ 146 149 147 150 152 153 154 155 S (P.1 2).length (P.1 3).length) (hP : LPt σ P S) {c l v : Nat} (hc : c < (P.1 2).length) (hl : l < 4) (hv : v < (P.1 3).length) (hfit : tg (P.1 3) v 1 ≤ lf S (4 * c + l)) : ∃ σ', f_X2_board b (nI c) (nI l) (nI v) σ = some σ' ∧ (∀ q, q < 146 ∨ 156 ≤ q → σ' q = σ q) ∧ LV σ' 146 149 147 150 152 153 154 155 (boardS P S c l v) (P.1 2).length (P.1 3).length ∧ LPt σ' P (boardS P S c l v) := by
  have z2 : (P.1 2).length ≤ 12 := hok.1 2 (by decide)
  have z3 : (P.1 3).length ≤ 24 := hok.1 3 (by decide)
  obtain ⟨k1, k2⟩ := hL.2.1 (4 * c + l) (by omega)
  have n1 : nI (ll S (4 * c + l)) + (1 : Int32) = nI (ll S (4 * c + l) + 1) := nI_1 _
  let s4 := fu (fu (fu (fu σ 152 v (nI c)) 153 v (nI l)) 154 v (nI (ll S (4 * c + l)))) 150 (4 * c + l) (nI (ll S (4 * c + l) + 1))
  have hp4 : PV b s4 P := hp.of (fun q a x => by show fu (fu (fu (fu σ 152 _ _) 153 _ _) 154 _ _) 150 _ _ q = _; rw [fu_cell (by omega), fu_cell (by omega), fu_cell (by omega), fu_cell (by omega)])
  have hp6 : PV b (fu s4 147 (4 * c + l) (nI (lf S (4 * c + l) - tg (P.1 3) v 1))) P := hp4.of (fun q a x => fu_cell (by omega))
  have e147 : s4 147 (4 * c + l) = nI (lf S (4 * c + l)) := by
    show fu (fu (fu (fu σ 152 _ _) 153 _ _) 154 _ _) 150 _ _ 147 _ = _
    rw [fu_cell (by decide), fu_cell (by decide), fu_cell (by decide), fu_cell (by decide)]; exact k1
  refine ⟨fu (fu s4 147 (4 * c + l) (nI (lf S (4 * c + l) - tg (P.1 3) v 1))) 151 (4 * c + l) (nI (tg (P.1 3) v 2)), ?_, fun q hq => ?_, ?_, ?_⟩
  · unfold f_X2_board
    rw [fb_x rfl (by omega) (by decide), fL_ok, fb_x rfl (by omega) (by decide), fL_ok, ix4, fb_x rfl (by omega) (by decide), fb_x rfl (by omega) (by decide), fL_ok, fb_x rfl (by omega) (by decide), fb_x rfl (by omega) (by decide), fL_ok, fb_x rfl (by omega) (by decide), nI_clamp (by omega), nI_clamp (by omega)]
    rw [show fu (fu σ 152 v (nI c)) 153 v (nI l) 150 (4 * c + l) = nI (ll S (4 * c + l)) from by rw [fu_cell (by decide), fu_cell (by decide)]; exact k2, show fu (fu (fu σ 152 v (nI c)) 153 v (nI l)) 154 v (nI (ll S (4 * c + l))) 150 (4 * c + l) = nI (ll S (4 * c + l)) from by rw [fu_cell (by decide), fu_cell (by decide), fu_cell (by decide)]; exact k2, n1]
    rw [show fu (fu (fu (fu σ 152 v (nI c)) 153 v (nI l)) 154 v (nI (ll S (4 * c + l)))) 150 (4 * c + l) (nI (ll S (4 * c + l) + 1)) = s4 from rfl, cV1 hp4 hok.1 hv, fcall_ok, fb_x rfl (by omega) (by decide), fL_ok, e147, nI_sub hfit, cV2 hp6 hok.1 hv, fcall_ok, fb_x rfl (by omega) (by decide), fL_ok]
  · show fu (fu (fu (fu (fu (fu σ 152 _ _) 153 _ _) 154 _ _) 150 _ _) 147 _ _) 151 _ _ q = σ q
    rw [fu_cell (by omega), fu_cell (by omega), fu_cell (by omega), fu_cell (by omega), fu_cell (by omega), fu_cell (by omega)]
  · refine hL.board ?_ ?_ ?_ ?_ ?_ ?_ ?_ ?_
    · show fu (fu (fu (fu (fu (fu σ 152 _ _) 153 _ _) 154 _ _) 150 _ _) 147 _ _) 151 _ _ 146 = _
      rw [fu_cell (by decide), fu_cell (by decide), fu_cell (by decide), fu_cell (by decide), fu_cell (by decide), fu_cell (by decide)]
    · show fu (fu (fu (fu (fu (fu σ 152 _ _) 153 _ _) 154 _ _) 150 _ _) 147 _ _) 151 _ _ 149 = _
      rw [fu_cell (by decide), fu_cell (by decide), fu_cell (by decide), fu_cell (by decide), fu_cell (by decide), fu_cell (by decide)]
    · show fu (fu (fu (fu (fu (fu σ 152 _ _) 153 _ _) 154 _ _) 150 _ _) 147 _ _) 151 _ _ 147 = _
      rw [fu_cell (by decide), fu_row, fu_cell (by decide), fu_cell (by decide), fu_cell (by decide), fu_cell (by decide)]
    · show fu (fu (fu (fu (fu (fu σ 152 _ _) 153 _ _) 154 _ _) 150 _ _) 147 _ _) 151 _ _ 150 = _
      rw [fu_cell (by decide), fu_cell (by decide), fu_row, fu_cell (by decide), fu_cell (by decide), fu_cell (by decide)]
    · show fu (fu (fu (fu (fu (fu σ 152 _ _) 153 _ _) 154 _ _) 150 _ _) 147 _ _) 151 _ _ 152 = _
      rw [fu_cell (by decide), fu_cell (by decide), fu_cell (by decide), fu_cell (by decide), fu_cell (by decide), fu_row]
    · show fu (fu (fu (fu (fu (fu σ 152 _ _) 153 _ _) 154 _ _) 150 _ _) 147 _ _) 151 _ _ 153 = _
      rw [fu_cell (by decide), fu_cell (by decide), fu_cell (by decide), fu_cell (by decide), fu_row, fu_cell (by decide)]
    · show fu (fu (fu (fu (fu (fu σ 152 _ _) 153 _ _) 154 _ _) 150 _ _) 147 _ _) 151 _ _ 154 = _
      rw [fu_cell (by decide), fu_cell (by decide), fu_cell (by decide), fu_row, fu_cell (by decide), fu_cell (by decide)]
    · show fu (fu (fu (fu (fu (fu σ 152 _ _) 153 _ _) 154 _ _) 150 _ _) 147 _ _) 151 _ _ 155 = _
      rw [fu_cell (by decide), fu_cell (by decide), fu_cell (by decide), fu_cell (by decide), fu_cell (by decide), fu_cell (by decide)]
  · refine hP.board ?_
    show fu (fu (fu (fu (fu (fu σ 152 _ _) 153 _ _) 154 _ _) 150 _ _) 147 _ _) 151 _ _ 151 = _
    rw [fu_row, fu_cell (by decide), fu_cell (by decide), fu_cell (by decide), fu_cell (by decide), fu_cell (by decide)]

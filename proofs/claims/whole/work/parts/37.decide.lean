/-! ===== what is decided ===== -/
abbrev aD : Type := (Nat → Nat) × (Nat → Int32) × (Nat → Nat)
def up1 {α : Type} (f : Nat → α) (c : Nat) (v : α) : Nat → α := fun q => if q = c then v else f q
theorem up1_self {α : Type} (f : Nat → α) (c : Nat) (v : α) : up1 f c v c = v := if_pos rfl
theorem up1_ne {α : Type} {f : Nat → α} {c q : Nat} {v : α} (h : q ≠ c) : up1 f c v q = f q := if_neg h
def shB (P : aP) (c t : Nat) : Bool := !deepB P (tg (P.1 2) c 0) (tg (P.1 2) c 1) t && (decide (t = tg (P.1 2) c 2) || decide (t = tg (P.1 2) c 3) || decide (t % 60 = 0))
def shF (P : aP) (c : Nat) : Option Nat := fstI (shB P c) (tg (P.1 2) c 2) (tg (P.1 2) c 3 + 1 - tg (P.1 2) c 2)
def blB (P : aP) (D : aD) (c w n : Nat) : Bool := decide (D.1 (ord P n) = 0 ∧ tg (P.1 2) (ord P n) w = tg (P.1 2) c w ∧ tg (P.1 2) (ord P n) 2 < tg (P.1 2) c 3 ∧ tg (P.1 2) c 2 < tg (P.1 2) (ord P n) 3 + D.2.2 (ord P n))
def blF (P : aP) (D : aD) (c w : Nat) : Option Nat := fstI (blB P D c w) 0 (pos P c)
def whyF (P : aP) (D : aD) (c : Nat) : Nat × Int32 :=
  if calmB P (tg (P.1 2) c 0) (tg (P.1 2) c 3) = true then
    match shF P c with
    | some t => (2, nI t)
    | none => match blF P D c 1 with
      | some n => (3, nI (ord P n))
      | none => match blF P D c 0 with
        | some n => (4, nI (ord P n))
        | none => (0, -10004)
  else (1, nI (P.2.2.1 (tg (P.1 2) c 3 / 60)))
/-- of a connection whose crossing sails -/
def kindS (P : aP) (k : Nat) : Nat :=
  if tg (P.1 4) k 1 + 10 ≤ tg (P.1 2) (tg (P.1 4) k 0) 3 then 0
  else if tg (P.1 4) k 1 + 10 ≤ tg (P.1 2) (tg (P.1 4) k 0) 3 + tg (P.1 4) k 2 then
    if calmB P (tg (P.1 2) (tg (P.1 4) k 0) 0) (tg (P.1 4) k 1 + 10) = true then
      if deepB P (tg (P.1 2) (tg (P.1 4) k 0) 0) (tg (P.1 2) (tg (P.1 4) k 0) 1) (tg (P.1 4) k 1 + 10) = true then 1 else 2
    else 2
  else 2
def kindF (P : aP) (rs : Nat → Nat) (k : Nat) : Nat := if rs (tg (P.1 4) k 0) = 0 then kindS P k else 2
def dlF (P : aP) (rs : Nat → Nat) (c : Nat) : Nat → Nat
  | 0 => 0
  | k + 1 => if tg (P.1 4) k 0 = c ∧ kindF P rs k = 1 then (if dlF P rs c k < tg (P.1 4) k 1 + 10 - tg (P.1 2) c 3 then tg (P.1 4) k 1 + 10 - tg (P.1 2) c 3 else dlF P rs c k) else dlF P rs c k
def dSt (P : aP) (D : aD) (c : Nat) : aD := (up1 D.1 c (whyF P D c).1, up1 D.2.1 c (whyF P D c).2, up1 D.2.2 c (dlF P (up1 D.1 c (whyF P D c).1) c (P.1 4).length))
def dPl (P : aP) : Nat → aD
  | 0 => (fun _ => 0, fun _ => 0, fun _ => 0)
  | n + 1 => dSt P (dPl P n) (ord P n)
theorem why_le (P : aP) (D : aD) (c : Nat) : (whyF P D c).1 ≤ 4 := by
  unfold whyF
  split
  · split
    · exact (show 2 ≤ 4 by decide)
    · split
      · exact (show 3 ≤ 4 by decide)
      · split
        · exact (show 4 ≤ 4 by decide)
        · exact (show 0 ≤ 4 by decide)
  · exact (show 1 ≤ 4 by decide)
theorem rs_le (P : aP) : ∀ n c, (dPl P n).1 c ≤ 4 := by
  intro n
  induction n with
  | zero => intro c; exact Nat.zero_le _
  | succ n ih =>
    intro c
    show up1 (dPl P n).1 (ord P n) (whyF P (dPl P n) (ord P n)).1 c ≤ 4
    unfold up1
    split
    · exact why_le _ _ _
    · exact ih c
theorem kindS_1 {P : aP} {k : Nat} (h : kindS P k = 1) : tg (P.1 2) (tg (P.1 4) k 0) 3 < tg (P.1 4) k 1 + 10 ∧ tg (P.1 4) k 1 + 10 ≤ tg (P.1 2) (tg (P.1 4) k 0) 3 + tg (P.1 4) k 2 := by
  unfold kindS at h
  split at h
  · cases h
  · split at h
    · omega
    · cases h
theorem kindS_le (P : aP) (k : Nat) : kindS P k ≤ 2 := by
  unfold kindS
  split
  · decide
  · split
    · split
      · split <;> decide
      · decide
    · decide
theorem kindF_le (P : aP) (rs : Nat → Nat) (k : Nat) : kindF P rs k ≤ 2 := by
  unfold kindF
  split
  · exact kindS_le P k
  · decide
theorem dlF_le {P : aP} (hok : aOK P) (rs : Nat → Nat) (c : Nat) : ∀ k, k ≤ (P.1 4).length → dlF P rs c k ≤ 2810 := by
  intro k
  induction k with
  | zero => intro _; exact Nat.zero_le _
  | succ k ih =>
    intro hk
    have h1 := ih (by omega)
    have h2 := (hok.2.2.2.2.2.1 k (by omega)).2.1
    unfold dlF
    split
    · split
      · omega
      · exact h1
    · exact h1
theorem dl_le {P : aP} (hok : aOK P) : ∀ n c, (dPl P n).2.2 c ≤ 2810 := by
  intro n
  induction n with
  | zero => intro c; exact Nat.zero_le _
  | succ n ih =>
    intro c
    show up1 (dPl P n).2.2 (ord P n) _ c ≤ 2810
    unfold up1
    split
    · exact dlF_le hok _ _ _ (Nat.le_refl _)
    · exact ih c
/-- the decisions of the crossings at places below p stand in three rows -/
def DV (σ : fS) (rr dd ll : Nat) (P : aP) (D : aD) (p : Nat) : Prop := ∀ n, n < p → σ rr (ord P n) = nI (D.1 (ord P n)) ∧ σ dd (ord P n) = D.2.1 (ord P n) ∧ σ ll (ord P n) = nI (D.2.2 (ord P n))
theorem DV.of {σ σ' : fS} {rr dd ll : Nat} {P : aP} {D : aD} {p : Nat} (h : DV σ rr dd ll P D p) (h1 : ∀ n, n < p → σ' rr (ord P n) = σ rr (ord P n)) (h2 : ∀ n, n < p → σ' dd (ord P n) = σ dd (ord P n)) (h3 : ∀ n, n < p → σ' ll (ord P n) = σ ll (ord P n)) : DV σ' rr dd ll P D p := fun n hn => ⟨by rw [h1 n hn]; exact (h n hn).1, by rw [h2 n hn]; exact (h n hn).2.1, by rw [h3 n hn]; exact (h n hn).2.2⟩
/-- a place more -/
theorem DV.step {σ σ' : fS} {rr dd ll : Nat} {P : aP} {D : aD} {p : Nat} (hp : p < (P.1 2).length) (h : DV σ rr dd ll P D p) (h1 : ∀ q, q ≠ ord P p → σ' rr q = σ rr q ∧ σ' dd q = σ dd q ∧ σ' ll q = σ ll q) (e1 : σ' rr (ord P p) = nI (whyF P D (ord P p)).1) (e2 : σ' dd (ord P p) = (whyF P D (ord P p)).2) (e3 : σ' ll (ord P p) = nI (dlF P (up1 D.1 (ord P p) (whyF P D (ord P p)).1) (ord P p) (P.1 4).length)) : DV σ' rr dd ll P (dSt P D (ord P p)) (p + 1) := by
  intro n hn
  show σ' rr (ord P n) = nI (up1 D.1 (ord P p) _ (ord P n)) ∧ σ' dd (ord P n) = up1 D.2.1 (ord P p) _ (ord P n) ∧ σ' ll (ord P n) = nI (up1 D.2.2 (ord P p) _ (ord P n))
  by_cases hnp : n = p
  · subst hnp
    rw [up1_self, up1_self, up1_self]
    exact ⟨e1, e2, e3⟩
  · have hne : ord P n ≠ ord P p := fun e => hnp (ord_inj (by omega) hp e)
    obtain ⟨a, b, c⟩ := h1 _ hne
    rw [up1_ne hne, up1_ne hne, up1_ne hne, a, b, c]
    exact h n (by omega)
theorem nI_NONE {n : Nat} (h : n < 2 ^ 31) : ¬ nI n = -10004 := fun e => nE h (e ▸ eE4)
theorem nI_neg1 {n : Nat} (h : n < 2 ^ 31) : ¬ nI n = -1 := fun e => nI_pos h (by rw [e]; decide)
theorem shB_at {P : aP} {c t : Nat} (h : t = tg (P.1 2) c 2 ∨ t = tg (P.1 2) c 3 ∨ t % 60 = 0) : shB P c t = !deepB P (tg (P.1 2) c 0) (tg (P.1 2) c 1) t := by
  unfold shB
  have : (decide (t = tg (P.1 2) c 2) || decide (t = tg (P.1 2) c 3) || decide (t % 60 = 0)) = true := by
    rcases h with h | h | h
    · rw [decide_eq_true h]; rfl
    · rw [decide_eq_true h, Bool.or_true]; rfl
    · rw [decide_eq_true h, Bool.or_true]
  rw [this, Bool.and_true]
theorem shB_off {P : aP} {c t : Nat} (h1 : t ≠ tg (P.1 2) c 2) (h2 : t ≠ tg (P.1 2) c 3) (h3 : t % 60 ≠ 0) : shB P c t = false := by
  unfold shB
  rw [decide_eq_false h1, decide_eq_false h2, decide_eq_false h3]
  exact Bool.and_false _
/-! ===== the class decides ===== -/
theorem c_sails {σ : fS} {c r : Nat} (hc : c < 12) (hr : r ≤ 4) (h : σ 141 c = nI r) : f_X0_sails (nI c) σ = some (bI (decide (r = 0)), σ) := by
  unfold f_X0_sails
  rw [fb_x rfl hc (by decide), nI_clamp (by omega), h]
  by_cases h0 : r = 0
  · subst h0
    rw [if_pos nI_0]; rfl
  · rw [if_neg (nI_ne0 (by omega) (by omega)), decide_eq_false h0]; rfl
theorem c_strongWind {b : Nat} {σ : fS} {P : aP} (hp : PV b σ P) (hok : aOK P) {c : Nat} (hc : c < (P.1 2).length) : f_X0_strongWind b (nI c) σ = some (if calmB P (tg (P.1 2) c 0) (tg (P.1 2) c 3) = true then -10004 else nI (P.2.2.1 (tg (P.1 2) c 3 / 60)), σ) := by
  have d := okD hok hc
  have s := (hok.2.2.2.1 c hc).1
  have b1 := hok.2.2.2.2.2.2.2.1 (tg (P.1 2) c 3 / 60) (by omega)
  have b2 := hok.2.1 _ s
  unfold f_X0_strongWind
  rw [cC3 hp hok.1 hc, fcall_ok, c_windAt hp (by omega), fcall_ok, c_windLimitOf hp hok hc, fcall_ok]
  unfold calmB
  by_cases h : P.2.2.1 (tg (P.1 2) c 3 / 60) ≤ tg (P.1 0) (tg (P.1 2) c 0) 3
  · rw [if_pos (nI_le h (by omega)), if_pos (decide_eq_true h)]
  · rw [if_neg (nI_ge (by omega) (by omega)), if_neg (by simp [h])]
theorem c_shLoop {b : Nat} {σ : fS} {P : aP} (hp : PV b σ P) (hok : aOK P) {c : Nat} (hc : c < (P.1 2).length) : ∀ m n j t, t % 60 = 0 → tg (P.1 2) c 2 < j → j ≤ t → j ≤ tg (P.1 2) c 3 → (∀ k, j ≤ k → k < t → k % 60 ≠ 0) → t ≤ 2880 → tg (P.1 2) c 3 ≤ t + 60 * m → m < n → f_X0_firstShallowTime_b68 b n (nI (tg (P.1 2) c 0)) (nI (tg (P.1 2) c 1)) (nI (tg (P.1 2) c 3)) (nI t) σ = some (orI (-10004) nI (fstI (shB P c) j (tg (P.1 2) c 3 + 1 - j)), σ) := by
  have d := okD hok hc
  have s := hok.2.2.2.1 c hc
  intro m
  induction m with
  | zero =>
    intro n j t h1 h2 h3 h4 h5 h6 h7 hn
    obtain ⟨n, rfl⟩ : ∃ q, n = q + 1 := ⟨n - 1, by omega⟩
    rw [f_X0_firstShallowTime_b68, if_pos (nI_le (by omega) (by omega)), c_deep hp hok.1 s.1 s.2.1 (by omega), fcall_ok, show tg (P.1 2) c 3 + 1 - j = (tg (P.1 2) c 3 - j) + 1 by omega, fstI_skip _ j 1 (fun k a b => shB_off (by omega) (by omega) (h5 k a (by omega))), show j + (tg (P.1 2) c 3 - j) = tg (P.1 2) c 3 by omega]
    show _ = some (orI (-10004) nI (if shB P c (tg (P.1 2) c 3) = true then some (tg (P.1 2) c 3) else none), σ)
    rw [shB_at (Or.inr (Or.inl rfl))]
    cases deepB P (tg (P.1 2) c 0) (tg (P.1 2) c 1) (tg (P.1 2) c 3) <;> rfl
  | succ m ih =>
    intro n j t h1 h2 h3 h4 h5 h6 h7 hn
    obtain ⟨n, rfl⟩ : ∃ q, n = q + 1 := ⟨n - 1, by omega⟩
    by_cases hd : tg (P.1 2) c 3 ≤ t
    · rw [f_X0_firstShallowTime_b68, if_pos (nI_le hd (by omega)), c_deep hp hok.1 s.1 s.2.1 (by omega), fcall_ok, show tg (P.1 2) c 3 + 1 - j = (tg (P.1 2) c 3 - j) + 1 by omega, fstI_skip _ j 1 (fun k a b => shB_off (by omega) (by omega) (h5 k a (by omega))), show j + (tg (P.1 2) c 3 - j) = tg (P.1 2) c 3 by omega]
      show _ = some (orI (-10004) nI (if shB P c (tg (P.1 2) c 3) = true then some (tg (P.1 2) c 3) else none), σ)
      rw [shB_at (Or.inr (Or.inl rfl))]
      cases deepB P (tg (P.1 2) c 0) (tg (P.1 2) c 1) (tg (P.1 2) c 3) <;> rfl
    · rw [f_X0_firstShallowTime_b68, if_neg (nI_ge (by omega) (by omega)), c_deep hp hok.1 s.1 s.2.1 (by omega), fcall_ok, show tg (P.1 2) c 3 + 1 - j = (t - j) + ((tg (P.1 2) c 3 - t) + 1) by omega, fstI_skip _ j _ (fun k a b => shB_off (by omega) (by omega) (h5 k a (by omega))), show j + (t - j) = t by omega]
      show _ = some (orI (-10004) nI (if shB P c t = true then some t else fstI (shB P c) (t + 1) (tg (P.1 2) c 3 - t)), σ)
      rw [shB_at (Or.inr (Or.inr h1))]
      have ih' := ih n (t + 1) (t + 60) (by omega) (by omega) (by omega) (by omega) (fun k a b => by omega) (by omega) (by omega) (by omega)
      rw [show tg (P.1 2) c 3 + 1 - (t + 1) = tg (P.1 2) c 3 - t by omega] at ih'
      cases deepB P (tg (P.1 2) c 0) (tg (P.1 2) c 1) t with
      | false => rfl
      | true =>
        rw [if_neg bI_t, show nI t + (60 : Int32) = nI (t + 60) from nI_add t 60]
        exact ih'
theorem c_shallow {b : Nat} {σ : fS} {P : aP} (hp : PV b σ P) (hok : aOK P) {c : Nat} (hc : c < (P.1 2).length) : f_X0_firstShallowTime b (nI c) σ = some (orI (-10004) nI (shF P c), σ) := by
  have d := okD hok hc
  have s := hok.2.2.2.1 c hc
  have e : (nI (tg (P.1 2) c 2 / 60) + (1 : Int32)) * (60 : Int32) = nI ((tg (P.1 2) c 2 / 60 + 1) * 60) := by rw [nI_1, show (60 : Int32) = nI 60 from rfl, nI_mul]
  unfold f_X0_firstShallowTime shF
  rw [cC0 hp hok.1 hc, fcall_ok, cC1 hp hok.1 hc, fcall_ok, cC2 hp hok.1 hc, fcall_ok, cC3 hp hok.1 hc, fcall_ok, c_deep hp hok.1 s.1 s.2.1 (by omega), fcall_ok, nI_div60 (by omega), e, show tg (P.1 2) c 3 + 1 - tg (P.1 2) c 2 = (tg (P.1 2) c 3 - tg (P.1 2) c 2) + 1 by omega]
  show _ = some (orI (-10004) nI (if shB P c (tg (P.1 2) c 2) = true then some (tg (P.1 2) c 2) else fstI (shB P c) (tg (P.1 2) c 2 + 1) (tg (P.1 2) c 3 - tg (P.1 2) c 2)), σ)
  rw [shB_at (Or.inl rfl)]
  have h := c_shLoop hp hok hc 48 fN (tg (P.1 2) c 2 + 1) ((tg (P.1 2) c 2 / 60 + 1) * 60) (by omega) (by omega) (by omega) (by omega) (fun k a b => by omega) (by omega) (by omega) (by unfold fN; omega)
  rw [show tg (P.1 2) c 3 + 1 - (tg (P.1 2) c 2 + 1) = tg (P.1 2) c 3 - tg (P.1 2) c 2 by omega] at h
  cases deepB P (tg (P.1 2) c 0) (tg (P.1 2) c 1) (tg (P.1 2) c 2) with
  | false => rfl
  | true =>
    rw [if_neg bI_t]
    exact h
theorem okCol {P : aP} (hok : aOK P) {i w : Nat} (hi : i < (P.1 2).length) (hw : w < 4) : tg (P.1 2) i w < 2 ^ 31 := by
  have h := hok.2.2.2.1 i hi
  have z0 : (P.1 0).length ≤ 4 := hok.1 0 (by decide)
  have z1 : (P.1 1).length ≤ 3 := hok.1 1 (by decide)
  rcases (show w = 0 ∨ w = 1 ∨ w = 2 ∨ w = 3 by omega) with rfl | rfl | rfl | rfl <;> omega
theorem c_way {b : Nat} {σ : fS} {P : aP} {D : aD} (hp : PV b σ P) (hok : aOK P) (hr : ∀ q, D.1 q ≤ 4) (hl : ∀ q, D.2.2 q ≤ 2810) (hO : OV σ 140 139 P (P.1 2).length) {p : Nat} (hpl : p < (P.1 2).length) (hD : DV σ 141 142 143 P D p) {w : Nat} {x : Int32} (hx : x = nI w) (hw : w < 4) : f_X0_firstInTheWay b (nI p) x σ = some (orI (-10004) (fun n => nI (ord P n)) (blF P D (ord P p) w), σ) := by
  have z2 : (P.1 2).length ≤ 12 := hok.1 2 (by decide)
  obtain ⟨hc, hpc⟩ := pos_ord hpl
  have dc := okD hok hc
  unfold f_X0_firstInTheWay blF
  rw [fb_x rfl (by omega) (by decide), nI_clamp (by omega), hO.ord hpl, cC2 hp hok.1 hc, fcall_ok, cC3 hp hok.1 hc, fcall_ok, hpc]
  refine find_loop (f := fun n v => f_X0_firstInTheWay_b35 b n (nI p) x (nI (ord P p)) (nI (tg (P.1 2) (ord P p) 2)) (nI (tg (P.1 2) (ord P p) 3)) v σ) (N := p) (c := blB P D (ord P p) w) (r := fun n => nI (ord P n)) (fun n => ?_) (fun n i hi hcc => ?_) (fun n i hi hcc => ?_) p 0 fN (by omega) (by unfold fN; omega)
  · show f_X0_firstInTheWay_b35 b (n + 1) (nI p) x (nI (ord P p)) (nI (tg (P.1 2) (ord P p) 2)) (nI (tg (P.1 2) (ord P p) 3)) (nI p) σ = _
    rw [f_X0_firstInTheWay_b35, if_pos (nI_le (Nat.le_refl _) (by omega))]
  · have hi' : i < (P.1 2).length := by omega
    have hq := (pos_ord hi').1
    have dq := okD hok hq
    have lq := hl (ord P i)
    obtain ⟨d1, d2, d3⟩ := hD i hi
    unfold blB at hcc
    obtain ⟨g1, g2, g3, g4⟩ := of_decide_eq_true hcc
    show f_X0_firstInTheWay_b35 b (n + 1) (nI p) x (nI (ord P p)) (nI (tg (P.1 2) (ord P p) 2)) (nI (tg (P.1 2) (ord P p) 3)) (nI i) σ = _
    rw [f_X0_firstInTheWay_b35, if_neg (nI_ge hi (by omega)), fb_x rfl (by omega) (by decide), nI_clamp (by omega), hO.ord hi', cC3 hp hok.1 hq, fcall_ok, fb_x rfl (by omega) (by decide), c_sails (by omega) (hr _) d1, fcall_ok, decide_eq_true g1, if_neg bI_t, cC hp hok.1 hq hx hw, fcall_ok, cC hp hok.1 hc hx hw, fcall_ok, if_pos (by rw [g2]), nI_clamp (by omega), d3, nI_add, if_neg (nI_ge g4 (by omega)), cC2 hp hok.1 hq, fcall_ok, if_neg (nI_ge g3 (by omega))]
  · have hi' : i < (P.1 2).length := by omega
    have hq := (pos_ord hi').1
    have dq := okD hok hq
    have lq := hl (ord P i)
    obtain ⟨d1, d2, d3⟩ := hD i hi
    unfold blB at hcc
    have g := of_decide_eq_false hcc
    show f_X0_firstInTheWay_b35 b (n + 1) (nI p) x (nI (ord P p)) (nI (tg (P.1 2) (ord P p) 2)) (nI (tg (P.1 2) (ord P p) 3)) (nI i) σ = f_X0_firstInTheWay_b35 b n (nI p) x (nI (ord P p)) (nI (tg (P.1 2) (ord P p) 2)) (nI (tg (P.1 2) (ord P p) 3)) (nI (i + 1)) σ
    rw [f_X0_firstInTheWay_b35, if_neg (nI_ge hi (by omega)), fb_x rfl (by omega) (by decide), nI_clamp (by omega), hO.ord hi', cC3 hp hok.1 hq, fcall_ok, fb_x rfl (by omega) (by decide), c_sails (by omega) (hr _) d1, fcall_ok]
    unfold f_X0_firstInTheWay_b127
    by_cases g1 : D.1 (ord P i) = 0
    · rw [decide_eq_true g1, if_neg bI_t, cC hp hok.1 hq hx hw, fcall_ok, cC hp hok.1 hc hx hw, fcall_ok]
      by_cases g2 : tg (P.1 2) (ord P i) w = tg (P.1 2) (ord P p) w
      · rw [if_pos (by rw [g2]), nI_clamp (by omega), d3, nI_add]
        by_cases g4 : tg (P.1 2) (ord P p) 2 < tg (P.1 2) (ord P i) 3 + D.2.2 (ord P i)
        · rw [if_neg (nI_ge g4 (by omega)), cC2 hp hok.1 hq, fcall_ok, if_pos (nI_le (Nat.le_of_not_lt (fun g3 => g ⟨g1, g2, g3, g4⟩)) (by omega)), nI_1]
        · rw [if_pos (nI_le (by omega) (by omega)), nI_1]
      · rw [if_neg (fun e => g2 (nI_inj (okCol hok hq hw) (okCol hok hc hw) e)), nI_1]
    · rw [decide_eq_false g1, if_pos bI_f, nI_1]
theorem c_decide {b : Nat} {σ : fS} {P : aP} {D : aD} (hp : PV b σ P) (hok : aOK P) (hr : ∀ q, D.1 q ≤ 4) (hl : ∀ q, D.2.2 q ≤ 2810) (hO : OV σ 140 139 P (P.1 2).length) {p : Nat} (hpl : p < (P.1 2).length) (hD : DV σ 141 142 143 P D p) : f_X0_decide b (nI p) σ = some (fu (fu σ 141 (ord P p) (nI (whyF P D (ord P p)).1)) 142 (ord P p) (whyF P D (ord P p)).2) := by
  have z2 : (P.1 2).length ≤ 12 := hok.1 2 (by decide)
  obtain ⟨hc, hpc⟩ := pos_ord hpl
  have dc := okD hok hc
  have b1 := hok.2.2.2.2.2.2.2.1 (tg (P.1 2) (ord P p) 3 / 60) (by omega)
  have fin : ∀ (r : Nat) (v : Int32), f_X0_decide_b94 b (nI (ord P p)) v (nI r) (nI (ord P p)) σ = some (fu (fu σ 141 (ord P p) (nI r)) 142 (ord P p) v) := fun r v => by
    unfold f_X0_decide_b94
    rw [fb_x rfl (by omega) (by decide), fL_ok, fb_x rfl (by omega) (by decide), fL_ok, nI_clamp (by omega)]
  unfold f_X0_decide
  rw [fb_x rfl (by omega) (by decide), nI_clamp (by omega), hO.ord hpl, c_strongWind hp hok hc, fcall_ok]
  unfold whyF
  by_cases h1 : calmB P (tg (P.1 2) (ord P p) 0) (tg (P.1 2) (ord P p) 3) = true
  · rw [if_pos h1, if_pos rfl, c_shallow hp hok hc, fcall_ok, if_pos h1]
    unfold f_X0_decide_b35
    cases h2 : shF P (ord P p) with
    | some t =>
      have ht : t < 2 ^ 31 := by
        obtain ⟨-, a, -⟩ := fstI_some _ _ _ h2
        omega
      rw [show orI (-10004) nI (some t) = nI t from rfl]
      rw [if_neg (nI_NONE ht)]
      unfold f_X0_decide_b55
      rw [if_neg (nI_NONE ht)]
      unfold f_X0_decide_b75
      rw [if_neg (nI_NONE ht)]
      exact fin 2 _
    | none =>
      rw [show orI (-10004) nI none = -10004 from rfl, if_pos rfl, c_way hp hok hr hl hO hpl hD (show (1 : Int32) = nI 1 from rfl) (by decide), fcall_ok]
      unfold f_X0_decide_b55
      cases h3 : blF P D (ord P p) 1 with
      | some n =>
        have hn : ord P n < 2 ^ 31 := by
          obtain ⟨-, a, -⟩ := fstI_some _ _ _ h3
          have := (pos_ord (P := P) (n := n) (by omega)).1
          omega
        rw [show orI (-10004) (fun n => nI (ord P n)) (some n) = nI (ord P n) from rfl]
        rw [if_neg (nI_NONE hn)]
        unfold f_X0_decide_b75
        rw [if_neg (nI_NONE hn)]
        exact fin 3 _
      | none =>
        rw [show orI (-10004) (fun n => nI (ord P n)) none = -10004 from rfl, if_pos rfl, c_way hp hok hr hl hO hpl hD (show (0 : Int32) = nI 0 from rfl) (by decide), fcall_ok]
        unfold f_X0_decide_b75
        cases h4 : blF P D (ord P p) 0 with
        | some n =>
          have hn : ord P n < 2 ^ 31 := by
            obtain ⟨-, a, -⟩ := fstI_some _ _ _ h4
            have := (pos_ord (P := P) (n := n) (by omega)).1
            omega
          rw [show orI (-10004) (fun n => nI (ord P n)) (some n) = nI (ord P n) from rfl]
          rw [if_neg (nI_NONE hn)]
          exact fin 4 _
        | none =>
          rw [show orI (-10004) (fun n => nI (ord P n)) none = -10004 from rfl, if_pos rfl]
          exact fin 0 _
  · rw [if_neg h1, if_neg (nI_NONE (by omega)), if_neg h1]
    unfold f_X0_decide_b35
    rw [if_neg (nI_NONE (by omega))]
    unfold f_X0_decide_b55
    rw [if_neg (nI_NONE (by omega))]
    unfold f_X0_decide_b75
    rw [if_neg (nI_NONE (by omega))]
    exact fin 1 _
theorem c_fateOf {b : Nat} {σ : fS} {P : aP} (hp : PV b σ P) (hok : aOK P) {k : Nat} (hk : k < (P.1 4).length) : f_X0_fateOf b (nI (tg (P.1 4) k 0)) (nI k) σ = some (nI (kindS P k), σ) := by
  have kk := hok.2.2.2.2.2.1 k hk
  have hc := kk.1
  have d := okD hok hc
  have s := hok.2.2.2.1 _ hc
  have b1 := hok.2.2.2.2.2.2.2.1 ((tg (P.1 4) k 1 + 10) / 60) (by omega)
  have b2 := hok.2.1 _ s.1
  unfold f_X0_fateOf kindS
  rw [cC3 hp hok.1 hc, fcall_ok, c_readyTime hp hok hk, fcall_ok]
  by_cases h1 : tg (P.1 4) k 1 + 10 ≤ tg (P.1 2) (tg (P.1 4) k 0) 3
  · rw [if_neg (nI_nlt h1 (by omega)), if_pos h1]; rfl
  · rw [if_pos (nI_lt (by omega) (by omega)), if_neg h1, cC0 hp hok.1 hc, fcall_ok, cC1 hp hok.1 hc, fcall_ok, cK2 hp hok.1 hk, fcall_ok, nI_add]
    unfold f_X0_fateOf_b94 f_X0_fateOf_b95
    by_cases h2 : tg (P.1 4) k 1 + 10 ≤ tg (P.1 2) (tg (P.1 4) k 0) 3 + tg (P.1 4) k 2
    · rw [if_neg (nI_nlt h2 (by omega)), if_pos h2, c_windAt hp (by omega), fcall_ok, c_windLimitOf hp hok hc, fcall_ok]
      unfold calmB
      by_cases h3 : P.2.2.1 ((tg (P.1 4) k 1 + 10) / 60) ≤ tg (P.1 0) (tg (P.1 2) (tg (P.1 4) k 0) 0) 3
      · rw [if_neg (nI_nlt h3 (by omega)), if_pos (decide_eq_true h3), c_deep hp hok.1 s.1 s.2.1 (by omega), fcall_ok]
        cases deepB P (tg (P.1 2) (tg (P.1 4) k 0) 0) (tg (P.1 2) (tg (P.1 4) k 0) 1) (tg (P.1 4) k 1 + 10) <;> rfl
      · rw [if_pos (nI_lt (by omega) (by omega)), decide_eq_false h3]
        rfl
    · rw [if_pos (nI_lt (by omega) (by omega)), if_neg h2]
      rfl

/-! ===== the text is parsed ===== -/
def sgn (tx : Nat → Nat) (L p : Nat) : Nat := if p < L then tx p else 0
def nmF (tx : Nat → Nat) (L : Nat) : Nat → Nat → Nat → Nat × Nat
  | 0, p, a => (a, p)
  | d + 1, p, a => if 48 ≤ sgn tx L p ∧ sgn tx L p ≤ 57 then nmF tx L d (p + 1) (a * 10 + sgn tx L p - 48) else (a, p)
def cntN (k : Nat) : Nat := if k = 99 then 4 else if k = 116 then 2 else if k = 118 then 3 else if k = 119 then 2 else 0
def sepN (cnt : Nat) : Nat := if cnt = 2 then 61 else 44
def ngB (tx : Nat → Nat) (L k i p : Nat) : Bool := decide (k = 116 ∧ i = 1 ∧ sgn tx L p = 45)
def p1F (i p : Nat) : Nat := if 0 < i then p + 1 else p
def p2F (tx : Nat → Nat) (L k i p : Nat) : Nat := if ngB tx L k i (p1F i p) = true then p1F i p + 1 else p1F i p
def vaF (tx : Nat → Nat) (L k i p : Nat) : Int32 := (if ngB tx L k i (p1F i p) = true then (-1 : Int32) else 1) * nI (nmF tx L 4 (p2F tx L k i p) 0).1
def pNs (tx : Nat → Nat) (L k cnt : Nat) : Nat → Nat → Nat → (Nat → Int32) → Bool × Nat × (Nat → Int32)
  | 0, _, p, v => (true, p, v)
  | d + 1, i, p, v => if 0 < i ∧ sgn tx L p ≠ sepN cnt then (false, p, v) else if p2F tx L k i p < (nmF tx L 4 (p2F tx L k i p) 0).2 then pNs tx L k cnt d (i + 1) (nmF tx L 4 (p2F tx L k i p) 0).2 (up1 v i (vaF tx L k i p)) else (false, (nmF tx L 4 (p2F tx L k i p) 0).2, up1 v i (vaF tx L k i p))
def pE (tx : Nat → Nat) (L p : Nat) : Bool × Nat × (Nat → Int32) := if cntN (sgn tx L p) = 0 then (false, p, fun _ => 0) else pNs tx L (sgn tx L p) (cntN (sgn tx L p)) (cntN (sgn tx L p)) 0 (p + 1) (fun _ => 0)
theorem sgn_pos {tx : Nat → Nat} {L p : Nat} (h : 0 < sgn tx L p) : p < L := by
  unfold sgn at h
  split at h
  · assumption
  · omega
theorem nmF_b {tx : Nat → Nat} {L : Nat} : ∀ d p a, p ≤ (nmF tx L d p a).2 ∧ (p ≤ L → (nmF tx L d p a).2 ≤ L) := by
  intro d
  induction d with
  | zero => intro p a; exact ⟨Nat.le_refl _, fun h => h⟩
  | succ d ih =>
    intro p a
    unfold nmF
    by_cases h : 48 ≤ sgn tx L p ∧ sgn tx L p ≤ 57
    · rw [if_pos h]
      have hp := sgn_pos (tx := tx) (L := L) (p := p) (by omega)
      obtain ⟨x, y⟩ := ih (p + 1) (a * 10 + sgn tx L p - 48)
      exact ⟨by omega, fun _ => y (by omega)⟩
    · rw [if_neg h]
      exact ⟨Nat.le_refl _, fun h => h⟩
theorem p2F_b {tx : Nat → Nat} {L k cnt i p : Nat} (hp : p ≤ L) (h : ¬ (0 < i ∧ sgn tx L p ≠ sepN cnt)) : p1F i p ≤ L ∧ p1F i p ≤ p2F tx L k i p ∧ p2F tx L k i p ≤ L := by
  have h1 : p1F i p ≤ L := by
    unfold p1F
    split
    · have hs : 0 < sepN cnt := by unfold sepN; split <;> decide
      have := sgn_pos (tx := tx) (L := L) (p := p) (by omega)
      omega
    · exact hp
  refine ⟨h1, ?_, ?_⟩
  · unfold p2F; split <;> omega
  · unfold p2F
    split
    · rename_i hg
      have := (of_decide_eq_true hg).2.2
      have := sgn_pos (tx := tx) (L := L) (p := p1F i p) (by omega)
      omega
    · exact h1
theorem pNs_b {tx : Nat → Nat} {L k cnt : Nat} : ∀ d i p v, p ≤ L → (pNs tx L k cnt d i p v).2.1 ≤ L ∧ ((pNs tx L k cnt d i p v).1 = true → p + d + (if 0 < i then d else d - 1) ≤ (pNs tx L k cnt d i p v).2.1) := by
  intro d
  induction d with
  | zero => intro i p v hp; exact ⟨hp, fun _ => by show p + 0 + _ ≤ p; split <;> omega⟩
  | succ d ih =>
    intro i p v hp
    unfold pNs
    by_cases h : 0 < i ∧ sgn tx L p ≠ sepN cnt
    · rw [if_pos h]; exact ⟨hp, fun e => by cases e⟩
    · rw [if_neg h]
      obtain ⟨a1, a2, a3⟩ := p2F_b (k := k) hp h
      obtain ⟨b1, b2⟩ := nmF_b (tx := tx) (L := L) 4 (p2F tx L k i p) 0
      have b2 := b2 a3
      by_cases h2 : p2F tx L k i p < (nmF tx L 4 (p2F tx L k i p) 0).2
      · rw [if_pos h2]
        obtain ⟨c1, c2⟩ := ih (i + 1) (nmF tx L 4 (p2F tx L k i p) 0).2 (up1 v i (vaF tx L k i p)) b2
        refine ⟨c1, fun e => ?_⟩
        have c2 := c2 e
        rw [if_pos (by omega)] at c2
        unfold p1F at a2
        split at a2 <;> split <;> omega
      · rw [if_neg h2]; exact ⟨b2, fun e => by cases e⟩
theorem pE_b {tx : Nat → Nat} {L p : Nat} (hp : p ≤ L) : (pE tx L p).2.1 ≤ L ∧ ((pE tx L p).1 = true → p + 4 ≤ (pE tx L p).2.1) := by
  unfold pE
  by_cases h : cntN (sgn tx L p) = 0
  · rw [if_pos h]; exact ⟨hp, fun e => by cases e⟩
  · rw [if_neg h]
    have hp1 : p < L := sgn_pos (tx := tx) (by
      rcases Nat.eq_zero_or_pos (sgn tx L p) with g | g
      · rw [g] at h; exact absurd rfl h
      · exact g)
    obtain ⟨a, b⟩ := pNs_b (tx := tx) (L := L) (k := sgn tx L p) (cnt := cntN (sgn tx L p)) (cntN (sgn tx L p)) 0 (p + 1) (fun _ => 0) hp1
    refine ⟨a, fun e => ?_⟩
    have b := b e
    rw [if_neg (by decide)] at b
    have : 2 ≤ cntN (sgn tx L p) := by
      unfold cntN at h ⊢
      split
      · decide
      · split
        · decide
        · split
          · decide
          · split
            · decide
            · rename_i q1 q2 q3 q4
              rw [if_neg q1, if_neg q2, if_neg q3, if_neg q4] at h
              exact absurd rfl h
    omega
/-- texts of both sides -/
def TXc (σ : fS) (tx : Nat → Nat) (L : Nat) : Prop := σ 157 0 = nI L ∧ ∀ i, i < L → σ 158 i = nI (tx i)
def TXm (σ : fS) (tx : Nat → Nat) (L : Nat) : Prop := σ 164 7 = nI L ∧ ∀ i, i < L → σ 169 i = nI (tx i)
def FC (s σ : fS) : Prop := (∀ q, q ≠ 157 → q ≠ 159 → q ≠ 160 → s q = σ q) ∧ ∀ j, j ≠ 4 → s 157 j = σ 157 j
theorem FC.tx {s σ : fS} {tx : Nat → Nat} {L : Nat} (h : FC s σ) (ht : TXc σ tx L) : TXc s tx L := ⟨by rw [h.2 0 (by decide)]; exact ht.1, by rw [h.1 158 (by decide) (by decide) (by decide)]; exact ht.2⟩
theorem c_sign {s : fS} {tx : Nat → Nat} {L p : Nat} (ht : TXc s tx L) (hL : L ≤ 60) (hp : p < 2 ^ 31) (h4 : s 157 4 = nI p) : f_X6_signHere s = some (nI (sgn tx L p), s) := by
  unfold f_X6_signHere sgn
  rw [ht.1, h4]
  by_cases h : p < L
  · rw [if_neg (nI_ge h (by omega)), if_pos h, fb_x rfl (by omega) (by decide), nI_clamp hp, ht.2 p h]
  · rw [if_pos (nI_le (by omega) hp), if_neg h]; rfl
theorem sgn_lt {tx : Nat → Nat} {L p : Nat} (hb : ∀ i, i < L → tx i ≤ 126) : sgn tx L p ≤ 126 := by
  unfold sgn
  split
  · rename_i h; exact hb p h
  · omega
theorem c_passes {s : fS} {tx : Nat → Nat} {L p ch : Nat} {x : Int32} (hx : x = nI ch) (hc : ch < 200) (ht : TXc s tx L) (hL : L ≤ 60) (hb : ∀ i, i < L → tx i ≤ 126) (hp : p < 2 ^ 31) (h4 : s 157 4 = nI p) : f_X6_passes x s = if sgn tx L p = ch then some (1, fu s 157 4 (nI (p + 1))) else some (0, s) := by
  have hs := sgn_lt (tx := tx) (L := L) (p := p) hb
  unfold f_X6_passes
  rw [c_sign ht hL hp h4, fcall_ok, hx]
  by_cases h : sgn tx L p = ch
  · rw [if_pos (by rw [h]), if_pos h, fL_ok, h4, nI_1]
  · rw [if_neg (fun e => h (nI_inj (by omega) (by omega) e)), if_neg h]
theorem p_eput {s : fS} {R row c : Nat} {v : Int32} {x : Int32} (hx : x = nI c) (hR : s 159 3 = nI R) (hR2 : R ≤ 12) (hr : row < R) (hc : c < 6) : f_X5_put 159 12 6 (nI row) x v s = some (fu s 160 (row * 6 + c) v) := p_put (t := 159) hR hR2 (by decide) (by decide) (by decide) rfl hx hr hc
theorem c_numL {σ : fS} {tx : Nat → Nat} {L row col : Nat} {sg : Int32} (hT : TXc σ tx L) (hL : L ≤ 60) (hb : ∀ i, i < L → tx i ≤ 126) : ∀ d k n p a s, k + d = 4 → d < n → p ≤ 1000 → FC s σ → s 157 4 = nI p → ∃ s', f_X6_findNumber_b6 n (nI row) (nI col) sg (nI a) (nI k) s = f_X6_findNumber_b57 (nI row) (nI col) sg (nI (nmF tx L d p a).1) (nI (k + ((nmF tx L d p a).2 - p))) s' ∧ FC s' σ ∧ s' 157 4 = nI (nmF tx L d p a).2 ∧ s' 159 = s 159 ∧ s' 160 = s 160 := by
  intro d
  induction d with
  | zero =>
    intro k n p a s hk hn hp hF h4
    obtain ⟨n, rfl⟩ : ∃ m, n = m + 1 := ⟨n - 1, by omega⟩
    have : k = 4 := by omega
    subst this
    refine ⟨s, ?_, hF, h4, rfl, rfl⟩
    rw [f_X6_findNumber_b6, if_pos (show (4 : Int32) ≤ nI 4 from by decide)]
    show _ = f_X6_findNumber_b57 (nI row) (nI col) sg (nI a) (nI (4 + (p - p))) s
    rw [Nat.sub_self]
  | succ d ih =>
    intro k n p a s hk hn hp hF h4
    obtain ⟨n, rfl⟩ : ∃ m, n = m + 1 := ⟨n - 1, by omega⟩
    have hs := sgn_lt (tx := tx) (L := L) (p := p) hb
    have ht := hF.tx hT
    rw [f_X6_findNumber_b6, if_neg (show ¬ (4 : Int32) ≤ nI k from nI_ge (b := 4) (by omega) (by decide)), c_sign ht hL (by omega) h4, fcall_ok, p_isOutside]
    unfold nmF
    by_cases h : 48 ≤ sgn tx L p ∧ sgn tx L p ≤ 57
    · have hin : (48 : Int32) ≤ nI (sgn tx L p) ∧ nI (sgn tx L p) ≤ 57 := ⟨nI_le (a := 48) h.1 (by omega), nI_le (b := 57) h.2 (by decide)⟩
      rw [if_pos h, if_pos hin, fcall_ok, if_pos rfl, c_sign ht hL (by omega) h4, fcall_ok, fL_ok, h4, nI_1, nI_1, show nI a * (10 : Int32) = nI (a * 10) from nI_mul a 10, nI_add, show nI (a * 10 + sgn tx L p) - (48 : Int32) = nI (a * 10 + sgn tx L p - 48) from nI_sub (b := 48) (by omega)]
      obtain ⟨s', e, f1, f2, f3, f4⟩ := ih (k + 1) n (p + 1) (a * 10 + sgn tx L p - 48) (fu s 157 4 (nI (p + 1))) (by omega) (by omega) (by
        have := sgn_pos (tx := tx) (L := L) (p := p) (by omega)
        omega) ⟨fun q x y z => by rw [fu_cell x]; exact hF.1 q x y z, fun j hj => by rw [fu_slot hj]; exact hF.2 j hj⟩ (fu_self _ _ _ _)
      refine ⟨s', ?_, f1, f2, by rw [f3, fu_cell (by decide)], by rw [f4, fu_cell (by decide)]⟩
      have hb2 := (nmF_b (tx := tx) (L := L) d (p + 1) (a * 10 + sgn tx L p - 48)).1
      rw [show k + ((nmF tx L d (p + 1) (a * 10 + sgn tx L p - 48)).2 - p) = k + 1 + ((nmF tx L d (p + 1) (a * 10 + sgn tx L p - 48)).2 - (p + 1)) by omega]
      exact e
    · have hin : ¬ ((48 : Int32) ≤ nI (sgn tx L p) ∧ nI (sgn tx L p) ≤ 57) := fun e => h ⟨(nI_leI (a := 48) (by decide) (by omega)).mp e.1, (nI_leI (b := 57) (by omega) (by decide)).mp e.2⟩
      rw [if_neg h, if_neg hin, fcall_ok, if_neg (by decide)]
      refine ⟨s, ?_, hF, h4, rfl, rfl⟩
      rw [Nat.sub_self, Nat.add_zero]
theorem c_num {σ : fS} {tx : Nat → Nat} {L row col R p : Nat} {sg : Int32} {s : fS} (hT : TXc σ tx L) (hL : L ≤ 60) (hb : ∀ i, i < L → tx i ≤ 126) (hF : FC s σ) (h4 : s 157 4 = nI p) (hp : p ≤ L) (hR : s 159 3 = nI R) (hR2 : R ≤ 12) (hr : row < R) (hc : col < 6) : ∃ s', f_X6_findNumber (nI row) (nI col) sg s = some (bI (decide (p < (nmF tx L 4 p 0).2)), s') ∧ FC s' σ ∧ s' 157 4 = nI (nmF tx L 4 p 0).2 ∧ s' 159 = s 159 ∧ s' 160 = upd (s 160) (row * 6 + col) (sg * nI (nmF tx L 4 p 0).1) := by
  obtain ⟨s1, e, f1, f2, f3, f4⟩ := c_numL (row := row) (col := col) (sg := sg) hT hL hb 4 0 fN p 0 s rfl (by unfold fN; decide) (by omega) hF h4
  have e : f_X6_findNumber (nI row) (nI col) sg s = _ := e
  obtain ⟨b1, b2⟩ := nmF_b (tx := tx) (L := L) 4 p 0
  have b2 := b2 hp
  rw [e]
  unfold f_X6_findNumber_b57
  rw [p_eput rfl (by rw [f3]; exact hR) hR2 hr hc, fcallv_ok, Nat.zero_add]
  refine ⟨fu s1 160 (row * 6 + col) (sg * nI (nmF tx L 4 p 0).1), ?_, ⟨fun q x y z => by rw [fu_cell z]; exact f1.1 q x y z, fun j hj => by rw [fu_cell (by decide)]; exact f1.2 j hj⟩, by rw [fu_cell (by decide)]; exact f2, by rw [fu_cell (by decide)]; exact f3, by rw [fu_row, f4]⟩
  by_cases h : p < (nmF tx L 4 p 0).2
  · rw [if_neg (nI_nle (by omega) (by omega)), decide_eq_true h]; rfl
  · rw [if_pos (show nI ((nmF tx L 4 p 0).2 - p) ≤ (0 : Int32) from by rw [show (nmF tx L 4 p 0).2 - p = 0 by omega]; decide), decide_eq_false h]; rfl
/-- the numbers of an entry, the class -/
theorem c_nums {σ : fS} {tx : Nat → Nat} {L row k cnt : Nat} (hT : TXc σ tx L) (hL : L ≤ 60) (hb : ∀ i, i < L → tx i ≤ 126) (hrow : row < 12) (hk : k ≤ 126) (hcnt : cnt = 2 ∨ cnt = 3 ∨ cnt = 4) : ∀ d i n p v s, i + d = cnt → d < n → p ≤ L → FC s σ → s 157 4 = nI p → s 159 3 = nI (row + 1) → (∀ c, c < 4 → s 160 (row * 6 + c) = v c) → ∃ s', f_X6_findEntry_b69 n (nI k) (nI cnt) (nI row) (nI i) s = some (bI (pNs tx L k cnt d i p v).1, s') ∧ FC s' σ ∧ s' 157 4 = nI (pNs tx L k cnt d i p v).2.1 ∧ s' 159 = s 159 ∧ (∀ c, c < 4 → s' 160 (row * 6 + c) = (pNs tx L k cnt d i p v).2.2 c) ∧ ∀ j, (j < row * 6 ∨ row * 6 + 4 ≤ j) → s' 160 j = s 160 j := by
  intro d
  induction d with
  | zero =>
    intro i n p v s hi hn hp hF h4 hR hv
    obtain ⟨n, rfl⟩ : ∃ m, n = m + 1 := ⟨n - 1, by omega⟩
    have : i = cnt := by omega
    subst this
    rw [f_X6_findEntry_b69, if_pos (nI_le (Nat.le_refl _) (by omega))]
    exact ⟨s, rfl, hF, h4, rfl, hv, fun _ _ => rfl⟩
  | succ d ih =>
    intro i n p v s hi hn hp hF h4 hR hv
    obtain ⟨n, rfl⟩ : ∃ m, n = m + 1 := ⟨n - 1, by omega⟩
    have ht := hF.tx hT
    have hi4 : i < 4 := by omega
    unfold pNs
    -- behind the separator
    have b144 : ∀ (sg : Int32) (t : fS), ¬ (0 < i ∧ sgn tx L p ≠ sepN cnt) → FC t σ → t 157 4 = nI (p2F tx L k i p) → t 159 = s 159 → t 160 = s 160 → sg * nI (nmF tx L 4 (p2F tx L k i p) 0).1 = vaF tx L k i p → ∃ s', f_X6_findEntry_b144 (fun v2 v3 v4 v5 σ => f_X6_findEntry_b69 n v2 v3 v4 v5 σ) (nI k) (nI cnt) (nI row) (nI i) sg (nI i) (nI row) t = some (bI (if p2F tx L k i p < (nmF tx L 4 (p2F tx L k i p) 0).2 then pNs tx L k cnt d (i + 1) (nmF tx L 4 (p2F tx L k i p) 0).2 (up1 v i (vaF tx L k i p)) else (false, (nmF tx L 4 (p2F tx L k i p) 0).2, up1 v i (vaF tx L k i p))).1, s') ∧ FC s' σ ∧ s' 157 4 = nI (if p2F tx L k i p < (nmF tx L 4 (p2F tx L k i p) 0).2 then pNs tx L k cnt d (i + 1) (nmF tx L 4 (p2F tx L k i p) 0).2 (up1 v i (vaF tx L k i p)) else (false, (nmF tx L 4 (p2F tx L k i p) 0).2, up1 v i (vaF tx L k i p))).2.1 ∧ s' 159 = s 159 ∧ (∀ c, c < 4 → s' 160 (row * 6 + c) = (if p2F tx L k i p < (nmF tx L 4 (p2F tx L k i p) 0).2 then pNs tx L k cnt d (i + 1) (nmF tx L 4 (p2F tx L k i p) 0).2 (up1 v i (vaF tx L k i p)) else (false, (nmF tx L 4 (p2F tx L k i p) 0).2, up1 v i (vaF tx L k i p))).2.2 c) ∧ ∀ j, (j < row * 6 ∨ row * 6 + 4 ≤ j) → s' 160 j = s 160 j := fun sg t hsep tF t4 t9 t0 hsv => by
      obtain ⟨a1, a2, a3⟩ := p2F_b (k := k) hp hsep
      obtain ⟨s1, e1, f1, f2, f3, f4⟩ := c_num (row := row) (col := i) (R := row + 1) (sg := sg) hT hL hb tF t4 a3 (by rw [t9]; exact hR) (by omega) (by omega) (by omega)
      have hb2 := (nmF_b (tx := tx) (L := L) 4 (p2F tx L k i p) 0).2 a3
      have w1 : ∀ c, c < 4 → s1 160 (row * 6 + c) = up1 v i (vaF tx L k i p) c := fun c hc => by
        rw [f4, hsv]
        by_cases hci : c = i
        · subst hci; rw [upd_self, up1_self]
        · rw [upd_ne (by omega), up1_ne hci, t0]; exact hv c hc
      have w2 : ∀ j, (j < row * 6 ∨ row * 6 + 4 ≤ j) → s1 160 j = s 160 j := fun j hj => by rw [f4, upd_ne (by omega), t0]
      unfold f_X6_findEntry_b144
      rw [e1, fcall_ok]
      by_cases h2 : p2F tx L k i p < (nmF tx L 4 (p2F tx L k i p) 0).2
      · rw [decide_eq_true h2, if_neg bI_t, nI_1, if_pos h2]
        obtain ⟨s2, e2, g1, g2, g3, g4, g5⟩ := ih (i + 1) n (nmF tx L 4 (p2F tx L k i p) 0).2 (up1 v i (vaF tx L k i p)) s1 (by omega) (by omega) hb2 f1 f2 (by rw [f3, t9]; exact hR) w1
        exact ⟨s2, e2, g1, g2, by rw [g3, f3, t9], g4, fun j hj => by rw [g5 j hj]; exact w2 j hj⟩
      · rw [decide_eq_false h2, if_pos bI_f, if_neg h2]
        exact ⟨s1, rfl, f1, f2, by rw [f3, t9], w1, w2⟩
    have b101 : ∀ t : fS, ¬ (0 < i ∧ sgn tx L p ≠ sepN cnt) → FC t σ → t 157 4 = nI (p1F i p) → t 159 = s 159 → t 160 = s 160 → ∃ s', f_X6_findEntry_b101 (fun v2 v3 v4 v5 σ => f_X6_findEntry_b69 n v2 v3 v4 v5 σ) (nI k) (nI cnt) (nI row) (nI i) t = some (bI (if p2F tx L k i p < (nmF tx L 4 (p2F tx L k i p) 0).2 then pNs tx L k cnt d (i + 1) (nmF tx L 4 (p2F tx L k i p) 0).2 (up1 v i (vaF tx L k i p)) else (false, (nmF tx L 4 (p2F tx L k i p) 0).2, up1 v i (vaF tx L k i p))).1, s') ∧ FC s' σ ∧ s' 157 4 = nI (if p2F tx L k i p < (nmF tx L 4 (p2F tx L k i p) 0).2 then pNs tx L k cnt d (i + 1) (nmF tx L 4 (p2F tx L k i p) 0).2 (up1 v i (vaF tx L k i p)) else (false, (nmF tx L 4 (p2F tx L k i p) 0).2, up1 v i (vaF tx L k i p))).2.1 ∧ s' 159 = s 159 ∧ (∀ c, c < 4 → s' 160 (row * 6 + c) = (if p2F tx L k i p < (nmF tx L 4 (p2F tx L k i p) 0).2 then pNs tx L k cnt d (i + 1) (nmF tx L 4 (p2F tx L k i p) 0).2 (up1 v i (vaF tx L k i p)) else (false, (nmF tx L 4 (p2F tx L k i p) 0).2, up1 v i (vaF tx L k i p))).2.2 c) ∧ ∀ j, (j < row * 6 ∨ row * 6 + 4 ≤ j) → s' 160 j = s 160 j := fun t hsep tF t4 t9 t0 => by
      obtain ⟨a1, a2, a3⟩ := p2F_b (k := k) hp hsep
      unfold f_X6_findEntry_b101 f_X6_findEntry_b126 f_X6_findEntry_b127
      have plain : ngB tx L k i (p1F i p) = false → ∃ s', f_X6_findEntry_b144 (fun v2 v3 v4 v5 σ => f_X6_findEntry_b69 n v2 v3 v4 v5 σ) (nI k) (nI cnt) (nI row) (nI i) 1 (nI i) (nI row) t = _ ∧ _ := fun hg => b144 1 t hsep tF (by unfold p2F; rw [hg]; exact t4) t9 t0 (by unfold vaF; rw [hg]; rfl)
      by_cases hk1 : k = 116
      · rw [if_pos (by rw [hk1]; rfl)]
        by_cases hi1 : i = 1
        · rw [if_pos (by rw [hi1]; rfl), c_passes (x := 45) (ch := 45) rfl (by decide) (tF.tx hT) hL hb (by omega) t4]
          by_cases hc : sgn tx L (p1F i p) = 45
          · have hg : ngB tx L k i (p1F i p) = true := decide_eq_true ⟨hk1, hi1, hc⟩
            rw [if_pos hc, fcall_ok, if_neg (by decide), if_neg (by decide)]
            exact b144 (-1) _ hsep ⟨fun q x y z => by rw [fu_cell x]; exact tF.1 q x y z, fun j hj => by rw [fu_slot hj]; exact tF.2 j hj⟩ (by unfold p2F; rw [hg, fu_self]; rfl) (by rw [fu_cell (by decide)]; exact t9) (by rw [fu_cell (by decide)]; exact t0) (by unfold vaF; rw [hg]; rfl)
          · have hg : ngB tx L k i (p1F i p) = false := decide_eq_false (fun e => hc e.2.2)
            rw [if_neg hc, fcall_ok, if_pos rfl, if_pos rfl]
            exact plain hg
        · rw [if_neg (show ¬ nI i = (1 : Int32) from fun e => hi1 (nI_inj (b := 1) (by omega) (by decide) e)), if_pos rfl]
          exact plain (decide_eq_false (fun e => hi1 e.2.1))
      · rw [if_neg (show ¬ nI k = (116 : Int32) from fun e => hk1 (nI_inj (b := 116) (by omega) (by decide) e)), if_pos rfl]
        exact plain (decide_eq_false (fun e => hk1 e.1))
    rw [f_X6_findEntry_b69, if_neg (nI_ge (by omega) (by omega))]
    by_cases hi0 : i = 0
    · have hsep : ¬ (0 < i ∧ sgn tx L p ≠ sepN cnt) := fun e => by omega
      rw [if_neg hsep, if_pos (show nI i ≤ (0 : Int32) from by rw [hi0]; decide)]
      exact b101 s hsep hF (by unfold p1F; rw [if_neg (by omega)]; exact h4) rfl rfl
    · rw [if_neg (nI_nle (by omega) (by omega))]
      have b93 : ∀ x : Int32, x = nI (sepN cnt) → ∃ s', f_X6_findEntry_b93 (fun v2 v3 v4 v5 σ => f_X6_findEntry_b69 n v2 v3 v4 v5 σ) (nI k) (nI cnt) (nI row) (nI i) x s = some (bI (if 0 < i ∧ sgn tx L p ≠ sepN cnt then (false, p, v) else if p2F tx L k i p < (nmF tx L 4 (p2F tx L k i p) 0).2 then pNs tx L k cnt d (i + 1) (nmF tx L 4 (p2F tx L k i p) 0).2 (up1 v i (vaF tx L k i p)) else (false, (nmF tx L 4 (p2F tx L k i p) 0).2, up1 v i (vaF tx L k i p))).1, s') ∧ FC s' σ ∧ s' 157 4 = nI (if 0 < i ∧ sgn tx L p ≠ sepN cnt then (false, p, v) else if p2F tx L k i p < (nmF tx L 4 (p2F tx L k i p) 0).2 then pNs tx L k cnt d (i + 1) (nmF tx L 4 (p2F tx L k i p) 0).2 (up1 v i (vaF tx L k i p)) else (false, (nmF tx L 4 (p2F tx L k i p) 0).2, up1 v i (vaF tx L k i p))).2.1 ∧ s' 159 = s 159 ∧ (∀ c, c < 4 → s' 160 (row * 6 + c) = (if 0 < i ∧ sgn tx L p ≠ sepN cnt then (false, p, v) else if p2F tx L k i p < (nmF tx L 4 (p2F tx L k i p) 0).2 then pNs tx L k cnt d (i + 1) (nmF tx L 4 (p2F tx L k i p) 0).2 (up1 v i (vaF tx L k i p)) else (false, (nmF tx L 4 (p2F tx L k i p) 0).2, up1 v i (vaF tx L k i p))).2.2 c) ∧ ∀ j, (j < row * 6 ∨ row * 6 + 4 ≤ j) → s' 160 j = s 160 j := fun x hx => by
        have hsl : sepN cnt < 200 := by unfold sepN; split <;> decide
        unfold f_X6_findEntry_b93
        rw [c_passes hx hsl ht hL hb (by omega) h4]
        by_cases hc : sgn tx L p = sepN cnt
        · have hsep : ¬ (0 < i ∧ sgn tx L p ≠ sepN cnt) := fun e => e.2 hc
          rw [if_pos hc, fcall_ok, if_neg (by decide), if_neg hsep]
          exact b101 _ hsep ⟨fun q x y z => by rw [fu_cell x]; exact hF.1 q x y z, fun j hj => by rw [fu_slot hj]; exact hF.2 j hj⟩ (by unfold p1F; rw [if_pos (by omega), fu_self]) (by rw [fu_cell (by decide)]) (by rw [fu_cell (by decide)])
        · rw [if_neg hc, fcall_ok, if_pos rfl, if_pos ⟨by omega, hc⟩]
          exact ⟨s, rfl, hF, h4, rfl, hv, fun _ _ => rfl⟩
      by_cases hc2 : cnt = 2
      · rw [if_pos (by rw [hc2]; rfl)]
        exact b93 61 (by unfold sepN; rw [if_pos hc2]; rfl)
      · rw [if_neg (show ¬ nI cnt = (2 : Int32) from fun e => hc2 (nI_inj (b := 2) (by omega) (by decide) e))]
        exact b93 44 (by unfold sepN; rw [if_neg hc2]; rfl)

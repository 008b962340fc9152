/-! ===== bestBerth ===== -/
def pB (P : aP) (c j : Nat) : aP := setT P 2 ((P.1 2).set c [tg (P.1 2) c 0, j, tg (P.1 2) c 2, tg (P.1 2) c 3])
theorem pB_2 (P : aP) (c j : Nat) : (pB P c j).1 2 = (P.1 2).set c [tg (P.1 2) c 0, j, tg (P.1 2) c 2, tg (P.1 2) c 3] := setT_self _ _ _
theorem pB_o (P : aP) (c j q : Nat) (h : q ≠ 2) : (pB P c j).1 q = P.1 q := setT_ne h
theorem pB_tg {P : aP} {c j q w : Nat} (hc : c < (P.1 2).length) (hw : w < 4) : tg ((pB P c j).1 2) q w = if q = c ∧ w = 1 then j else tg (P.1 2) q w := by
  rw [pB_2, tg_set hc]
  by_cases h : q = c
  · subst h
    rw [if_pos rfl]
    rcases (show w = 0 ∨ w = 1 ∨ w = 2 ∨ w = 3 by omega) with rfl | rfl | rfl | rfl
    · rw [if_neg (by omega)]; rfl
    · rw [if_pos ⟨rfl, rfl⟩]; rfl
    · rw [if_neg (by omega)]; rfl
    · rw [if_neg (by omega)]; rfl
  · rw [if_neg h, if_neg (fun e => h e.1)]
theorem pB_len (P : aP) (c j : Nat) : ((pB P c j).1 2).length = (P.1 2).length := by rw [pB_2, List.length_set]
theorem pB_ok {P : aP} (hok : aOK P) {c j : Nat} (hc : c < (P.1 2).length) (hj : j < (P.1 1).length) : aOK (pB P c j) := by
  obtain ⟨hz, h0, h1, h2, h3, h4, h5⟩ := hok
  refine ⟨fun q hq => ?_, ?_, ?_, ?_, ?_, ?_, h5⟩
  · by_cases h : q = 2
    · subst h; rw [pB_len]; exact hz 2 hq
    · rw [pB_o _ _ _ _ h]; exact hz q hq
  · rw [pB_o _ _ _ _ (by decide)]; exact h0
  · rw [pB_o _ _ _ _ (by decide)]; exact h1
  · rw [pB_len, pB_o _ _ _ 0 (by decide), pB_o _ _ _ 1 (by decide)]
    intro i hi
    rw [pB_tg hc (by decide), pB_tg hc (by decide), pB_tg hc (by decide), pB_tg hc (by decide)]
    have := h2 i hi
    by_cases hic : i = c
    · rw [if_neg (by omega), if_pos ⟨hic, rfl⟩, if_neg (by omega), if_neg (by omega)]
      exact ⟨this.1, hj, this.2.2⟩
    · rw [if_neg (by omega), if_neg (by omega), if_neg (by omega), if_neg (by omega)]
      exact this
  · rw [pB_len, pB_o _ _ _ 3 (by decide)]; exact h3
  · rw [pB_len, pB_o _ _ _ 4 (by decide)]; exact h4
theorem GV.pB {g g' : Nat → Int32} {P : aP} (hg : GV g P) (hz : aSz P) {c j : Nat} (hc : c < (P.1 2).length) (h1 : ∀ k, k ≠ 124 + 4 * c → g' k = g k) (h2 : g' (124 + 4 * c) = nI j) : GV g' (pB P c j) := by
  have hl : (P.1 2).length ≤ 12 := hz 2 (by decide)
  refine hg.setT (j := 2) (by decide) hz ?_ (fun i hi w hw => ?_) (fun k hk hd => ?_)
  · show g' 122 = _
    rw [h1 122 (by omega), List.length_set]
    exact (hg.1 2 (by decide)).1
  · rw [List.length_set] at hi
    have hw : w < 4 := hw
    have := pB_tg (j := j) (q := i) hc hw
    rw [pB_2] at this
    show g' (122 + 1 + 4 * i + w) = _
    rw [this]
    by_cases h : i = c ∧ w = 1
    · rw [if_pos h, h.1, h.2, show 122 + 1 + 4 * c + 1 = 124 + 4 * c by omega]
      exact h2
    · rw [if_neg h, h1 _ (by omega)]
      exact (hg.1 2 (by decide)).2 i hi w hw
  · have hd : k < 122 ∨ 122 + 1 + 4 * 12 ≤ k := hd
    exact h1 k (by omega)
theorem PV.pB {σ σ' : fS} {P : aP} (hp : PV 16 σ P) {c j : Nat} (hc : c < (P.1 2).length) (h0 : ∀ q, 16 ≤ q → q < 31 → q ≠ 22 → σ' q = σ q) (h1 : ∀ k, k ≠ c * 4 + 1 → σ' 22 k = σ 22 k) (h2 : σ' 22 (c * 4 + 1) = nI j) : PV 16 σ' (pB P c j) := by
  have tv : TV σ 21 4 (P.1 2) := hp.1 2 (by decide)
  refine hp.set (j := 2) (by decide) ⟨?_, fun i hi w hw => ?_⟩ (fun q a b x y => h0 q a (by omega) (by omega))
  · show σ' 21 3 = _
    rw [h0 21 (by decide) (by decide) (by decide), List.length_set]
    exact tv.1
  · rw [List.length_set] at hi
    have hw : w < 4 := hw
    have := pB_tg (j := j) (q := i) hc hw
    rw [pB_2] at this
    show σ' 22 (i * 4 + w) = _
    rw [this]
    by_cases h : i = c ∧ w = 1
    · rw [if_pos h, h.1, h.2]
      exact h2
    · rw [if_neg h, h1 _ (by omega)]
      exact tv.2 i hi w hw
def cBo (P : aP) (c i : Nat) : Nat := sumN (gBA (pB P c i)) 0 ((pB P c i).1 3).length
def bF (P : aP) (c : Nat) : Nat → Option (Nat × Nat)
  | 0 => none
  | i + 1 => match bF P c i with
    | none => some (i, cBo P c i)
    | some (b, m) => if cBo P c i ≤ m then some (b, m) else some (i, cBo P c i)
theorem bF_le {P : aP} {c : Nat} (h24 : ∀ i, cBo P c i ≤ 24) : ∀ i b m, bF P c i = some (b, m) → b < i ∧ m ≤ 24 := by
  intro i
  induction i with
  | zero => intro b m h; cases h
  | succ i ih =>
    intro b m h
    unfold bF at h
    have h24i := h24 i
    split at h
    · cases h; exact ⟨by omega, h24i⟩
    · rename_i b' m' he
      split at h
      · cases h
        have := ih b m he
        exact ⟨by omega, this.2⟩
      · cases h; exact ⟨by omega, h24i⟩
theorem bF_some {P : aP} {c : Nat} : ∀ i, 0 < i → ∃ b m, bF P c i = some (b, m) := by
  intro i hi
  obtain ⟨i, rfl⟩ : ∃ q, i = q + 1 := ⟨i - 1, by omega⟩
  unfold bF
  split
  · exact ⟨_, _, rfl⟩
  · split
    · exact ⟨_, _, rfl⟩
    · exact ⟨_, _, rfl⟩
def bBe (e : Int32) : Option (Nat × Nat) → Int32
  | none => e
  | some (b, _) => nI b
def bMo : Option (Nat × Nat) → Int32
  | none => -1
  | some (_, m) => nI m
theorem nI_nle1 {n : Nat} (h : n < 2 ^ 31) : ¬ nI n ≤ -1 := fun e => nI_pos h (Int32.lt_of_le_of_lt e (by decide))
theorem bF_step {P : aP} {c i : Nat} (h24 : ∀ i, cBo P c i ≤ 24) (e : Int32) : (nI (cBo P c i) ≤ bMo (bF P c i) → bBe e (bF P c (i + 1)) = bBe e (bF P c i) ∧ bMo (bF P c (i + 1)) = bMo (bF P c i)) ∧ (¬ nI (cBo P c i) ≤ bMo (bF P c i) → bBe e (bF P c (i + 1)) = nI i ∧ bMo (bF P c (i + 1)) = nI (cBo P c i)) := by
  have h1 := h24 i
  have h2 := bF_le h24 i
  show (_ → bBe e (match bF P c i with
    | none => some (i, cBo P c i)
    | some (b, m) => if cBo P c i ≤ m then some (b, m) else some (i, cBo P c i)) = _ ∧ bMo (match bF P c i with
    | none => some (i, cBo P c i)
    | some (b, m) => if cBo P c i ≤ m then some (b, m) else some (i, cBo P c i)) = _) ∧ (_ → bBe e (match bF P c i with
    | none => some (i, cBo P c i)
    | some (b, m) => if cBo P c i ≤ m then some (b, m) else some (i, cBo P c i)) = _ ∧ bMo (match bF P c i with
    | none => some (i, cBo P c i)
    | some (b, m) => if cBo P c i ≤ m then some (b, m) else some (i, cBo P c i)) = _)
  cases hb : bF P c i with
  | none => exact ⟨fun h => absurd h (nI_nle1 (by omega)), fun _ => ⟨rfl, rfl⟩⟩
  | some t =>
    obtain ⟨b, m⟩ := t
    have := h2 b m hb
    by_cases hm : cBo P c i ≤ m
    · refine ⟨fun _ => ?_, fun h => absurd (nI_le hm (by omega)) h⟩
      show bBe e (if cBo P c i ≤ m then some (b, m) else some (i, cBo P c i)) = _ ∧ bMo (if cBo P c i ≤ m then some (b, m) else some (i, cBo P c i)) = _
      rw [if_pos hm]
      exact ⟨rfl, rfl⟩
    · refine ⟨fun h => absurd h (nI_ge (by omega) (by omega)), fun _ => ?_⟩
      show bBe e (if cBo P c i ≤ m then some (b, m) else some (i, cBo P c i)) = _ ∧ bMo (if cBo P c i ≤ m then some (b, m) else some (i, cBo P c i)) = _
      rw [if_neg hm]
      exact ⟨rfl, rfl⟩
theorem cBo_le {P : aP} (hok : aOK P) (c i : Nat) : cBo P c i ≤ 24 := by
  have z3 : (P.1 3).length ≤ 24 := hok.1 3 (by decide)
  unfold cBo
  rw [pB_o _ _ _ 3 (by decide)]
  have := sumN_le (g := gBA (pB P c i)) (h := fun _ => 1) (P.1 3).length 0 (fun k _ _ => by unfold gBA; split <;> omega)
  rw [sumN_one] at this
  omega
theorem c_best {σ : fS} {P : aP} (hp : PV 16 σ P) (hok : aOK P) {c : Nat} (hc : c < (P.1 2).length) : ∃ σ', f_X7_bestBerth_b36 fN (nI c) 0 (-1) 0 σ = some (bBe 0 (bF P c (P.1 1).length), σ') ∧ ∀ q, q < 16 ∨ (31 ≤ q ∧ q < 138) ∨ 157 ≤ q → σ' q = σ q := by
  have z1 : (P.1 1).length ≤ 3 := hok.1 1 (by decide)
  have z2 : (P.1 2).length ≤ 12 := hok.1 2 (by decide)
  have h24 := cBo_le hok c
  have key : ∀ d i n s, i + d = (P.1 1).length → d < n → (∀ q, q < 22 ∨ (23 ≤ q ∧ q < 138) ∨ 157 ≤ q → s q = σ q) → (∀ k, k ≠ c * 4 + 1 → s 22 k = σ 22 k) → ∃ σ', f_X7_bestBerth_b36 n (nI c) (bBe 0 (bF P c i)) (bMo (bF P c i)) (nI i) s = some (bBe 0 (bF P c (P.1 1).length), σ') ∧ ∀ q, q < 16 ∨ (31 ≤ q ∧ q < 138) ∨ 157 ≤ q → σ' q = σ q := by
    intro d
    induction d with
    | zero =>
      intro i n s hi hn h1 h2
      obtain ⟨n, rfl⟩ : ∃ m, n = m + 1 := ⟨n - 1, by omega⟩
      have : i = (P.1 1).length := by omega
      subst this
      have nb : s 19 3 = nI (P.1 1).length := by rw [h1 19 (by decide)]; exact (hp.1 1 (by decide)).1
      rw [f_X7_bestBerth_b36, p_size, fcall_ok, nb, if_pos (nI_le (Nat.le_refl _) (by omega))]
      exact ⟨s, rfl, fun q hq => h1 q (by omega)⟩
    | succ d ih =>
      intro i n s hi hn h1 h2
      obtain ⟨n, rfl⟩ : ∃ m, n = m + 1 := ⟨n - 1, by omega⟩
      have hi1 : i < (P.1 1).length := by omega
      have nb : s 19 3 = nI (P.1 1).length := by rw [h1 19 (by decide)]; exact (hp.1 1 (by decide)).1
      have nx : s 21 3 = nI (P.1 2).length := by rw [h1 21 (by decide)]; exact (hp.1 2 (by decide)).1
      have hokb := pB_ok hok hc hi1
      have p1 : PV 16 (fu s 22 (c * 4 + 1) (nI i)) (pB P c i) := hp.pB hc (fun q a b x => by rw [fu_cell x]; exact h1 q (by omega)) (fun k hk => by rw [fu_slot hk]; exact h2 k hk) (fu_self _ _ _ _)
      obtain ⟨s1, e1, f1, d1, -⟩ := c_make (b := 16) (by decide) p1 hokb
      have p2 : PV 16 s1 (pB P c i) := p1.of (fun q a x => f1 q (by omega))
      obtain ⟨s2, e2, f2, l2⟩ := c_load (b := 16) (by decide) p2 hokb d1
      have p3 : PV 16 s2 (pB P c i) := p2.of (fun q a x => f2 q (by omega))
      have hs : ∀ q, q < 22 ∨ (23 ≤ q ∧ q < 138) ∨ 157 ≤ q → s2 q = σ q := fun q hq => by rw [f2 q (by omega), f1 q (by omega), fu_cell (by omega)]; exact h1 q hq
      have hs2 : ∀ k, k ≠ c * 4 + 1 → s2 22 k = σ 22 k := fun k hk => by rw [f2 22 (by decide), f1 22 (by decide), fu_slot hk]; exact h2 k hk
      have ca : f_X2_countAllAboard 16 s2 = some (nI (cBo P c i), s2) := c_allAboard (b := 16) p3 hokb l2
      rw [f_X7_bestBerth_b36, p_size, fcall_ok, nb, if_neg (nI_ge hi1 (by omega)), p_put (t := 21) nx z2 (by decide) (by decide) (by decide) rfl (show (1 : Int32) = nI 1 from rfl) hc (by decide), fcallv_ok, e1, fcallv_ok, e2, fcallv_ok, ca, fcall_ok]
      unfold f_X7_bestBerth_b116
      have st := bF_step (P := P) (c := c) (i := i) h24 0
      have ih' := ih (i + 1) n s2 (by omega) (by omega) hs hs2
      by_cases hm : nI (cBo P c i) ≤ bMo (bF P c i)
      · obtain ⟨x, y⟩ := st.1 hm
        rw [if_pos hm, nI_1, ← x, ← y]
        exact ih'
      · obtain ⟨x, y⟩ := st.2 hm
        rw [if_neg hm, nI_1]
        rw [x, y] at ih'
        exact ih'
  exact key (P.1 1).length 0 fN σ (Nat.zero_add _) (by unfold fN; omega) (fun _ _ => rfl) (fun _ _ => rfl)
theorem m_best {σ : fS} {P : aP} (hg : GV (σ 165) P) (hok : aOK P) {c : Nat} (hc : c < (P.1 2).length) : ∃ σ', f_X8_bestBerth_b27 fN (nI c) (σ 165 (124 + 4 * c)) (-1) (-1) 0 σ = some (bBe (-1) (bF P c (P.1 1).length), σ') ∧ ∀ q, q < 171 ∨ 185 ≤ q → σ' q = σ q := by
  have z1 : (P.1 1).length ≤ 3 := hok.1 1 (by decide)
  have z2 : (P.1 2).length ≤ 12 := hok.1 2 (by decide)
  have h24 := cBo_le hok c
  have ix : (123 : Int32) + (4 : Int32) * nI c + (1 : Int32) = nI (124 + 4 * c) := by rw [show (123 : Int32) = nI 123 from rfl, show (4 : Int32) = nI 4 from rfl, nI_mul, nI_add, nI_1, show 123 + 4 * c + 1 = 124 + 4 * c by omega]
  have key : ∀ d i n s, i + d = (P.1 1).length → d < n → (∀ q, q ≠ 165 → (q < 171 ∨ 185 ≤ q) → s q = σ q) → (∀ k, k ≠ 124 + 4 * c → s 165 k = σ 165 k) → ∃ σ', f_X8_bestBerth_b27 n (nI c) (σ 165 (124 + 4 * c)) (bBe (-1) (bF P c i)) (bMo (bF P c i)) (nI i) s = some (bBe (-1) (bF P c (P.1 1).length), σ') ∧ ∀ q, q < 171 ∨ 185 ≤ q → σ' q = σ q := by
    intro d
    induction d with
    | zero =>
      intro i n s hi hn h1 h2
      obtain ⟨n, rfl⟩ : ∃ m, n = m + 1 := ⟨n - 1, by omega⟩
      have : i = (P.1 1).length := by omega
      subst this
      have nb : s 165 (115 : Int32).toNatClampNeg = nI (P.1 1).length := by rw [show (115 : Int32).toNatClampNeg = 115 from rfl, h2 115 (by omega)]; exact (hg.1 1 (by decide)).1
      rw [f_X8_bestBerth_b27, fb115, nb, if_pos (nI_le (Nat.le_refl _) (by omega)), ix, fb_x rfl (by omega) (by decide), fL_ok, nI_clamp (by omega)]
      refine ⟨_, rfl, fun q hq => ?_⟩
      by_cases hq5 : q = 165
      · subst hq5
        funext k
        by_cases hk : k = 124 + 4 * c
        · subst hk; rw [fu_self]
        · rw [fu_slot hk]; exact h2 k hk
      · rw [fu_cell hq5]; exact h1 q hq5 hq
    | succ d ih =>
      intro i n s hi hn h1 h2
      obtain ⟨n, rfl⟩ : ∃ m, n = m + 1 := ⟨n - 1, by omega⟩
      have hi1 : i < (P.1 1).length := by omega
      have nb : s 165 (115 : Int32).toNatClampNeg = nI (P.1 1).length := by rw [show (115 : Int32).toNatClampNeg = 115 from rfl, h2 115 (by omega)]; exact (hg.1 1 (by decide)).1
      have hokb := pB_ok hok hc hi1
      have g1 : GV (fu s 165 (124 + 4 * c) (nI i) 165) (pB P c i) := hg.pB hok.1 hc (fun k hk => by rw [fu_slot hk]; exact h2 k hk) (fu_self _ _ _ _)
      obtain ⟨s3, e3, g3, d3, l3, r3, f3⟩ := run3 g1 hokb
      have ca : f_X8_allAboard s3 = some (nI (cBo P c i), s3) := m_allAboard g3 hokb l3
      rw [f_X8_bestBerth_b27, fb115, nb, if_neg (nI_ge hi1 (by omega)), ix, fb_x rfl (by omega) (by decide), fL_ok, nI_clamp (by omega), e3, fcallv_ok, ca, fcall_ok]
      unfold f_X8_bestBerth_b76
      have st := bF_step (P := P) (c := c) (i := i) h24 (-1)
      have ih' := ih (i + 1) n s3 (by omega) (by omega) (fun q a x => by rw [f3 q x, fu_cell a]; exact h1 q a x) (fun k hk => by rw [f3 165 (by decide), fu_slot hk]; exact h2 k hk)
      by_cases hm : nI (cBo P c i) ≤ bMo (bF P c i)
      · obtain ⟨x, y⟩ := st.1 hm
        rw [if_pos hm, nI_1, ← x, ← y]
        exact ih'
      · obtain ⟨x, y⟩ := st.2 hm
        rw [if_neg hm, ca, fcall_ok, nI_1]
        rw [x, y] at ih'
        exact ih'
  exact key (P.1 1).length 0 fN σ (Nat.zero_add _) (by unfold fN; omega) (fun _ _ _ => rfl) (fun _ _ => rfl)
theorem st_34 : ∀ (σ : fS) (x1 : Int32), LI σ → ∃ (r : Int32) (σ1 σ2 : fS), f_X7_bestBerth x1 σ = some (r, σ1) ∧ f_X8_bestBerth x1 σ1 = some (r, σ2) ∧ LI σ2 := by
  intro σ x1 hLI
  obtain ⟨⟨P, k, F, hPV, hGV, hok, -⟩, -⟩ := id hLI
  have z2 : (P.1 2).length ≤ 12 := hok.1 2 (by decide)
  have nc : σ 6 3 = nI (P.1 2).length := (hPV.1 2 (by decide)).1
  unfold f_X7_bestBerth f_X8_bestBerth
  rcases ix_cases x1 (n := (P.1 2).length) (by omega) with ⟨c, hc, rfl⟩ | o
  · obtain ⟨t1, k1, f1, p1⟩ := p_pcopy (b0 := 16) (b1 := 1) hPV hok.1 (Or.inr (by decide))
    obtain ⟨s1, e1, f2⟩ := c_best p1 hok hc
    have hs : ∀ q, q < 16 ∨ (31 ≤ q ∧ q < 138) ∨ 157 ≤ q → s1 q = σ q := fun q hq => by rw [f2 q hq, f1 q (by omega)]
    have g1 : GV (s1 165) P := by rw [hs 165 (by omega)]; exact hGV
    obtain ⟨s3, e3, f3⟩ := m_best g1 hok hc
    have hb : 0 < (P.1 1).length := by have := (hok.2.2.2.1 c hc).2.1; omega
    obtain ⟨bb, mm, hbb⟩ := bF_some (P := P) (c := c) _ hb
    rw [p_has1 nc (by omega) rfl hc, fcall_ok, if_neg (by decide), k1, fcallv_ok, e1]
    refine ⟨_, s1, s3, rfl, ?_, hLI.fin hs (fun q hq => f3 q (by omega))⟩
    have hm1 := mC1 g1 hok.1 hc
    have hd : s1 165 (124 + 4 * c) = nI (tg (P.1 2) c 1) := by
      have := (g1.1 2 (by decide)).2 c hc 1 (by decide)
      rw [show cnx 2 + 1 + wd 2 * c + 1 = 124 + 4 * c by show 122 + 1 + 4 * c + 1 = _; omega] at this
      exact this
    rw [p_isCrossing1 (gn (j := 2) (k := 122) g1 (by decide) rfl) (by omega) rfl hc, fcall_ok, if_neg (by decide), hm1, fcall_ok, ← hd, e3, hbb]
    rfl
  · rw [p_has0 nc o, fcall_ok, if_pos rfl]
    refine ⟨_, σ, σ, rfl, ?_, hLI⟩
    rw [p_isCrossing0 (gn (j := 2) (k := 122) hGV (by decide) rfl) (by omega) o, fcall_ok, if_pos rfl]

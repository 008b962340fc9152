/-! ===== the order of the crossings ===== -/
theorem sumN_le {g h : Nat → Nat} : ∀ d i, (∀ k, i ≤ k → k < i + d → g k ≤ h k) → sumN g i d ≤ sumN h i d := by
  intro d
  induction d with
  | zero => intro i _; exact Nat.le_refl _
  | succ d ih =>
    intro i hk
    unfold sumN
    have h1 := hk i (Nat.le_refl _) (by omega)
    have h2 := ih (i + 1) (fun k a b => hk k (by omega) (by omega))
    omega
theorem sumN_lt {g h : Nat → Nat} : ∀ d i m, (∀ k, i ≤ k → k < i + d → g k ≤ h k) → i ≤ m → m < i + d → g m < h m → sumN g i d < sumN h i d := by
  intro d
  induction d with
  | zero => intro i m _ a b; omega
  | succ d ih =>
    intro i m hk a b hm
    unfold sumN
    have h1 := hk i (Nat.le_refl _) (by omega)
    by_cases hmi : m = i
    · subst hmi
      have h2 := sumN_le (g := g) (h := h) d (m + 1) (fun k a b => hk k (by omega) (by omega))
      omega
    · have h2 := ih (i + 1) m (fun k a b => hk k (by omega) (by omega)) (by omega) (by omega) hm
      omega
theorem sumN_one : ∀ d i, sumN (fun _ => 1) i d = d := by
  intro d
  induction d with
  | zero => intro i; rfl
  | succ d ih =>
    intro i
    unfold sumN
    rw [ih (i + 1)]
    omega
/-- what is injective on the first n numbers, and stays among them, meets them all -/
theorem pigeon : ∀ (n : Nat) (f : Nat → Nat), (∀ i, i < n → f i < n) → (∀ i j, i < n → j < n → f i = f j → i = j) → ∀ m, m < n → ∃ i, i < n ∧ f i = m := by
  intro n
  induction n with
  | zero => intro f _ _ m hm; omega
  | succ n ih =>
    intro f hf hi m hm
    by_cases hn : ∃ k, k < n + 1 ∧ f k = m
    · exact hn
    · exfalso
      -- the values miss m: close the gap
      let g : Nat → Nat := fun i => if f i < m then f i else f i - 1
      have hg : ∀ i, i < n + 1 → f i ≠ m := fun i h e => hn ⟨i, h, e⟩
      have g1 : ∀ i, i < n + 1 → g i < n := fun i h => by
        have a := hf i h
        have b := hg i h
        show (if f i < m then f i else f i - 1) < n
        split <;> omega
      have g2 : ∀ i j, i < n + 1 → j < n + 1 → g i = g j → i = j := fun i j h1 h2 e => by
        refine hi i j h1 h2 ?_
        have a := hg i h1
        have b := hg j h2
        have e : (if f i < m then f i else f i - 1) = (if f j < m then f j else f j - 1) := e
        split at e <;> split at e <;> omega
      obtain ⟨k, hk, e⟩ := ih g (fun i h => g1 i (by omega)) (fun i j a b e => g2 i j (by omega) (by omega) e) (g n) (g1 n (by omega))
      have := g2 k n (by omega) (by omega) e
      omega
def bef (P : aP) (q c : Nat) : Bool := decide (tg (P.1 2) q 3 < tg (P.1 2) c 3) || (decide (tg (P.1 2) q 3 = tg (P.1 2) c 3) && decide (q < c))
theorem bef_iff {P : aP} {q c : Nat} : bef P q c = true ↔ (tg (P.1 2) q 3 < tg (P.1 2) c 3 ∨ (tg (P.1 2) q 3 = tg (P.1 2) c 3 ∧ q < c)) := by
  unfold bef
  simp
def pos (P : aP) (c : Nat) : Nat := sumN (fun q => if bef P q c = true then 1 else 0) 0 (P.1 2).length
def ord (P : aP) (n : Nat) : Nat := (fstI (fun c => decide (pos P c = n)) 0 (P.1 2).length).getD 0
theorem pos_lt {P : aP} {c : Nat} (hc : c < (P.1 2).length) : pos P c < (P.1 2).length := by
  have h := sumN_lt (g := fun q => if bef P q c = true then 1 else 0) (h := fun _ => 1) (P.1 2).length 0 c (fun k _ _ => by split <;> omega) (by omega) (by omega) (by
    have : ¬ bef P c c = true := by rw [bef_iff]; omega
    simp [this])
  rw [sumN_one] at h
  exact h
theorem pos_mono {P : aP} {c d : Nat} (hc : c < (P.1 2).length) (h : bef P c d = true) : pos P c < pos P d := by
  refine sumN_lt _ 0 c (fun k _ _ => ?_) (by omega) (by omega) ?_
  · by_cases hk : bef P k c = true
    · have : bef P k d = true := by
        rw [bef_iff] at *
        omega
      simp [hk, this]
    · simp [hk]
  · have : ¬ bef P c c = true := by rw [bef_iff]; omega
    simp [this, h]
theorem pos_inj {P : aP} {c d : Nat} (hc : c < (P.1 2).length) (hd : d < (P.1 2).length) (h : pos P c = pos P d) : c = d := by
  by_cases h1 : bef P c d = true
  · have := pos_mono hc h1
    omega
  · by_cases h2 : bef P d c = true
    · have := pos_mono hd h2
      omega
    · rw [bef_iff] at h1 h2
      omega
theorem pos_ord {P : aP} {n : Nat} (hn : n < (P.1 2).length) : ord P n < (P.1 2).length ∧ pos P (ord P n) = n := by
  obtain ⟨i, hi, e⟩ := pigeon (P.1 2).length (pos P) (fun i h => pos_lt h) (fun i j a b e => pos_inj a b e) n hn
  unfold ord
  cases hf : fstI (fun c => decide (pos P c = n)) 0 (P.1 2).length with
  | none =>
    have := fstI_none _ _ hf i (by omega) (by omega)
    simp [e] at this
  | some k =>
    obtain ⟨-, b, c⟩ := fstI_some _ _ _ hf
    have c : pos P k = n := by simpa using c
    exact ⟨by simpa using b, by simpa using c⟩
theorem ord_pos {P : aP} {c : Nat} (hc : c < (P.1 2).length) : ord P (pos P c) = c := by
  obtain ⟨a, b⟩ := pos_ord (pos_lt hc)
  exact pos_inj a hc b
theorem ord_inj {P : aP} {m n : Nat} (hm : m < (P.1 2).length) (hn : n < (P.1 2).length) (h : ord P m = ord P n) : m = n := by
  rw [← (pos_ord hm).2, h, (pos_ord hn).2]
theorem okD {P : aP} (hok : aOK P) {i : Nat} (hi : i < (P.1 2).length) : tg (P.1 2) i 2 < tg (P.1 2) i 3 ∧ tg (P.1 2) i 3 ≤ 2800 := ⟨(hok.2.2.2.1 i hi).2.2.1, (hok.2.2.2.1 i hi).2.2.2.2⟩
theorem c_countBefore {b : Nat} {σ : fS} {P : aP} (hp : PV b σ P) (hok : aOK P) {c : Nat} (hc : c < (P.1 2).length) : f_X0_countBefore b (nI c) σ = some (nI (pos P c), σ) := by
  have z2 : (P.1 2).length ≤ 12 := hok.1 2 (by decide)
  unfold f_X0_countBefore
  rw [cC3 hp hok.1 hc, fcall_ok]
  refine sum_all (f := fun n a v => f_X0_countBefore_b15 b n (nI c) (nI (tg (P.1 2) c 3)) a v σ) (by omega) (fun n a => ?_) (fun n a i hi => ?_)
  · show f_X0_countBefore_b15 b (n + 1) (nI c) (nI (tg (P.1 2) c 3)) (nI a) (nI (P.1 2).length) σ = _
    rw [f_X0_countBefore_b15, cCn hp, fcall_ok, if_pos (nI_le (Nat.le_refl _) (by omega))]
  · show f_X0_countBefore_b15 b (n + 1) (nI c) (nI (tg (P.1 2) c 3)) (nI a) (nI i) σ = f_X0_countBefore_b15 b n (nI c) (nI (tg (P.1 2) c 3)) (nI (a + (if bef P i c = true then 1 else 0))) (nI (i + 1)) σ
    have d1 := okD hok hi
    have d2 := okD hok hc
    rw [f_X0_countBefore_b15, cCn hp, fcall_ok, if_neg (nI_ge hi (by omega)), cC3 hp hok.1 hi, fcall_ok]
    unfold f_X0_countBefore_b57 f_X0_countBefore_b60
    by_cases h1 : tg (P.1 2) i 3 < tg (P.1 2) c 3
    · rw [if_pos (nI_lt h1 (by omega)), if_pos (bef_iff.mpr (Or.inl h1))]
      simp only [nI_1]
    · rw [if_neg (nI_nlt (by omega) (by omega))]
      by_cases h2 : tg (P.1 2) i 3 = tg (P.1 2) c 3
      · rw [if_pos (by rw [h2])]
        by_cases h3 : i < c
        · rw [if_neg (nI_ge h3 (by omega)), if_pos (bef_iff.mpr (Or.inr ⟨h2, h3⟩))]
          simp only [nI_1]
        · rw [if_pos (nI_le (by omega) (by omega)), if_neg (by rw [bef_iff]; omega)]
          simp only [nI_1, Nat.add_zero]
      · rw [if_neg (fun e => h2 (nI_inj (by omega) (by omega) e)), if_neg (by rw [bef_iff]; omega)]
        simp only [nI_1, Nat.add_zero]
/-- the order stands in two rows: places, and crossings by place; so far for the crossings below c -/
def OV (σ : fS) (po od : Nat) (P : aP) (c : Nat) : Prop := ∀ q, q < c → σ po q = nI (pos P q) ∧ σ od (pos P q) = nI q
theorem OV.step {σ : fS} {po od : Nat} {P : aP} {c : Nat} (hd : po ≠ od) (hc : c < (P.1 2).length) (h : OV σ po od P c) : OV (fu (fu σ po c (nI (pos P c))) od (pos P c) (nI c)) po od P (c + 1) := by
  intro q hq
  by_cases hqc : q = c
  · subst hqc
    exact ⟨by rw [fu_cell hd, fu_self], fu_self _ _ _ _⟩
  · obtain ⟨a, b⟩ := h q (by omega)
    refine ⟨by rw [fu_cell hd, fu_slot hqc]; exact a, ?_⟩
    rw [fu_slot (fun e => hqc (pos_inj (by omega) hc e)), fu_cell (Ne.symm hd)]
    exact b
theorem OV.ord {σ : fS} {po od : Nat} {P : aP} (h : OV σ po od P (P.1 2).length) {n : Nat} (hn : n < (P.1 2).length) : σ od n = nI (ord P n) := by
  obtain ⟨a, b⟩ := pos_ord hn
  have := (h _ a).2
  rw [b] at this
  exact this
theorem c_order {b : Nat} {σ : fS} {P : aP} (hb : b + 15 ≤ 138) (hp : PV b σ P) (hok : aOK P) : ∃ σ', f_X0_make b σ = f_X0_make_b41 b fN 0 σ' ∧ (∀ c, c ≠ 139 → c ≠ 140 → σ' c = σ c) ∧ OV σ' 140 139 P (P.1 2).length := by
  have z2 : (P.1 2).length ≤ 12 := hok.1 2 (by decide)
  obtain ⟨s, ⟨h1, h2⟩, e⟩ := do_all (f := fun n v s => f_X0_make_b2 b n v s) (N := (P.1 2).length) (I := fun i s => (∀ c, c ≠ 139 → c ≠ 140 → s c = σ c) ∧ OV s 140 139 P i) (fin := fun s => f_X0_make_b41 b fN 0 s) (by omega) (fun n s hI => by
    have hp' : PV b s P := hp.of (fun c a x => hI.1 c (by omega) (by omega))
    show f_X0_make_b2 b (n + 1) (nI (P.1 2).length) s = _
    rw [f_X0_make_b2, cCn hp', fcall_ok, if_pos (nI_le (Nat.le_refl _) (by omega))]) (fun n i s hi hI => by
    have hp' : PV b s P := hp.of (fun c a x => hI.1 c (by omega) (by omega))
    have hl := pos_lt hi
    refine ⟨fu (fu s 140 i (nI (pos P i))) 139 (pos P i) (nI i), ⟨fun c a x => by rw [fu_cell a, fu_cell x]; exact hI.1 c a x, hI.2.step (by decide) hi⟩, ?_⟩
    show f_X0_make_b2 b (n + 1) (nI i) s = f_X0_make_b2 b n (nI (i + 1)) _
    rw [f_X0_make_b2, cCn hp', fcall_ok, if_neg (nI_ge hi (by omega)), c_countBefore hp' hok hi, fcall_ok, fb_x rfl (by omega) (by decide), fL_ok, fb_x rfl (by omega) (by decide), fL_ok, nI_clamp (by omega), nI_clamp (by omega), nI_1]) (σ := σ) ⟨fun _ _ _ => rfl, fun q hq => by omega⟩
  exact ⟨s, e, h1, h2⟩
theorem m_order {σ : fS} {P : aP} (hg : GV (σ 165) P) (hok : aOK P) : ∃ σ', f_X8_sorts σ = some σ' ∧ (∀ c, c ≠ 171 → c ≠ 172 → σ' c = σ c) ∧ OV σ' 172 171 P (P.1 2).length := by
  have z2 : (P.1 2).length ≤ 12 := hok.1 2 (by decide)
  have inner : ∀ (K : Int32 → fS → Option fS) (s : fS) (c : Nat), c < (P.1 2).length → GV (s 165) P → f_X8_sorts_b17 K fN (nI c) 0 0 s = K (nI (c + 1)) (fu (fu s 172 c (nI (pos P c))) 171 (pos P c) (nI c)) := by
    intro K s c hc hg
    have key : ∀ d i n a, i + d = (P.1 2).length → d < n → f_X8_sorts_b17 K n (nI c) (nI a) (nI i) s = f_X8_sorts_b17 K 1 (nI c) (nI (a + sumN (fun q => if bef P q c = true then 1 else 0) i d)) (nI (P.1 2).length) s := by
      intro d
      induction d with
      | zero =>
        intro i n a hi hn
        obtain ⟨n, rfl⟩ : ∃ m, n = m + 1 := ⟨n - 1, by omega⟩
        have : i = (P.1 2).length := by omega
        subst this
        rw [f_X8_sorts_b17, f_X8_sorts_b17, fb122, fb122, mCn hg, if_pos (nI_le (Nat.le_refl _) (by omega)), if_pos (nI_le (Nat.le_refl _) (by omega))]
        rfl
      | succ d ih =>
        intro i n a hi hn
        obtain ⟨n, rfl⟩ : ∃ m, n = m + 1 := ⟨n - 1, by omega⟩
        have hi' : i < (P.1 2).length := by omega
        have d1 := okD hok hi'
        have d2 := okD hok hc
        have ih' := ih (i + 1) n (a + (if bef P i c = true then 1 else 0)) (by omega) (by omega)
        unfold sumN
        rw [← Nat.add_assoc, ← ih', f_X8_sorts_b17, fb122, mCn hg, if_neg (nI_ge hi' (by omega)), mC3 hg hok.1 hi', fcall_ok, mC3 hg hok.1 hc, fcall_ok]
        unfold f_X8_sorts_b64 f_X8_sorts_b68 f_X8_sorts_b69
        by_cases h1 : tg (P.1 2) i 3 < tg (P.1 2) c 3
        · rw [if_pos (nI_lt h1 (by omega)), if_pos (bef_iff.mpr (Or.inl h1))]
          simp only [nI_1]
        · rw [if_neg (nI_nlt (by omega) (by omega)), mC3 hg hok.1 hi', fcall_ok, mC3 hg hok.1 hc, fcall_ok]
          by_cases h2 : tg (P.1 2) i 3 = tg (P.1 2) c 3
          · rw [if_pos (by rw [h2])]
            by_cases h3 : i < c
            · rw [if_neg (nI_ge h3 (by omega)), if_pos (bef_iff.mpr (Or.inr ⟨h2, h3⟩))]
              simp only [nI_1]
            · rw [if_pos (nI_le (by omega) (by omega)), if_neg (by rw [bef_iff]; omega)]
              simp only [nI_1, Nat.add_zero, show nI a + (0 : Int32) = nI a from nI_add a 0]
          · rw [if_neg (fun e => h2 (nI_inj (by omega) (by omega) e)), if_neg (by rw [bef_iff]; omega)]
            simp only [nI_1, Nat.add_zero, show nI a + (0 : Int32) = nI a from nI_add a 0]
    have hl := pos_lt hc
    have k1 := key (P.1 2).length 0 fN 0 (Nat.zero_add _) (by unfold fN; omega)
    rw [Nat.zero_add] at k1
    have k1 : f_X8_sorts_b17 K fN (nI c) 0 0 s = f_X8_sorts_b17 K 1 (nI c) (nI (pos P c)) (nI (P.1 2).length) s := k1
    rw [k1, f_X8_sorts_b17, fb122, mCn hg, if_pos (nI_le (Nat.le_refl _) (by omega)), fb_x rfl (by omega) (by decide), fL_ok, fb_x rfl (by omega) (by decide), fL_ok, nI_clamp (by omega), nI_clamp (by omega), nI_1]
  obtain ⟨s, ⟨h1, h2⟩, e⟩ := do_all (f := fun n v s => f_X8_sorts_b2 n v s) (N := (P.1 2).length) (I := fun i s => (∀ c, c ≠ 171 → c ≠ 172 → s c = σ c) ∧ OV s 172 171 P i) (fin := fun s => some s) (by omega) (fun n s hI => by
    have hg' : GV (s 165) P := by rw [hI.1 165 (by decide) (by decide)]; exact hg
    show f_X8_sorts_b2 (n + 1) (nI (P.1 2).length) s = _
    rw [f_X8_sorts_b2, fb122, mCn hg', if_pos (nI_le (Nat.le_refl _) (by omega))]) (fun n i s hi hI => by
    have hg' : GV (s 165) P := by rw [hI.1 165 (by decide) (by decide)]; exact hg
    refine ⟨fu (fu s 172 i (nI (pos P i))) 171 (pos P i) (nI i), ⟨fun c a x => by rw [fu_cell a, fu_cell x]; exact hI.1 c a x, hI.2.step (by decide) hi⟩, ?_⟩
    show f_X8_sorts_b2 (n + 1) (nI i) s = f_X8_sorts_b2 n (nI (i + 1)) _
    rw [f_X8_sorts_b2, fb122, mCn hg', if_neg (nI_ge hi (by omega)), inner _ s i hi hg']) (σ := σ) ⟨fun _ _ _ => rfl, fun q hq => by omega⟩
  exact ⟨s, e, h1, h2⟩

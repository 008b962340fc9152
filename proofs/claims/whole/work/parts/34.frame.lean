/-! ===== frames, loops, reading ports ===== -/
/-- cells that only a call's own work uses -/
def scr (c : Nat) : Prop := (16 ≤ c ∧ c < 31) ∨ (138 ≤ c ∧ c < 157) ∨ (159 ≤ c ∧ c < 162) ∨ c = 166 ∨ (170 ≤ c ∧ c < 187)
theorem LI.of {σ σ' : fS} (h : LI σ) (hf : ∀ c, ¬ scr c → c ≠ 164 → σ' c = σ c) (h4 : ∀ j, j = 3 ∨ j = 5 ∨ j = 7 ∨ j = 8 → σ' 164 j = σ 164 j) : LI σ' := by
  obtain ⟨⟨P, k, F, hPV, hGV, hok, hHC, hHM, hF⟩, hX⟩ := h
  have g : ∀ c, (c < 16 ∨ (31 ≤ c ∧ c < 138) ∨ c = 157 ∨ c = 158 ∨ c = 162 ∨ c = 163 ∨ c = 165 ∨ c = 167 ∨ c = 168 ∨ c = 169 ∨ c = 187 ∨ c = 188) → σ' c = σ c := fun c hc => hf c (by unfold scr; omega) (by omega)
  refine ⟨⟨P, k, F, hPV.of (fun c a b => g c (by omega)), by rw [g 165 (by omega)]; exact hGV, hok, hHC.of (fun c a b => g c (by omega)), ?_, hF⟩, ?_⟩
  · unfold HM
    rw [h4 3 (Or.inl rfl), g 167 (by omega)]
    exact hHM
  · exact XR.of hX (g _ (by omega)) (fun c a b => g c (by omega)) (g _ (by omega)) (g _ (by omega)) (g _ (by omega)) (g _ (by omega)) (g _ (by omega)) (g _ (by omega)) (g _ (by omega)) (g _ (by omega)) (fun j hj => h4 j (by omega))
/-! ===== loops ===== -/
def sumN (g : Nat → Nat) : Nat → Nat → Nat
  | _, 0 => 0
  | i, d + 1 => g i + sumN g (i + 1) d
theorem sum_loop {f : Nat → Int32 → Int32 → Option (Int32 × fS)} {σ : fS} {N : Nat} {g : Nat → Nat} (h0 : ∀ n a, f (n + 1) (nI a) (nI N) = some (nI a, σ)) (h1 : ∀ n a i, i < N → f (n + 1) (nI a) (nI i) = f n (nI (a + g i)) (nI (i + 1))) : ∀ d i n a, i + d = N → d < n → f n (nI a) (nI i) = some (nI (a + sumN g i d), σ) := by
  intro d
  induction d with
  | zero =>
    intro i n a hi hn
    obtain ⟨n, rfl⟩ : ∃ m, n = m + 1 := ⟨n - 1, by omega⟩
    have : i = N := by omega
    subst this
    exact h0 n a
  | succ d ih =>
    intro i n a hi hn
    obtain ⟨n, rfl⟩ : ∃ m, n = m + 1 := ⟨n - 1, by omega⟩
    rw [h1 n a i (by omega), ih (i + 1) n (a + g i) (by omega) (by omega)]
    simp only [sumN, Nat.add_assoc]
/-- the whole sum, from 0 -/
theorem sum_all {f : Nat → Int32 → Int32 → Option (Int32 × fS)} {σ : fS} {N : Nat} {g : Nat → Nat} (hN : N < 2999) (h0 : ∀ n a, f (n + 1) (nI a) (nI N) = some (nI a, σ)) (h1 : ∀ n a i, i < N → f (n + 1) (nI a) (nI i) = f n (nI (a + g i)) (nI (i + 1))) : f fN 0 0 = some (nI (sumN g 0 N), σ) := by
  have := sum_loop h0 h1 N 0 fN 0 (Nat.zero_add _) (by unfold fN; omega)
  rw [Nat.zero_add] at this
  exact this
def fstI (c : Nat → Bool) : Nat → Nat → Option Nat
  | _, 0 => none
  | i, d + 1 => if c i = true then some i else fstI c (i + 1) d
def orI (e : Int32) (r : Nat → Int32) : Option Nat → Int32
  | none => e
  | some k => r k
theorem find_loop {f : Nat → Int32 → Option (Int32 × fS)} {σ : fS} {N : Nat} {c : Nat → Bool} {r : Nat → Int32} {e : Int32} (h0 : ∀ n, f (n + 1) (nI N) = some (e, σ)) (h1 : ∀ n i, i < N → c i = true → f (n + 1) (nI i) = some (r i, σ)) (h2 : ∀ n i, i < N → c i = false → f (n + 1) (nI i) = f n (nI (i + 1))) : ∀ d i n, i + d = N → d < n → f n (nI i) = some (orI e r (fstI c i d), σ) := by
  intro d
  induction d with
  | zero =>
    intro i n hi hn
    obtain ⟨n, rfl⟩ : ∃ m, n = m + 1 := ⟨n - 1, by omega⟩
    have : i = N := by omega
    subst this
    exact h0 n
  | succ d ih =>
    intro i n hi hn
    obtain ⟨n, rfl⟩ : ∃ m, n = m + 1 := ⟨n - 1, by omega⟩
    unfold fstI
    cases hc : c i with
    | true => rw [if_pos rfl]; exact h1 n i (by omega) hc
    | false => rw [if_neg (by decide), h2 n i (by omega) hc]; exact ih (i + 1) n (by omega) (by omega)
theorem do_loop {β : Type} {f : Nat → Int32 → fS → Option β} {N : Nat} {I : Nat → fS → Prop} {fin : fS → Option β} (h0 : ∀ n σ, I N σ → f (n + 1) (nI N) σ = fin σ) (h1 : ∀ n i σ, i < N → I i σ → ∃ σ', I (i + 1) σ' ∧ f (n + 1) (nI i) σ = f n (nI (i + 1)) σ') : ∀ d i n σ, i + d = N → d < n → I i σ → ∃ σ', I N σ' ∧ f n (nI i) σ = fin σ' := by
  intro d
  induction d with
  | zero =>
    intro i n σ hi hn hI
    obtain ⟨n, rfl⟩ : ∃ m, n = m + 1 := ⟨n - 1, by omega⟩
    have : i = N := by omega
    subst this
    exact ⟨σ, hI, h0 n σ hI⟩
  | succ d ih =>
    intro i n σ hi hn hI
    obtain ⟨n, rfl⟩ : ∃ m, n = m + 1 := ⟨n - 1, by omega⟩
    obtain ⟨σ', hI', e⟩ := h1 n i σ (by omega) hI
    obtain ⟨σ2, hI2, e2⟩ := ih (i + 1) n σ' (by omega) (by omega) hI'
    exact ⟨σ2, hI2, e.trans e2⟩
theorem do_all {β : Type} {f : Nat → Int32 → fS → Option β} {N : Nat} {I : Nat → fS → Prop} {fin : fS → Option β} (hN : N < 2999) (h0 : ∀ n σ, I N σ → f (n + 1) (nI N) σ = fin σ) (h1 : ∀ n i σ, i < N → I i σ → ∃ σ', I (i + 1) σ' ∧ f (n + 1) (nI i) σ = f n (nI (i + 1)) σ') {σ : fS} (hI : I 0 σ) : ∃ σ', I N σ' ∧ f fN 0 σ = fin σ' := do_loop h0 h1 N 0 fN σ (Nat.zero_add _) (by unfold fN; omega) hI
theorem sumN_congr {g h : Nat → Nat} : ∀ d i, (∀ k, i ≤ k → k < i + d → g k = h k) → sumN g i d = sumN h i d := by
  intro d
  induction d with
  | zero => intro i _; rfl
  | succ d ih =>
    intro i hk
    unfold sumN
    rw [hk i (Nat.le_refl _) (by omega), ih (i + 1) (fun k a b => hk k (by omega) (by omega))]
theorem fstI_congr {g h : Nat → Bool} : ∀ d i, (∀ k, i ≤ k → k < i + d → g k = h k) → fstI g i d = fstI h i d := by
  intro d
  induction d with
  | zero => intro i _; rfl
  | succ d ih =>
    intro i hk
    unfold fstI
    rw [hk i (Nat.le_refl _) (by omega), ih (i + 1) (fun k a b => hk k (by omega) (by omega))]
theorem fstI_skip {c : Nat → Bool} : ∀ d1 i d2, (∀ k, i ≤ k → k < i + d1 → c k = false) → fstI c i (d1 + d2) = fstI c (i + d1) d2 := by
  intro d1
  induction d1 with
  | zero => intro i d2 _; rw [Nat.zero_add, Nat.add_zero]
  | succ d ih =>
    intro i d2 hk
    rw [show d + 1 + d2 = (d + d2) + 1 by omega]
    show (if c i = true then some i else fstI c (i + 1) (d + d2)) = _
    rw [if_neg (by rw [hk i (Nat.le_refl _) (by omega)]; decide), ih (i + 1) d2 (fun k a b => hk k (by omega) (by omega)), show i + 1 + d = i + (d + 1) by omega]
theorem fstI_some {c : Nat → Bool} : ∀ d i k, fstI c i d = some k → i ≤ k ∧ k < i + d ∧ c k = true := by
  intro d
  induction d with
  | zero => intro i k h; cases h
  | succ d ih =>
    intro i k h
    unfold fstI at h
    by_cases hc : c i = true
    · rw [if_pos hc] at h
      cases h
      exact ⟨Nat.le_refl _, by omega, hc⟩
    · rw [if_neg hc] at h
      obtain ⟨a, b, d⟩ := ih (i + 1) k h
      exact ⟨by omega, by omega, d⟩
theorem fstI_none {c : Nat → Bool} : ∀ d i, fstI c i d = none → ∀ k, i ≤ k → k < i + d → c k = false := by
  intro d
  induction d with
  | zero => intro i _ k a b; omega
  | succ d ih =>
    intro i h k a b
    unfold fstI at h
    by_cases hc : c i = true
    · rw [if_pos hc] at h
      cases h
    · rw [if_neg hc] at h
      by_cases hk : k = i
      · subst hk
        simpa using hc
      · exact ih (i + 1) h k (by omega) (by omega)
/-! ===== reading a port, class and reference ===== -/
theorem tvj {b t j : Nat} {σ : fS} {P : aP} (hp : PV b σ P) (hj : j < 5) (ht : t = b + 1 + 2 * j) : TV σ t (wd j) (P.1 j) := ht ▸ hp.1 j hj
theorem cS {b : Nat} {σ : fS} {P : aP} (hp : PV b σ P) (hz : aSz P) {i c : Nat} {x : Int32} (hi : i < (P.1 0).length) (e : x = nI c) (hc : c < 4) : f_X5_at (b + 1) 4 4 (nI i) x σ = some (nI (tg (P.1 0) i c), σ) := p_at (t := b + 1) (r := 4) (w := 4) (tvj hp (by decide) (by omega)) (hz 0 (by decide)) (by decide) (by decide) rfl e hi hc
theorem cSn {b : Nat} {σ : fS} {P : aP} (hp : PV b σ P) : f_X5_size (b + 1) 4 4 σ = some (nI (P.1 0).length, σ) := by rw [p_size, (tvj (t := b + 1) hp (j := 0) (by decide) (by omega)).1]
theorem mS {σ : fS} {P : aP} (hg : GV (σ 165) P) (hz : aSz P) {i c : Nat} {x : Int32} (hi : i < (P.1 0).length) (e : x = nI c) (hc : c < 4) : f_X8_shipOf (nI i) x σ = some (nI (tg (P.1 0) i c), σ) := by
  have e1 : (99 : Int32) + (4 : Int32) * nI i + x = nI (99 + 4 * i + c) := by rw [e, show (99 : Int32) = nI 99 from rfl, show (4 : Int32) = nI 4 from rfl, nI_mul, nI_add, nI_add]
  have hl : (P.1 0).length ≤ 4 := hz 0 (by decide)
  unfold f_X8_shipOf
  rw [fb_x e1 (by omega) (by decide), cl_x e1 (by omega), show σ 165 (99 + 4 * i + c) = nI (tg (P.1 0) i c) from (hg.1 0 (by decide)).2 i hi c hc]
theorem mSn {σ : fS} {P : aP} (hg : GV (σ 165) P) : σ 165 (98 : Int32).toNatClampNeg = nI (P.1 0).length := (hg.1 0 (by decide)).1
theorem fb98 {α : Type} (k : Option α) : fb (98 : Int32) 277 k = k := fb_x (show (98 : Int32) = nI 98 from rfl) (by decide) (by decide) k
theorem cS0 {b : Nat} {σ : fS} {P : aP} (hp : PV b σ P) (hz : aSz P) {i : Nat} (hi : i < (P.1 0).length) : f_X5_at (b + 1) 4 4 (nI i) (0 : Int32) σ = some (nI (tg (P.1 0) i 0), σ) := cS hp hz hi rfl (by decide)
theorem mS0 {σ : fS} {P : aP} (hg : GV (σ 165) P) (hz : aSz P) {i : Nat} (hi : i < (P.1 0).length) : f_X8_shipOf (nI i) (0 : Int32) σ = some (nI (tg (P.1 0) i 0), σ) := mS hg hz hi rfl (by decide)
theorem cS1 {b : Nat} {σ : fS} {P : aP} (hp : PV b σ P) (hz : aSz P) {i : Nat} (hi : i < (P.1 0).length) : f_X5_at (b + 1) 4 4 (nI i) (1 : Int32) σ = some (nI (tg (P.1 0) i 1), σ) := cS hp hz hi rfl (by decide)
theorem mS1 {σ : fS} {P : aP} (hg : GV (σ 165) P) (hz : aSz P) {i : Nat} (hi : i < (P.1 0).length) : f_X8_shipOf (nI i) (1 : Int32) σ = some (nI (tg (P.1 0) i 1), σ) := mS hg hz hi rfl (by decide)
theorem cS2 {b : Nat} {σ : fS} {P : aP} (hp : PV b σ P) (hz : aSz P) {i : Nat} (hi : i < (P.1 0).length) : f_X5_at (b + 1) 4 4 (nI i) (2 : Int32) σ = some (nI (tg (P.1 0) i 2), σ) := cS hp hz hi rfl (by decide)
theorem mS2 {σ : fS} {P : aP} (hg : GV (σ 165) P) (hz : aSz P) {i : Nat} (hi : i < (P.1 0).length) : f_X8_shipOf (nI i) (2 : Int32) σ = some (nI (tg (P.1 0) i 2), σ) := mS hg hz hi rfl (by decide)
theorem cS3 {b : Nat} {σ : fS} {P : aP} (hp : PV b σ P) (hz : aSz P) {i : Nat} (hi : i < (P.1 0).length) : f_X5_at (b + 1) 4 4 (nI i) (3 : Int32) σ = some (nI (tg (P.1 0) i 3), σ) := cS hp hz hi rfl (by decide)
theorem mS3 {σ : fS} {P : aP} (hg : GV (σ 165) P) (hz : aSz P) {i : Nat} (hi : i < (P.1 0).length) : f_X8_shipOf (nI i) (3 : Int32) σ = some (nI (tg (P.1 0) i 3), σ) := mS hg hz hi rfl (by decide)
theorem cB {b : Nat} {σ : fS} {P : aP} (hp : PV b σ P) (hz : aSz P) {i c : Nat} {x : Int32} (hi : i < (P.1 1).length) (e : x = nI c) (hc : c < 2) : f_X5_at (b + 3) 3 2 (nI i) x σ = some (nI (tg (P.1 1) i c), σ) := p_at (t := b + 3) (r := 3) (w := 2) (tvj hp (by decide) (by omega)) (hz 1 (by decide)) (by decide) (by decide) rfl e hi hc
theorem cBn {b : Nat} {σ : fS} {P : aP} (hp : PV b σ P) : f_X5_size (b + 3) 3 2 σ = some (nI (P.1 1).length, σ) := by rw [p_size, (tvj (t := b + 3) hp (j := 1) (by decide) (by omega)).1]
theorem mB {σ : fS} {P : aP} (hg : GV (σ 165) P) (hz : aSz P) {i c : Nat} {x : Int32} (hi : i < (P.1 1).length) (e : x = nI c) (hc : c < 2) : f_X8_berthOf (nI i) x σ = some (nI (tg (P.1 1) i c), σ) := by
  have e1 : (116 : Int32) + (2 : Int32) * nI i + x = nI (116 + 2 * i + c) := by rw [e, show (116 : Int32) = nI 116 from rfl, show (2 : Int32) = nI 2 from rfl, nI_mul, nI_add, nI_add]
  have hl : (P.1 1).length ≤ 3 := hz 1 (by decide)
  unfold f_X8_berthOf
  rw [fb_x e1 (by omega) (by decide), cl_x e1 (by omega), show σ 165 (116 + 2 * i + c) = nI (tg (P.1 1) i c) from (hg.1 1 (by decide)).2 i hi c hc]
theorem mBn {σ : fS} {P : aP} (hg : GV (σ 165) P) : σ 165 (115 : Int32).toNatClampNeg = nI (P.1 1).length := (hg.1 1 (by decide)).1
theorem fb115 {α : Type} (k : Option α) : fb (115 : Int32) 277 k = k := fb_x (show (115 : Int32) = nI 115 from rfl) (by decide) (by decide) k
theorem cB0 {b : Nat} {σ : fS} {P : aP} (hp : PV b σ P) (hz : aSz P) {i : Nat} (hi : i < (P.1 1).length) : f_X5_at (b + 3) 3 2 (nI i) (0 : Int32) σ = some (nI (tg (P.1 1) i 0), σ) := cB hp hz hi rfl (by decide)
theorem mB0 {σ : fS} {P : aP} (hg : GV (σ 165) P) (hz : aSz P) {i : Nat} (hi : i < (P.1 1).length) : f_X8_berthOf (nI i) (0 : Int32) σ = some (nI (tg (P.1 1) i 0), σ) := mB hg hz hi rfl (by decide)
theorem cB1 {b : Nat} {σ : fS} {P : aP} (hp : PV b σ P) (hz : aSz P) {i : Nat} (hi : i < (P.1 1).length) : f_X5_at (b + 3) 3 2 (nI i) (1 : Int32) σ = some (nI (tg (P.1 1) i 1), σ) := cB hp hz hi rfl (by decide)
theorem mB1 {σ : fS} {P : aP} (hg : GV (σ 165) P) (hz : aSz P) {i : Nat} (hi : i < (P.1 1).length) : f_X8_berthOf (nI i) (1 : Int32) σ = some (nI (tg (P.1 1) i 1), σ) := mB hg hz hi rfl (by decide)
theorem cC {b : Nat} {σ : fS} {P : aP} (hp : PV b σ P) (hz : aSz P) {i c : Nat} {x : Int32} (hi : i < (P.1 2).length) (e : x = nI c) (hc : c < 4) : f_X5_at (b + 5) 12 4 (nI i) x σ = some (nI (tg (P.1 2) i c), σ) := p_at (t := b + 5) (r := 12) (w := 4) (tvj hp (by decide) (by omega)) (hz 2 (by decide)) (by decide) (by decide) rfl e hi hc
theorem cCn {b : Nat} {σ : fS} {P : aP} (hp : PV b σ P) : f_X5_size (b + 5) 12 4 σ = some (nI (P.1 2).length, σ) := by rw [p_size, (tvj (t := b + 5) hp (j := 2) (by decide) (by omega)).1]
theorem mC {σ : fS} {P : aP} (hg : GV (σ 165) P) (hz : aSz P) {i c : Nat} {x : Int32} (hi : i < (P.1 2).length) (e : x = nI c) (hc : c < 4) : f_X8_of (nI i) x σ = some (nI (tg (P.1 2) i c), σ) := by
  have e1 : (123 : Int32) + (4 : Int32) * nI i + x = nI (123 + 4 * i + c) := by rw [e, show (123 : Int32) = nI 123 from rfl, show (4 : Int32) = nI 4 from rfl, nI_mul, nI_add, nI_add]
  have hl : (P.1 2).length ≤ 12 := hz 2 (by decide)
  unfold f_X8_of
  rw [fb_x e1 (by omega) (by decide), cl_x e1 (by omega), show σ 165 (123 + 4 * i + c) = nI (tg (P.1 2) i c) from (hg.1 2 (by decide)).2 i hi c hc]
theorem mCn {σ : fS} {P : aP} (hg : GV (σ 165) P) : σ 165 (122 : Int32).toNatClampNeg = nI (P.1 2).length := (hg.1 2 (by decide)).1
theorem fb122 {α : Type} (k : Option α) : fb (122 : Int32) 277 k = k := fb_x (show (122 : Int32) = nI 122 from rfl) (by decide) (by decide) k
theorem cC0 {b : Nat} {σ : fS} {P : aP} (hp : PV b σ P) (hz : aSz P) {i : Nat} (hi : i < (P.1 2).length) : f_X5_at (b + 5) 12 4 (nI i) (0 : Int32) σ = some (nI (tg (P.1 2) i 0), σ) := cC hp hz hi rfl (by decide)
theorem mC0 {σ : fS} {P : aP} (hg : GV (σ 165) P) (hz : aSz P) {i : Nat} (hi : i < (P.1 2).length) : f_X8_of (nI i) (0 : Int32) σ = some (nI (tg (P.1 2) i 0), σ) := mC hg hz hi rfl (by decide)
theorem cC1 {b : Nat} {σ : fS} {P : aP} (hp : PV b σ P) (hz : aSz P) {i : Nat} (hi : i < (P.1 2).length) : f_X5_at (b + 5) 12 4 (nI i) (1 : Int32) σ = some (nI (tg (P.1 2) i 1), σ) := cC hp hz hi rfl (by decide)
theorem mC1 {σ : fS} {P : aP} (hg : GV (σ 165) P) (hz : aSz P) {i : Nat} (hi : i < (P.1 2).length) : f_X8_of (nI i) (1 : Int32) σ = some (nI (tg (P.1 2) i 1), σ) := mC hg hz hi rfl (by decide)
theorem cC2 {b : Nat} {σ : fS} {P : aP} (hp : PV b σ P) (hz : aSz P) {i : Nat} (hi : i < (P.1 2).length) : f_X5_at (b + 5) 12 4 (nI i) (2 : Int32) σ = some (nI (tg (P.1 2) i 2), σ) := cC hp hz hi rfl (by decide)
theorem mC2 {σ : fS} {P : aP} (hg : GV (σ 165) P) (hz : aSz P) {i : Nat} (hi : i < (P.1 2).length) : f_X8_of (nI i) (2 : Int32) σ = some (nI (tg (P.1 2) i 2), σ) := mC hg hz hi rfl (by decide)
theorem cC3 {b : Nat} {σ : fS} {P : aP} (hp : PV b σ P) (hz : aSz P) {i : Nat} (hi : i < (P.1 2).length) : f_X5_at (b + 5) 12 4 (nI i) (3 : Int32) σ = some (nI (tg (P.1 2) i 3), σ) := cC hp hz hi rfl (by decide)
theorem mC3 {σ : fS} {P : aP} (hg : GV (σ 165) P) (hz : aSz P) {i : Nat} (hi : i < (P.1 2).length) : f_X8_of (nI i) (3 : Int32) σ = some (nI (tg (P.1 2) i 3), σ) := mC hg hz hi rfl (by decide)
theorem cV {b : Nat} {σ : fS} {P : aP} (hp : PV b σ P) (hz : aSz P) {i c : Nat} {x : Int32} (hi : i < (P.1 3).length) (e : x = nI c) (hc : c < 3) : f_X5_at (b + 7) 24 3 (nI i) x σ = some (nI (tg (P.1 3) i c), σ) := p_at (t := b + 7) (r := 24) (w := 3) (tvj hp (by decide) (by omega)) (hz 3 (by decide)) (by decide) (by decide) rfl e hi hc
theorem cVn {b : Nat} {σ : fS} {P : aP} (hp : PV b σ P) : f_X5_size (b + 7) 24 3 σ = some (nI (P.1 3).length, σ) := by rw [p_size, (tvj (t := b + 7) hp (j := 3) (by decide) (by omega)).1]
theorem mV {σ : fS} {P : aP} (hg : GV (σ 165) P) (hz : aSz P) {i c : Nat} {x : Int32} (hi : i < (P.1 3).length) (e : x = nI c) (hc : c < 3) : f_X8_vehicleOf (nI i) x σ = some (nI (tg (P.1 3) i c), σ) := by
  have e1 : (172 : Int32) + (3 : Int32) * nI i + x = nI (172 + 3 * i + c) := by rw [e, show (172 : Int32) = nI 172 from rfl, show (3 : Int32) = nI 3 from rfl, nI_mul, nI_add, nI_add]
  have hl : (P.1 3).length ≤ 24 := hz 3 (by decide)
  unfold f_X8_vehicleOf
  rw [fb_x e1 (by omega) (by decide), cl_x e1 (by omega), show σ 165 (172 + 3 * i + c) = nI (tg (P.1 3) i c) from (hg.1 3 (by decide)).2 i hi c hc]
theorem mVn {σ : fS} {P : aP} (hg : GV (σ 165) P) : σ 165 (171 : Int32).toNatClampNeg = nI (P.1 3).length := (hg.1 3 (by decide)).1
theorem fb171 {α : Type} (k : Option α) : fb (171 : Int32) 277 k = k := fb_x (show (171 : Int32) = nI 171 from rfl) (by decide) (by decide) k
theorem cV0 {b : Nat} {σ : fS} {P : aP} (hp : PV b σ P) (hz : aSz P) {i : Nat} (hi : i < (P.1 3).length) : f_X5_at (b + 7) 24 3 (nI i) (0 : Int32) σ = some (nI (tg (P.1 3) i 0), σ) := cV hp hz hi rfl (by decide)
theorem mV0 {σ : fS} {P : aP} (hg : GV (σ 165) P) (hz : aSz P) {i : Nat} (hi : i < (P.1 3).length) : f_X8_vehicleOf (nI i) (0 : Int32) σ = some (nI (tg (P.1 3) i 0), σ) := mV hg hz hi rfl (by decide)
theorem cV1 {b : Nat} {σ : fS} {P : aP} (hp : PV b σ P) (hz : aSz P) {i : Nat} (hi : i < (P.1 3).length) : f_X5_at (b + 7) 24 3 (nI i) (1 : Int32) σ = some (nI (tg (P.1 3) i 1), σ) := cV hp hz hi rfl (by decide)
theorem mV1 {σ : fS} {P : aP} (hg : GV (σ 165) P) (hz : aSz P) {i : Nat} (hi : i < (P.1 3).length) : f_X8_vehicleOf (nI i) (1 : Int32) σ = some (nI (tg (P.1 3) i 1), σ) := mV hg hz hi rfl (by decide)
theorem cV2 {b : Nat} {σ : fS} {P : aP} (hp : PV b σ P) (hz : aSz P) {i : Nat} (hi : i < (P.1 3).length) : f_X5_at (b + 7) 24 3 (nI i) (2 : Int32) σ = some (nI (tg (P.1 3) i 2), σ) := cV hp hz hi rfl (by decide)
theorem mV2 {σ : fS} {P : aP} (hg : GV (σ 165) P) (hz : aSz P) {i : Nat} (hi : i < (P.1 3).length) : f_X8_vehicleOf (nI i) (2 : Int32) σ = some (nI (tg (P.1 3) i 2), σ) := mV hg hz hi rfl (by decide)
theorem cK {b : Nat} {σ : fS} {P : aP} (hp : PV b σ P) (hz : aSz P) {i c : Nat} {x : Int32} (hi : i < (P.1 4).length) (e : x = nI c) (hc : c < 4) : f_X5_at (b + 9) 8 4 (nI i) x σ = some (nI (tg (P.1 4) i c), σ) := p_at (t := b + 9) (r := 8) (w := 4) (tvj hp (by decide) (by omega)) (hz 4 (by decide)) (by decide) (by decide) rfl e hi hc
theorem cKn {b : Nat} {σ : fS} {P : aP} (hp : PV b σ P) : f_X5_size (b + 9) 8 4 σ = some (nI (P.1 4).length, σ) := by rw [p_size, (tvj (t := b + 9) hp (j := 4) (by decide) (by omega)).1]
theorem mK {σ : fS} {P : aP} (hg : GV (σ 165) P) (hz : aSz P) {i c : Nat} {x : Int32} (hi : i < (P.1 4).length) (e : x = nI c) (hc : c < 4) : f_X8_connectionOf (nI i) x σ = some (nI (tg (P.1 4) i c), σ) := by
  have e1 : (245 : Int32) + (4 : Int32) * nI i + x = nI (245 + 4 * i + c) := by rw [e, show (245 : Int32) = nI 245 from rfl, show (4 : Int32) = nI 4 from rfl, nI_mul, nI_add, nI_add]
  have hl : (P.1 4).length ≤ 8 := hz 4 (by decide)
  unfold f_X8_connectionOf
  rw [fb_x e1 (by omega) (by decide), cl_x e1 (by omega), show σ 165 (245 + 4 * i + c) = nI (tg (P.1 4) i c) from (hg.1 4 (by decide)).2 i hi c hc]
theorem mKn {σ : fS} {P : aP} (hg : GV (σ 165) P) : σ 165 (244 : Int32).toNatClampNeg = nI (P.1 4).length := (hg.1 4 (by decide)).1
theorem fb244 {α : Type} (k : Option α) : fb (244 : Int32) 277 k = k := fb_x (show (244 : Int32) = nI 244 from rfl) (by decide) (by decide) k
theorem cK0 {b : Nat} {σ : fS} {P : aP} (hp : PV b σ P) (hz : aSz P) {i : Nat} (hi : i < (P.1 4).length) : f_X5_at (b + 9) 8 4 (nI i) (0 : Int32) σ = some (nI (tg (P.1 4) i 0), σ) := cK hp hz hi rfl (by decide)
theorem mK0 {σ : fS} {P : aP} (hg : GV (σ 165) P) (hz : aSz P) {i : Nat} (hi : i < (P.1 4).length) : f_X8_connectionOf (nI i) (0 : Int32) σ = some (nI (tg (P.1 4) i 0), σ) := mK hg hz hi rfl (by decide)
theorem cK1 {b : Nat} {σ : fS} {P : aP} (hp : PV b σ P) (hz : aSz P) {i : Nat} (hi : i < (P.1 4).length) : f_X5_at (b + 9) 8 4 (nI i) (1 : Int32) σ = some (nI (tg (P.1 4) i 1), σ) := cK hp hz hi rfl (by decide)
theorem mK1 {σ : fS} {P : aP} (hg : GV (σ 165) P) (hz : aSz P) {i : Nat} (hi : i < (P.1 4).length) : f_X8_connectionOf (nI i) (1 : Int32) σ = some (nI (tg (P.1 4) i 1), σ) := mK hg hz hi rfl (by decide)
theorem cK2 {b : Nat} {σ : fS} {P : aP} (hp : PV b σ P) (hz : aSz P) {i : Nat} (hi : i < (P.1 4).length) : f_X5_at (b + 9) 8 4 (nI i) (2 : Int32) σ = some (nI (tg (P.1 4) i 2), σ) := cK hp hz hi rfl (by decide)
theorem mK2 {σ : fS} {P : aP} (hg : GV (σ 165) P) (hz : aSz P) {i : Nat} (hi : i < (P.1 4).length) : f_X8_connectionOf (nI i) (2 : Int32) σ = some (nI (tg (P.1 4) i 2), σ) := mK hg hz hi rfl (by decide)
theorem cK3 {b : Nat} {σ : fS} {P : aP} (hp : PV b σ P) (hz : aSz P) {i : Nat} (hi : i < (P.1 4).length) : f_X5_at (b + 9) 8 4 (nI i) (3 : Int32) σ = some (nI (tg (P.1 4) i 3), σ) := cK hp hz hi rfl (by decide)
theorem mK3 {σ : fS} {P : aP} (hg : GV (σ 165) P) (hz : aSz P) {i : Nat} (hi : i < (P.1 4).length) : f_X8_connectionOf (nI i) (3 : Int32) σ = some (nI (tg (P.1 4) i 3), σ) := mK hg hz hi rfl (by decide)
theorem nI_div60 {t : Nat} (h : t < 3000) : nI t / (60 : Int32) = nI (t / 60) := by
  have : ∀ a, a < 50 → ∀ b, b < 60 → nI (60 * a + b) / (60 : Int32) = nI a := by decide +kernel
  have h := this (t / 60) (by omega) (t % 60) (by omega)
  rw [Nat.div_add_mod] at h
  exact h
theorem nI_rem60 {t : Nat} (h : t < 3000) : nI t - (60 : Int32) * (nI t / (60 : Int32)) = nI (t % 60) := by
  have : ∀ a, a < 50 → ∀ b, b < 60 → nI (60 * a + b) - (60 : Int32) * (nI (60 * a + b) / (60 : Int32)) = nI b := by decide +kernel
  have h := this (t / 60) (by omega) (t % 60) (by omega)
  rw [Nat.div_add_mod] at h
  exact h
theorem nI_rem60' {t : Nat} (h : t < 3000) : nI t - nI t / (60 : Int32) * (60 : Int32) = nI (t % 60) := by
  have : ∀ a, a < 50 → ∀ b, b < 60 → nI (60 * a + b) - nI (60 * a + b) / (60 : Int32) * (60 : Int32) = nI b := by decide +kernel
  have h := this (t / 60) (by omega) (t % 60) (by omega)
  rw [Nat.div_add_mod] at h
  exact h
theorem cT {b : Nat} {σ : fS} {P : aP} (hp : PV b σ P) {i : Nat} (hi : i < 49) : f_X5_at (b + 11) 49 1 (nI i) (0 : Int32) σ = some (P.2.1 i, σ) := by
  rw [p_atR (t := b + 11) hp.2.1 (by decide) (by decide) (by decide) (by decide) rfl (show (0 : Int32) = nI 0 from rfl) hi (by decide), show σ (b + 11 + 1) (i * 1 + 0) = P.2.1 i from by rw [show i * 1 + 0 = i by omega]; exact hp.2.2.2.1 i hi]
theorem cW {b : Nat} {σ : fS} {P : aP} (hp : PV b σ P) {i : Nat} (hi : i < 48) : f_X5_at (b + 13) 48 1 (nI i) (0 : Int32) σ = some (nI (P.2.2.1 i), σ) := by
  rw [p_atR (t := b + 13) hp.2.2.1 (by decide) (by decide) (by decide) (by decide) rfl (show (0 : Int32) = nI 0 from rfl) hi (by decide), show σ (b + 13 + 1) (i * 1 + 0) = nI (P.2.2.1 i) from by rw [show i * 1 + 0 = i by omega]; exact hp.2.2.2.2.1 i hi]
theorem c_windAt {b : Nat} {σ : fS} {P : aP} (hp : PV b σ P) {t : Nat} (ht : t < 2880) : f_X3_windAt b (nI t) σ = some (nI (P.2.2.1 (t / 60)), σ) := by
  unfold f_X3_windAt
  rw [nI_div60 (by omega), cW hp (by omega), fcall_ok]
theorem c_windLimitOf {b : Nat} {σ : fS} {P : aP} (hp : PV b σ P) (hok : aOK P) {i : Nat} (hi : i < (P.1 2).length) : f_X3_windLimitOf b (nI i) σ = some (nI (tg (P.1 0) (tg (P.1 2) i 0) 3), σ) := by
  unfold f_X3_windLimitOf
  rw [cC0 hp hok.1 hi, fcall_ok, cS3 hp hok.1 (hok.2.2.2.1 i hi).1, fcall_ok]
theorem c_lanesOf {b : Nat} {σ : fS} {P : aP} (hp : PV b σ P) (hok : aOK P) {i : Nat} (hi : i < (P.1 2).length) : f_X3_lanesOf b (nI i) σ = some (nI (tg (P.1 0) (tg (P.1 2) i 0) 1), σ) := by
  unfold f_X3_lanesOf
  rw [cC0 hp hok.1 hi, fcall_ok, cS1 hp hok.1 (hok.2.2.2.1 i hi).1, fcall_ok]
theorem c_laneLengthOf {b : Nat} {σ : fS} {P : aP} (hp : PV b σ P) (hok : aOK P) {i : Nat} (hi : i < (P.1 2).length) : f_X3_laneLengthOf b (nI i) σ = some (nI (tg (P.1 0) (tg (P.1 2) i 0) 2), σ) := by
  unfold f_X3_laneLengthOf
  rw [cC0 hp hok.1 hi, fcall_ok, cS2 hp hok.1 (hok.2.2.2.1 i hi).1, fcall_ok]
theorem c_rampsOf {b : Nat} {σ : fS} {P : aP} (hp : PV b σ P) (hok : aOK P) {i : Nat} (hi : i < (P.1 2).length) : f_X3_rampsOf b (nI i) σ = some (nI (tg (P.1 1) (tg (P.1 2) i 1) 1), σ) := by
  unfold f_X3_rampsOf
  rw [cC1 hp hok.1 hi, fcall_ok, cB1 hp hok.1 (hok.2.2.2.1 i hi).2.1, fcall_ok]
theorem c_readyTime {b : Nat} {σ : fS} {P : aP} (hp : PV b σ P) (hok : aOK P) {i : Nat} (hi : i < (P.1 4).length) : f_X0_readyTime b (nI i) σ = some (nI (tg (P.1 4) i 1 + 10), σ) := by
  unfold f_X0_readyTime
  rw [cK1 hp hok.1 hi, fcall_ok, show nI (tg (P.1 4) i 1) + (10 : Int32) = nI (tg (P.1 4) i 1 + 10) from nI_add _ 10]
/-! ===== heights ===== -/
def hM (t : Nat) : UInt32 := FP.fdiv (FP.i2f (nI (t % 60))) (1114636288 : UInt32)
def hX (P : aP) (t : Nat) : UInt32 := FP.fsub (FP.i2f (P.2.1 (t / 60 + 1))) (FP.i2f (P.2.1 (t / 60)))
def hF (P : aP) (t : Nat) : UInt32 := FP.fadd (FP.i2f (P.2.1 (t / 60))) (FP.fmul (hX P t) (hM t))
/-- no step of a height is NaN -/
def hNN (P : aP) (t : Nat) : Prop := hX P t &&& 0x7fffffff ≤ 0x7f800000 ∧ hM t &&& 0x7fffffff ≤ 0x7f800000 ∧ FP.fmul (hX P t) (hM t) &&& 0x7fffffff ≤ 0x7f800000 ∧ hF P t &&& 0x7fffffff ≤ 0x7f800000

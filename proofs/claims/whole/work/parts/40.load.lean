/-! ===== how vehicles are loaded ===== -/
def laN (P : aP) (c : Nat) : Nat := tg (P.1 0) (tg (P.1 2) c 0) 1
def laL (P : aP) (c : Nat) : Nat := tg (P.1 0) (tg (P.1 2) c 0) 2
def rmP (P : aP) (c : Nat) : Nat := tg (P.1 1) (tg (P.1 2) c 1) 1
theorem laN_b {P : aP} (hok : aOK P) {c : Nat} (hc : c < (P.1 2).length) : 1 ≤ laN P c ∧ laN P c ≤ 4 := by
  have h := hok.2.1 _ (hok.2.2.2.1 c hc).1
  unfold laN
  omega
theorem laL_b {P : aP} (hok : aOK P) {c : Nat} (hc : c < (P.1 2).length) : 10 ≤ laL P c ∧ laL P c ≤ 200 := by
  have h := hok.2.1 _ (hok.2.2.2.1 c hc).1
  unfold laL
  omega
theorem rmP_b {P : aP} (hok : aOK P) {c : Nat} (hc : c < (P.1 2).length) : 1 ≤ rmP P c ∧ rmP P c ≤ 2 := by
  have h := hok.2.2.1 _ (hok.2.2.2.1 c hc).2.1
  unfold rmP
  omega
/-- how many wait, who waits, how many stand in a lane, who stands there, what is left of it, shifts, where a vehicle stands -/
abbrev aL : Type := (Nat → Nat) × (Nat → Nat → Nat) × (Nat → Nat) × (Nat → Nat → Nat) × (Nat → Nat) × (Nat → Nat) × (Nat → Option (Nat × Nat × Nat))
def ql (S : aL) : Nat → Nat := S.1
def qv (S : aL) : Nat → Nat → Nat := S.2.1
def ll (S : aL) : Nat → Nat := S.2.2.1
def lv (S : aL) : Nat → Nat → Nat := S.2.2.2.1
def lf (S : aL) : Nat → Nat := S.2.2.2.2.1
def sh (S : aL) : Nat → Nat := S.2.2.2.2.2.1
def ab (S : aL) : Nat → Option (Nat × Nat × Nat) := S.2.2.2.2.2.2
def up2 (f : Nat → Nat → Nat) (c i v : Nat) : Nat → Nat → Nat := fun a b => if a = c ∧ b = i then v else f a b
theorem up2_self (f : Nat → Nat → Nat) (c i v : Nat) : up2 f c i v c i = v := if_pos ⟨rfl, rfl⟩
theorem up2_ne {f : Nat → Nat → Nat} {c i v a b : Nat} (h : ¬ (a = c ∧ b = i)) : up2 f c i v a b = f a b := if_neg h
def joinS (S : aL) (c v : Nat) : aL := (up1 (ql S) c (ql S c + 1), up2 (qv S) c (ql S c) v, S.2.2)
def shiftS (S : aL) (v : Nat) : aL := (ql S, qv S, ll S, lv S, lf S, up1 (sh S) v (sh S v + 1), ab S)
def boardS (P : aP) (S : aL) (c l v : Nat) : aL := (ql S, qv S, up1 (ll S) (4 * c + l) (ll S (4 * c + l) + 1), up2 (lv S) (4 * c + l) (ll S (4 * c + l)) v, up1 (lf S) (4 * c + l) (lf S (4 * c + l) - tg (P.1 3) v 1), sh S, up1 (ab S) v (some (c, l, ll S (4 * c + l))))
def mayB (P : aP) (S : aL) (c l v : Nat) : Bool := decide (ll S (4 * c + l) = 0 ∨ (if rmP P c = 1 then tg (P.1 3) v 2 ≤ tg (P.1 3) (lv S (4 * c + l) (ll S (4 * c + l) - 1)) 2 else tg (P.1 3) (lv S (4 * c + l) (ll S (4 * c + l) - 1)) 2 ≤ tg (P.1 3) v 2))
def betB (S : aL) (c l : Nat) : Option Nat → Bool
  | none => true
  | some m => decide (lf S (4 * c + l) < lf S (4 * c + m))
def canB (P : aP) (S : aL) (c v l : Nat) (b : Option Nat) : Bool := decide (tg (P.1 3) v 1 ≤ lf S (4 * c + l)) && (betB S c l b && mayB P S c l v)
def pickF (P : aP) (S : aL) (c v : Nat) : Nat → Nat → Option Nat → Option Nat
  | 0, _, b => b
  | d + 1, l, b => pickF P S c v d (l + 1) (if canB P S c v l b = true then some l else b)
def pickL (P : aP) (S : aL) (c v : Nat) : Option Nat := pickF P S c v (laN P c) 0 none
def nxtB (P : aP) (c n : Nat) : Bool := decide ((dA P).1 (ord P n) = 0 ∧ tg (P.1 2) c 3 < tg (P.1 2) (ord P n) 3)
def nxtF (P : aP) (c : Nat) : Option Nat := fstI (nxtB P c) (pos P c + 1) ((P.1 2).length - (pos P c + 1))
def whereF (P : aP) (S : aL) (c v : Nat) : Option Nat := if (dA P).1 c = 0 then pickL P S c v else none
def loadS (P : aP) (S : aL) (c v : Nat) : aL := match whereF P S c v with
  | some l => boardS P S c l v
  | none => match nxtF P c with
    | some n => joinS (shiftS S v) (ord P n) v
    | none => S
def loadN (P : aP) (c : Nat) (S : aL) : Nat → aL
  | 0 => S
  | i + 1 => loadS P (loadN P c S i) c (qv (loadN P c S i) c i)
def lIni (P : aP) : aL := (fun _ => 0, fun _ _ => 0, fun _ => 0, fun _ _ => 0, fun k => laL P (k / 4), fun _ => 0, fun _ => none)
def lVe (P : aP) : Nat → aL
  | 0 => lIni P
  | v + 1 => joinS (lVe P v) (tg (P.1 3) v 0) v
def lPl (P : aP) : Nat → aL
  | 0 => lVe P (P.1 3).length
  | n + 1 => loadN P (ord P n) (lPl P n) (ql (lPl P n) (ord P n))
def lA (P : aP) : aL := lPl P (P.1 2).length
theorem pickF_some {P : aP} {S : aL} {c v : Nat} : ∀ d l b m, pickF P S c v d l b = some m → (∀ k, b = some k → k < l + d ∧ tg (P.1 3) v 1 ≤ lf S (4 * c + k)) → m < l + d ∧ tg (P.1 3) v 1 ≤ lf S (4 * c + m) := by
  intro d
  induction d with
  | zero => intro l b m h hb; exact hb m h
  | succ d ih =>
    intro l b m h hb
    have := ih (l + 1) _ m h (fun k hk => by
      by_cases hc : canB P S c v l b = true
      · rw [if_pos hc] at hk
        cases hk
        unfold canB at hc
        refine ⟨by omega, ?_⟩
        simp at hc
        exact hc.1
      · rw [if_neg hc] at hk
        have := hb k hk
        exact ⟨by omega, this.2⟩)
    exact ⟨by omega, this.2⟩
theorem pickL_some {P : aP} {S : aL} {c v l : Nat} (h : pickL P S c v = some l) : l < laN P c ∧ tg (P.1 3) v 1 ≤ lf S (4 * c + l) := by
  have := pickF_some _ _ _ _ h (fun k hk => by cases hk)
  rw [Nat.zero_add] at this
  exact this
theorem whereF_some {P : aP} {S : aL} {c v l : Nat} (h : whereF P S c v = some l) : l < laN P c ∧ tg (P.1 3) v 1 ≤ lf S (4 * c + l) := by
  unfold whereF at h
  split at h
  · exact pickL_some h
  · cases h
theorem nxtF_some {P : aP} {c n : Nat} (hc : c < (P.1 2).length) (h : nxtF P c = some n) : pos P c < n ∧ n < (P.1 2).length ∧ ord P n ≠ c := by
  have hp := pos_lt hc
  obtain ⟨a, b, d⟩ := fstI_some _ _ _ h
  have d := (of_decide_eq_true d).2
  exact ⟨by omega, by omega, fun e => by rw [e] at d; omega⟩
/-- the queue of the crossing at hand stays -/
theorem loadS_q {P : aP} {S : aL} {c v : Nat} (hc : c < (P.1 2).length) : ql (loadS P S c v) c = ql S c ∧ ∀ i, qv (loadS P S c v) c i = qv S c i := by
  unfold loadS
  split
  · exact ⟨rfl, fun _ => rfl⟩
  · split
    · rename_i n hn
      have hne := (nxtF_some hc hn).2.2
      exact ⟨up1_ne (Ne.symm hne), fun i => up2_ne (fun e => hne e.1.symm)⟩
    · exact ⟨rfl, fun _ => rfl⟩
theorem loadN_q {P : aP} {S : aL} {c : Nat} (hc : c < (P.1 2).length) : ∀ j, ql (loadN P c S j) c = ql S c ∧ ∀ i, qv (loadN P c S j) c i = qv S c i := by
  intro j
  induction j with
  | zero => exact ⟨rfl, fun _ => rfl⟩
  | succ j ih =>
    have h := loadS_q (P := P) (S := loadN P c S j) (c := c) (v := qv (loadN P c S j) c j) hc
    exact ⟨h.1.trans ih.1, fun i => (h.2 i).trans (ih.2 i)⟩
/-- so many different numbers below V are at most V -/
theorem inj_le {f : Nat → Nat} {n V : Nat} (h1 : ∀ i, i < n → f i < V) (h2 : ∀ i j, i < n → j < n → f i = f j → i = j) : n ≤ V := by
  rcases Nat.lt_or_ge V n with h | h
  · obtain ⟨i, hi, e⟩ := pigeon (V + 1) f (fun i hi => by have := h1 i (by omega); omega) (fun i j a b e => h2 i j (by omega) (by omega) e) V (by omega)
    have := h1 i (by omega)
    omega
  · exact h
/-- does a vehicle stand in this lane -/
def atB (a : Option (Nat × Nat × Nat)) (c l : Nat) : Bool := match a with
  | none => false
  | some (c', l', _) => decide (c' = c ∧ l' = l)
theorem sumN_up {g h : Nat → Nat} {m x : Nat} : ∀ d i, i ≤ m → m < i + d → (∀ k, k ≠ m → g k = h k) → g m = h m + x → sumN g i d = sumN h i d + x := by
  intro d
  induction d with
  | zero => intro i a b; omega
  | succ d ih =>
    intro i a b hk hm
    unfold sumN
    by_cases him : i = m
    · subst him
      rw [sumN_congr (g := g) (h := h) d (i + 1) (fun k x y => hk k (by omega)), hm]
      omega
    · rw [hk i him, ih (i + 1) (by omega) (by omega) hk hm]
      omega
/-- what holds while the crossing at place n is loaded, with j of its queue done -/
def VI (P : aP) (n j : Nat) (S : aL) : Prop :=
  (∀ c, c < (P.1 2).length → ql S c ≤ 24) ∧
  (∀ m, n ≤ m → m < (P.1 2).length → (∀ i, i < ql S (ord P m) → qv S (ord P m) i < (P.1 3).length) ∧ ∀ i k, i < ql S (ord P m) → k < ql S (ord P m) → qv S (ord P m) i = qv S (ord P m) k → i = k) ∧
  (∀ m m', n ≤ m → m < m' → m' < (P.1 2).length → ∀ i k, (if m = n then j else 0) ≤ i → i < ql S (ord P m) → k < ql S (ord P m') → qv S (ord P m) i ≠ qv S (ord P m') k) ∧
  (∀ m, n ≤ m → m < (P.1 2).length → ∀ i, (if m = n then j else 0) ≤ i → i < ql S (ord P m) → ab S (qv S (ord P m) i) = none) ∧
  (∀ c l, c < (P.1 2).length → l < 4 → ∀ i, i < ll S (4 * c + l) → lv S (4 * c + l) i < (P.1 3).length ∧ ab S (lv S (4 * c + l) i) = some (c, l, i)) ∧
  (∀ v, v < (P.1 3).length → ∀ c l i, ab S v = some (c, l, i) → c < (P.1 2).length ∧ l < 4 ∧ i < ll S (4 * c + l) ∧ lv S (4 * c + l) i = v) ∧
  (∀ c l, c < (P.1 2).length → l < 4 → ll S (4 * c + l) = sumN (fun v => if atB (ab S v) c l = true then 1 else 0) 0 (P.1 3).length) ∧
  (∀ c l, c < (P.1 2).length → l < 4 → lf S (4 * c + l) + sumN (fun v => if atB (ab S v) c l = true then tg (P.1 3) v 1 else 0) 0 (P.1 3).length = laL P c) ∧
  (∀ c l, c < (P.1 2).length → l < 4 → laN P c ≤ l → ll S (4 * c + l) = 0)
theorem lane_eq {c l c' l' : Nat} (hl : l < 4) (hl' : l' < 4) : 4 * c' + l' = 4 * c + l ↔ (c' = c ∧ l' = l) := by omega
theorem VI.next {P : aP} {n : Nat} {S : aL} (hn : n < (P.1 2).length) (h : VI P n (ql S (ord P n)) S) : VI P (n + 1) 0 S := by
  obtain ⟨v1, v2, v3, v4, v5⟩ := h
  refine ⟨v1, fun m a b => v2 m (by omega) b, fun m m' a b d i k e f g => v3 m m' (by omega) b d i k (by rw [if_neg (by omega)]; omega) f g, fun m a b i e f => v4 m (by omega) b i (by rw [if_neg (by omega)]; omega) f, v5⟩
theorem VI.lane24 {P : aP} {n j : Nat} {S : aL} (hz : (P.1 3).length ≤ 24) (h : VI P n j S) {c l v : Nat} (hc : c < (P.1 2).length) (hl : l < 4) (hv : v < (P.1 3).length) (hab : ab S v = none) : ll S (4 * c + l) < 24 := by
  rw [h.2.2.2.2.2.2.1 c l hc hl]
  have := sumN_lt (g := fun v => if atB (ab S v) c l = true then 1 else 0) (h := fun _ => 1) (P.1 3).length 0 v (fun k _ _ => by split <;> omega) (by omega) (by omega) (by rw [hab]; exact Nat.lt_succ_self 0)
  rw [sumN_one] at this
  omega
/-- boarding -/
theorem VI.board {P : aP} {n j : Nat} {S : aL} (hok : aOK P) (h : VI P n j S) (hn : n < (P.1 2).length) (hj : j < ql S (ord P n)) {l : Nat} (hl : l < laN P (ord P n)) (hfit : tg (P.1 3) (qv S (ord P n) j) 1 ≤ lf S (4 * ord P n + l)) : VI P n (j + 1) (boardS P S (ord P n) l (qv S (ord P n) j)) := by
  have hc := (pos_ord hn).1
  have hl4 : l < 4 := by have := laN_b hok hc; omega
  obtain ⟨v1, v2, v3, v4, v5, v6, v7, v8, v9⟩ := h
  have hv := (v2 n (Nat.le_refl _) hn).1 j hj
  have hab := v4 n (Nat.le_refl _) hn j (by rw [if_pos rfl]; omega) hj
  have hinj := (v2 n (Nat.le_refl _) hn).2
  -- later waiters are other vehicles
  have hoth : ∀ m, n ≤ m → m < (P.1 2).length → ∀ i, (if m = n then j + 1 else 0) ≤ i → i < ql S (ord P m) → qv S (ord P m) i ≠ qv S (ord P n) j := fun m a b i e f => by
    by_cases hm : m = n
    · subst hm
      rw [if_pos rfl] at e
      exact fun x => by have := hinj i j f hj x; omega
    · rw [if_neg hm] at e
      exact fun x => v3 n m (Nat.le_refl _) (by omega) b j i (by rw [if_pos rfl]; omega) hj f x.symm
  generalize hve : qv S (ord P n) j = v at *
  generalize ord P n = c at *
  have hnl : ∀ c' l', c' < (P.1 2).length → l' < 4 → ∀ i, i < ll S (4 * c' + l') → lv S (4 * c' + l') i ≠ v := fun c' l' a b i e x => by
    have := (v5 c' l' a b i e).2
    rw [x, hab] at this
    cases this
  refine ⟨v1, v2, fun m m' a b d i k e f g => ?_, fun m a b i e f => ?_, fun c' l' a b i e => ?_, fun w hw c' l' i e => ?_, fun c' l' a b => ?_, fun c' l' a b => ?_, fun c' l' a b d => ?_⟩
  · refine v3 m m' a b d i k ?_ f g
    split at e
    · rename_i hm; rw [if_pos hm]; omega
    · rename_i hm; rw [if_neg hm]; omega
  · have hne := hoth m a b i e f
    show up1 (ab S) v _ (qv S (ord P m) i) = none
    rw [up1_ne hne]
    refine v4 m a b i ?_ f
    split at e
    · rename_i hm; rw [if_pos hm]; omega
    · rename_i hm; rw [if_neg hm]; omega
  · have e : i < up1 (ll S) (4 * c + l) (ll S (4 * c + l) + 1) (4 * c' + l') := e
    show up2 (lv S) (4 * c + l) (ll S (4 * c + l)) v (4 * c' + l') i < _ ∧ up1 (ab S) v (some (c, l, ll S (4 * c + l))) (up2 (lv S) (4 * c + l) (ll S (4 * c + l)) v (4 * c' + l') i) = _
    by_cases hk : 4 * c' + l' = 4 * c + l
    · obtain ⟨rfl, rfl⟩ := (lane_eq hl4 b).mp hk
      rw [up1_self] at e
      by_cases hi : i = ll S (4 * c' + l')
      · subst hi
        rw [up2_self, up1_self]
        exact ⟨hv, rfl⟩
      · have := v5 c' l' a b i (by omega)
        rw [up2_ne (fun x => hi x.2), up1_ne (hnl c' l' a b i (by omega))]
        exact this
    · rw [up1_ne hk] at e
      have := v5 c' l' a b i e
      rw [up2_ne (fun x => hk x.1), up1_ne (hnl c' l' a b i e)]
      exact this
  · have e : up1 (ab S) v (some (c, l, ll S (4 * c + l))) w = some (c', l', i) := e
    show _ ∧ _ ∧ i < up1 (ll S) (4 * c + l) (ll S (4 * c + l) + 1) (4 * c' + l') ∧ up2 (lv S) (4 * c + l) (ll S (4 * c + l)) v (4 * c' + l') i = w
    by_cases hwv : w = v
    · subst hwv
      rw [up1_self] at e
      cases e
      rw [up1_self, up2_self]
      exact ⟨hc, hl4, by omega, rfl⟩
    · rw [up1_ne hwv] at e
      obtain ⟨x1, x2, x3, x4⟩ := v6 w hw c' l' i e
      by_cases hk : 4 * c' + l' = 4 * c + l
      · rw [hk, up1_self, up2_ne (fun x => by rw [hk] at x3; omega), ← hk]
        exact ⟨x1, x2, by omega, x4⟩
      · rw [up1_ne hk, up2_ne (fun x => hk x.1)]
        exact ⟨x1, x2, x3, x4⟩
  · show up1 (ll S) (4 * c + l) (ll S (4 * c + l) + 1) (4 * c' + l') = sumN (fun w => if atB (up1 (ab S) v (some (c, l, ll S (4 * c + l))) w) c' l' = true then 1 else 0) 0 _
    by_cases hk : 4 * c' + l' = 4 * c + l
    · obtain ⟨rfl, rfl⟩ := (lane_eq hl4 b).mp hk
      rw [up1_self, v7 c' l' a b]
      refine (sumN_up (m := v) _ 0 (by omega) (by omega) (fun k hk => by rw [up1_ne hk]) ?_).symm
      rw [up1_self, hab]
      simp [atB]
    · rw [up1_ne hk, v7 c' l' a b]
      refine sumN_congr _ 0 (fun k _ _ => ?_)
      by_cases hkv : k = v
      · subst hkv
        rw [up1_self, hab]
        have : ¬ (c = c' ∧ l = l') := fun x => hk (by rw [x.1, x.2])
        simp [atB, this]
      · rw [up1_ne hkv]
  · show up1 (lf S) (4 * c + l) (lf S (4 * c + l) - tg (P.1 3) v 1) (4 * c' + l') + sumN (fun w => if atB (up1 (ab S) v (some (c, l, ll S (4 * c + l))) w) c' l' = true then tg (P.1 3) w 1 else 0) 0 _ = _
    by_cases hk : 4 * c' + l' = 4 * c + l
    · obtain ⟨rfl, rfl⟩ := (lane_eq hl4 b).mp hk
      have h8 := v8 c' l' a b
      rw [up1_self, sumN_up (g := fun w => if atB (up1 (ab S) v (some (c', l', ll S (4 * c' + l'))) w) c' l' = true then tg (P.1 3) w 1 else 0) (h := fun w => if atB (ab S w) c' l' = true then tg (P.1 3) w 1 else 0) (m := v) (x := tg (P.1 3) v 1) _ 0 (by omega) (by omega) (fun k hk => by rw [up1_ne hk]) (by
        rw [up1_self, hab]
        simp [atB])]
      omega
    · rw [up1_ne hk, ← v8 c' l' a b]
      congr 1
      refine sumN_congr _ 0 (fun k _ _ => ?_)
      by_cases hkv : k = v
      · subst hkv
        rw [up1_self, hab]
        have : ¬ (c = c' ∧ l = l') := fun x => hk (by rw [x.1, x.2])
        simp [atB, this]
      · rw [up1_ne hkv]
  · show up1 (ll S) (4 * c + l) (ll S (4 * c + l) + 1) (4 * c' + l') = 0
    rw [up1_ne (fun x => by
      obtain ⟨rfl, rfl⟩ := (lane_eq hl4 b).mp x
      omega)]
    exact v9 c' l' a b d
theorem VI.stay {P : aP} {n j : Nat} {S : aL} (h : VI P n j S) : VI P n (j + 1) S := by
  obtain ⟨v1, v2, v3, v4, v5⟩ := h
  refine ⟨v1, v2, fun m m' a b d i k e f g => v3 m m' a b d i k ?_ f g, fun m a b i e f => v4 m a b i ?_ f, v5⟩
  · split at e
    · rename_i hm; rw [if_pos hm]; omega
    · rename_i hm; rw [if_neg hm]; omega
  · split at e
    · rename_i hm; rw [if_pos hm]; omega
    · rename_i hm; rw [if_neg hm]; omega
/-- a shift leaves room in the queue -/
theorem VI.room {P : aP} {n j : Nat} {S : aL} (hz : (P.1 3).length ≤ 24) (h : VI P n j S) (hn : n < (P.1 2).length) (hj : j < ql S (ord P n)) {m : Nat} (hm : n < m) (hm2 : m < (P.1 2).length) : ql S (ord P m) < 24 := by
  obtain ⟨v1, v2, v3, v4, v5⟩ := h
  have a := v2 m (by omega) hm2
  have b := (v2 n (Nat.le_refl _) hn).1 j hj
  have := inj_le (f := fun i => if i < ql S (ord P m) then qv S (ord P m) i else qv S (ord P n) j) (n := ql S (ord P m) + 1) (V := (P.1 3).length) (fun i hi => by
    split
    · rename_i h; exact a.1 i h
    · exact b) (fun i k hi hk e => by
    split at e
    · rename_i h1
      split at e
      · rename_i h2; exact a.2 i k h1 h2 e
      · exact absurd e.symm (v3 n m (Nat.le_refl _) hm hm2 j i (by rw [if_pos rfl]; omega) hj h1)
    · split at e
      · rename_i h2; exact absurd e (v3 n m (Nat.le_refl _) hm hm2 j k (by rw [if_pos rfl]; omega) hj h2)
      · omega)
  omega
theorem VI.shift {P : aP} {n j : Nat} {S : aL} (hz : (P.1 3).length ≤ 24) (h : VI P n j S) (hn : n < (P.1 2).length) (hj : j < ql S (ord P n)) {m : Nat} (hm : n < m) (hm2 : m < (P.1 2).length) : VI P n (j + 1) (joinS (shiftS S (qv S (ord P n) j)) (ord P m) (qv S (ord P n) j)) := by
  have hroom := h.room hz hn hj hm hm2
  obtain ⟨v1, v2, v3, v4, v5⟩ := h
  have hv := (v2 n (Nat.le_refl _) hn).1 j hj
  have hab := v4 n (Nat.le_refl _) hn j (by rw [if_pos rfl]; omega) hj
  have hinj := (v2 n (Nat.le_refl _) hn).2
  have hoth : ∀ m', n ≤ m' → m' < (P.1 2).length → ∀ i, (if m' = n then j + 1 else 0) ≤ i → i < ql S (ord P m') → qv S (ord P m') i ≠ qv S (ord P n) j := fun m a b i e f => by
    by_cases hm : m = n
    · subst hm
      rw [if_pos rfl] at e
      exact fun x => by have := hinj i j f hj x; omega
    · rw [if_neg hm] at e
      exact fun x => v3 n m (Nat.le_refl _) (by omega) b j i (by rw [if_pos rfl]; omega) hj f x.symm
  have qe : ∀ m', m' < (P.1 2).length → ∀ i, i < up1 (ql S) (ord P m) (ql S (ord P m) + 1) (ord P m') → (i < ql S (ord P m') ∧ up2 (qv S) (ord P m) (ql S (ord P m)) (qv S (ord P n) j) (ord P m') i = qv S (ord P m') i) ∨ (m' = m ∧ i = ql S (ord P m) ∧ up2 (qv S) (ord P m) (ql S (ord P m)) (qv S (ord P n) j) (ord P m') i = qv S (ord P n) j) := fun m' b i e => by
    by_cases hmm : m' = m
    · subst hmm
      rw [up1_self] at e
      by_cases hi : i = ql S (ord P m')
      · subst hi
        exact Or.inr ⟨rfl, rfl, up2_self _ _ _ _⟩
      · exact Or.inl ⟨by omega, up2_ne (fun x => hi x.2)⟩
    · have hne : ord P m' ≠ ord P m := fun x => hmm (ord_inj b hm2 x)
      rw [up1_ne hne] at e
      exact Or.inl ⟨e, up2_ne (fun x => hne x.1)⟩
  refine ⟨fun c hc => ?_, fun m' a b => ⟨fun i e => ?_, fun i k e f g => ?_⟩, fun m1 m2 a b d i k e f g => ?_, fun m' a b i e f => ?_, v5⟩
  · show up1 (ql S) (ord P m) (ql S (ord P m) + 1) c ≤ 24
    by_cases hcm : c = ord P m
    · rw [hcm, up1_self]; omega
    · rw [up1_ne hcm]; exact v1 c hc
  · show up2 (qv S) (ord P m) (ql S (ord P m)) (qv S (ord P n) j) (ord P m') i < _
    rcases qe m' b i e with ⟨x, y⟩ | ⟨x, y, z⟩
    · rw [y]; exact (v2 m' a b).1 i x
    · rw [z]; exact hv
  · have g : up2 (qv S) (ord P m) (ql S (ord P m)) (qv S (ord P n) j) (ord P m') i = up2 (qv S) (ord P m) (ql S (ord P m)) (qv S (ord P n) j) (ord P m') k := g
    rcases qe m' b i e with ⟨x, y⟩ | ⟨x, y, z⟩
    · rcases qe m' b k f with ⟨x', y'⟩ | ⟨x', y', z'⟩
      · rw [y, y'] at g; exact (v2 m' a b).2 i k x x' g
      · rw [y, z'] at g
        exact absurd g (hoth m' a b i (by rw [if_neg (by omega)]; omega) x)
    · rcases qe m' b k f with ⟨x', y'⟩ | ⟨x', y', z'⟩
      · rw [z, y'] at g
        exact absurd g.symm (hoth m' a b k (by rw [if_neg (by omega)]; omega) x')
      · omega
  · show up2 (qv S) (ord P m) (ql S (ord P m)) (qv S (ord P n) j) (ord P m1) i ≠ up2 (qv S) (ord P m) (ql S (ord P m)) (qv S (ord P n) j) (ord P m2) k
    rcases qe m1 (by omega) i f with ⟨x, y⟩ | ⟨x, y, z⟩
    · rcases qe m2 d k g with ⟨x', y'⟩ | ⟨x', y', z'⟩
      · rw [y, y']
        refine v3 m1 m2 a b d i k ?_ x x'
        split at e
        · rename_i hm; rw [if_pos hm]; omega
        · rename_i hm; rw [if_neg hm]; omega
      · rw [y, z']
        exact hoth m1 a (by omega) i e x
    · rcases qe m2 d k g with ⟨x', y'⟩ | ⟨x', y', z'⟩
      · rw [z, y']
        exact fun q => hoth m2 (by omega) d k (by rw [if_neg (by omega)]; omega) x' q.symm
      · omega
  · show ab S (up2 (qv S) (ord P m) (ql S (ord P m)) (qv S (ord P n) j) (ord P m') i) = none
    rcases qe m' b i f with ⟨x, y⟩ | ⟨x, y, z⟩
    · rw [y]
      refine v4 m' a b i ?_ x
      split at e
      · rename_i hm; rw [if_pos hm]; omega
      · rename_i hm; rw [if_neg hm]; omega
    · rw [z]; exact hab
theorem VI.load {P : aP} {n j : Nat} {S : aL} (hok : aOK P) (h : VI P n j S) (hn : n < (P.1 2).length) (hj : j < ql S (ord P n)) : VI P n (j + 1) (loadS P S (ord P n) (qv S (ord P n) j)) := by
  have hz : (P.1 3).length ≤ 24 := hok.1 3 (by decide)
  obtain ⟨hc, hpc⟩ := pos_ord hn
  unfold loadS
  split
  · rename_i l hl
    have := whereF_some hl
    exact h.board hok hn hj this.1 this.2
  · split
    · rename_i m hm
      have := nxtF_some hc hm
      rw [hpc] at this
      exact h.shift hz hn hj this.1 this.2.1
    · exact h.stay
theorem VI.loadN {P : aP} {n : Nat} {S : aL} (hok : aOK P) (h : VI P n 0 S) (hn : n < (P.1 2).length) : ∀ j, j ≤ ql S (ord P n) → VI P n j (loadN P (ord P n) S j) := by
  intro j
  induction j with
  | zero => intro _; exact h
  | succ j ih =>
    intro hj
    have hc := (pos_ord hn).1
    exact (ih (by omega)).load hok hn (by rw [(loadN_q hc j).1]; omega)
theorem lVe_inv {P : aP} (hok : aOK P) : ∀ v, v ≤ (P.1 3).length → (∀ c, ql (lVe P v) c ≤ v) ∧ (∀ c i, i < ql (lVe P v) c → qv (lVe P v) c i < v ∧ tg (P.1 3) (qv (lVe P v) c i) 0 = c) ∧ (∀ c i k, i < ql (lVe P v) c → k < ql (lVe P v) c → qv (lVe P v) c i = qv (lVe P v) c k → i = k) ∧ (lVe P v).2.2 = (lIni P).2.2 := by
  intro v
  induction v with
  | zero => intro _; exact ⟨fun _ => Nat.le_refl _, fun c i h => absurd h (Nat.not_lt_zero _), fun c i k h => absurd h (Nat.not_lt_zero _), rfl⟩
  | succ v ih =>
    intro hv
    obtain ⟨h1, h2, h3, h4⟩ := ih (by omega)
    have qe : ∀ c i, i < up1 (ql (lVe P v)) (tg (P.1 3) v 0) (ql (lVe P v) (tg (P.1 3) v 0) + 1) c → (i < ql (lVe P v) c ∧ up2 (qv (lVe P v)) (tg (P.1 3) v 0) (ql (lVe P v) (tg (P.1 3) v 0)) v c i = qv (lVe P v) c i) ∨ (c = tg (P.1 3) v 0 ∧ i = ql (lVe P v) c ∧ up2 (qv (lVe P v)) (tg (P.1 3) v 0) (ql (lVe P v) (tg (P.1 3) v 0)) v c i = v) := fun c i e => by
      by_cases hc : c = tg (P.1 3) v 0
      · subst hc
        rw [up1_self] at e
        by_cases hi : i = ql (lVe P v) (tg (P.1 3) v 0)
        · subst hi
          exact Or.inr ⟨rfl, rfl, up2_self _ _ _ _⟩
        · exact Or.inl ⟨by omega, up2_ne (fun x => hi x.2)⟩
      · rw [up1_ne hc] at e
        exact Or.inl ⟨e, up2_ne (fun x => hc x.1)⟩
    refine ⟨fun c => ?_, fun c i e => ?_, fun c i k e f g => ?_, h4⟩
    · show up1 (ql (lVe P v)) (tg (P.1 3) v 0) (ql (lVe P v) (tg (P.1 3) v 0) + 1) c ≤ v + 1
      have := h1 c
      have := h1 (tg (P.1 3) v 0)
      unfold up1
      split <;> omega
    · show up2 (qv (lVe P v)) (tg (P.1 3) v 0) (ql (lVe P v) (tg (P.1 3) v 0)) v c i < v + 1 ∧ tg (P.1 3) (up2 (qv (lVe P v)) (tg (P.1 3) v 0) (ql (lVe P v) (tg (P.1 3) v 0)) v c i) 0 = c
      rcases qe c i e with ⟨x, y⟩ | ⟨x, y, z⟩
      · rw [y]
        have := h2 c i x
        exact ⟨by omega, this.2⟩
      · rw [z]
        exact ⟨by omega, x.symm⟩
    · have g : up2 (qv (lVe P v)) (tg (P.1 3) v 0) (ql (lVe P v) (tg (P.1 3) v 0)) v c i = up2 (qv (lVe P v)) (tg (P.1 3) v 0) (ql (lVe P v) (tg (P.1 3) v 0)) v c k := g
      rcases qe c i e with ⟨x, y⟩ | ⟨x, y, z⟩
      · rcases qe c k f with ⟨x', y'⟩ | ⟨x', y', z'⟩
        · rw [y, y'] at g; exact h3 c i k x x' g
        · rw [y, z'] at g
          have := (h2 c i x).1
          omega
      · rcases qe c k f with ⟨x', y'⟩ | ⟨x', y', z'⟩
        · rw [z, y'] at g
          have := (h2 c k x').1
          omega
        · omega
theorem VI_ini {P : aP} (hok : aOK P) : VI P 0 0 (lVe P (P.1 3).length) := by
  have hz : (P.1 3).length ≤ 24 := hok.1 3 (by decide)
  obtain ⟨h1, h2, h3, h4⟩ := lVe_inv hok _ (Nat.le_refl _)
  have e1 : ∀ k, ll (lVe P (P.1 3).length) k = 0 := fun k => by unfold ll; rw [h4]; rfl
  have e2 : ∀ v, ab (lVe P (P.1 3).length) v = none := fun v => by unfold ab; rw [h4]; rfl
  have e3 : ∀ k, lf (lVe P (P.1 3).length) k = laL P (k / 4) := fun k => by unfold lf; rw [h4]; rfl
  have s0 : ∀ d i, sumN (fun _ => 0) i d = 0 := by
    intro d
    induction d with
    | zero => intro i; rfl
    | succ d ih => intro i; unfold sumN; rw [ih]
  refine ⟨fun c _ => by have := h1 c; omega, fun m _ hm => ⟨fun i hi => (h2 _ i hi).1, fun i k hi hk e => h3 _ i k hi hk e⟩, fun m m' _ hm hm' i k _ hi hk e => ?_, fun m _ _ i _ _ => e2 _, fun c l _ _ i hi => ?_, fun v _ c l i e => ?_, fun c l _ _ => ?_, fun c l _ hl => ?_, fun c l _ _ _ => e1 _⟩
  · have a := (h2 _ i hi).2
    have b := (h2 _ k hk).2
    rw [e, b] at a
    have := ord_inj (by omega) (by omega) a
    omega
  · rw [e1] at hi; omega
  · rw [e2] at e; cases e
  · rw [e1]
    refine (s0 (P.1 3).length 0).symm.trans (sumN_congr _ 0 (fun k _ _ => ?_))
    rw [e2]; rfl
  · rw [e3, show (4 * c + l) / 4 = c by omega]
    have : sumN (fun v => if atB (ab (lVe P (P.1 3).length) v) c l = true then tg (P.1 3) v 1 else 0) 0 (P.1 3).length = 0 := by
      refine (sumN_congr _ 0 (fun k _ _ => ?_)).trans (s0 (P.1 3).length 0)
      rw [e2]; rfl
    rw [this]
    rfl
theorem VI_pl {P : aP} (hok : aOK P) : ∀ n, n ≤ (P.1 2).length → VI P n 0 (lPl P n) := by
  intro n
  induction n with
  | zero => intro _; exact VI_ini hok
  | succ n ih =>
    intro hn
    have h := (ih (by omega)).loadN hok (by omega) _ (Nat.le_refl _)
    have hc := (pos_ord (P := P) (n := n) (by omega)).1
    refine VI.next (by omega) ?_
    show VI P n (ql (loadN P (ord P n) (lPl P n) (ql (lPl P n) (ord P n))) (ord P n)) _
    rw [(loadN_q hc _).1]
    exact h
theorem VI_A {P : aP} (hok : aOK P) : VI P (P.1 2).length 0 (lA P) := VI_pl hok _ (Nat.le_refl _)

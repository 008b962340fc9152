/-! ===== the entries one behind the other ===== -/
def sqF (tx : Nat → Nat) (L : Nat) : Nat → Nat → Bool × Nat
  | 0, p => (false, p)
  | f + 1, p => if (pE tx L p).1 = true then (if (pE tx L p).2.1 = L then (true, L) else if sgn tx L (pE tx L p).2.1 = 59 then sqF tx L f ((pE tx L p).2.1 + 1) else (false, (pE tx L p).2.1)) else (false, (pE tx L p).2.1)
def stF (tx : Nat → Nat) (L : Nat) : Nat → Nat
  | 0 => 0
  | j + 1 => (pE tx L (stF tx L j)).2.1 + 1
def ROW (tx : Nat → Nat) (L : Nat) (s : fS) (j : Nat) : Prop := (∀ c, c < 4 → s 160 (j * 6 + c) = (pE tx L (stF tx L j)).2.2 c) ∧ s 160 (j * 6 + 4) = nI (sgn tx L (stF tx L j)) ∧ s 160 (j * 6 + 5) = nI (stF tx L j)
def SQ (tx : Nat → Nat) (L m : Nat) : Prop := 0 < m ∧ m ≤ 12 ∧ ∀ j, j < m → (pE tx L (stF tx L j)).1 = true ∧ stF tx L j < L ∧ (j + 1 < m → sgn tx L (pE tx L (stF tx L j)).2.1 = 59) ∧ (j + 1 = m → (pE tx L (stF tx L j)).2.1 = L)
theorem sgn_L (tx : Nat → Nat) (L : Nat) : sgn tx L L = 0 := if_neg (Nat.lt_irrefl _)
theorem sqF_le {tx : Nat → Nat} {L : Nat} : ∀ f p, p ≤ L → (sqF tx L f p).2 ≤ L := by
  intro f
  induction f with
  | zero => intro p hp; exact hp
  | succ f ih =>
    intro p hp
    have hb := (pE_b (tx := tx) hp).1
    unfold sqF
    by_cases h1 : (pE tx L p).1 = true
    · rw [if_pos h1]
      by_cases h2 : (pE tx L p).2.1 = L
      · rw [if_pos h2]; exact Nat.le_refl _
      · rw [if_neg h2]
        by_cases h3 : sgn tx L (pE tx L p).2.1 = 59
        · rw [if_pos h3]; exact ih _ (by omega)
        · rw [if_neg h3]; exact hb
    · rw [if_neg h1]; exact hb
theorem c_seq {σ : fS} {tx : Nat → Nat} {L : Nat} (hT : TXc σ tx L) (hL : L ≤ 60) (hb : ∀ i, i < L → tx i ≤ 126) : ∀ f n N s, f + n = 12 → f < N → stF tx L n ≤ L → FC s σ → s 157 4 = nI (stF tx L n) → s 159 3 = nI n → (∀ j, j < n → ROW tx L s j ∧ (pE tx L (stF tx L j)).1 = true ∧ stF tx L j < L ∧ sgn tx L (pE tx L (stF tx L j)).2.1 = 59) → ∃ (r : Int32) (s' : fS), f_X6_findEntries_b14 N (nI n) s = some (r, s') ∧ FC s' σ ∧ ((sqF tx L f (stF tx L n)).1 = false → r = nI (sqF tx L f (stF tx L n)).2) ∧ ((sqF tx L f (stF tx L n)).1 = true → r = -10004 ∧ ∃ m, SQ tx L m ∧ s' 159 3 = nI m ∧ ∀ j, j < m → ROW tx L s' j) := by
  intro f
  induction f with
  | zero =>
    intro n N s hn hN hp hF h4 h3 hr
    obtain ⟨N, rfl⟩ : ∃ m, N = m + 1 := ⟨N - 1, by omega⟩
    have : n = 12 := by omega
    subst this
    rw [f_X6_findEntries_b14, if_pos (show (12 : Int32) ≤ nI 12 from by decide), h4]
    exact ⟨_, s, rfl, hF, fun _ => rfl, fun e => by cases e⟩
  | succ f ih =>
    intro n N s hn hN hp hF h4 h3 hr
    obtain ⟨N, rfl⟩ : ∃ m, N = m + 1 := ⟨N - 1, by omega⟩
    obtain ⟨s1, e1, f1, f2, f3⟩ := c_entry hT hL hb hF h4 hp h3 (by omega)
    obtain ⟨b1, b2⟩ := pE_b (tx := tx) hp
    rw [f_X6_findEntries_b14, if_neg (show ¬ (12 : Int32) ≤ nI n from nI_ge (b := 12) (by omega) (by decide)), e1, fcall_ok]
    unfold sqF
    by_cases h1 : (pE tx L (stF tx L n)).1 = true
    · obtain ⟨g1, g2, g3, g4, g5⟩ := f3 h1
      have b2 := b2 h1
      have row : ∀ t : fS, t 160 = s1 160 → ∀ j, j < n + 1 → ROW tx L t j := fun t ht j hj => by
        unfold ROW
        rw [ht]
        by_cases hjn : j = n
        · rw [hjn]; exact ⟨g2, g3, g4⟩
        · obtain ⟨⟨a, b, c⟩, -⟩ := hr j (by omega)
          have l : j * 6 + 6 ≤ n * 6 := by
            have : (j + 1) * 6 ≤ n * 6 := Nat.mul_le_mul_right 6 (by omega)
            omega
          exact ⟨fun c hc => by rw [g5 _ (by omega)]; exact a c hc, by rw [g5 _ (by omega)]; exact b, by rw [g5 _ (by omega)]; exact c⟩
      rw [if_pos h1, h1, if_neg bI_t, f2, (f1.tx hT).1]
      by_cases h2 : (pE tx L (stF tx L n)).2.1 = L
      · rw [if_pos h2, if_pos (by rw [h2])]
        refine ⟨_, s1, rfl, f1, (fun e => by cases e), fun _ => ⟨rfl, n + 1, ⟨by omega, by omega, fun j hj => ?_⟩, g1, row s1 rfl⟩⟩
        by_cases hjn : j = n
        · rw [hjn]; exact ⟨h1, by omega, fun e => by omega, fun _ => h2⟩
        · obtain ⟨-, a, b, c⟩ := hr j (by omega)
          exact ⟨a, b, fun _ => c, fun e => by omega⟩
      · rw [if_neg h2, if_neg (fun e => h2 (nI_inj (by omega) (by omega) e)), c_passes (x := 59) (ch := 59) rfl (by decide) (f1.tx hT) hL hb (by omega) f2]
        by_cases h5 : sgn tx L (pE tx L (stF tx L n)).2.1 = 59
        · rw [if_pos h5, if_pos h5, fcall_ok, if_neg (by decide), nI_1]
          exact ih (n + 1) N (fu s1 157 4 (nI ((pE tx L (stF tx L n)).2.1 + 1))) (by omega) (by omega) (by show (pE tx L (stF tx L n)).2.1 + 1 ≤ L; omega) ⟨fun q x y z => by rw [fu_cell x]; exact f1.1 q x y z, fun j hj => by rw [fu_slot hj]; exact f1.2 j hj⟩ (fu_self _ _ _ _) (by rw [fu_cell (by decide)]; exact g1) (fun j hj => by
            refine ⟨row _ (by rw [fu_cell (by decide)]) j hj, ?_⟩
            by_cases hjn : j = n
            · rw [hjn]; exact ⟨h1, by omega, h5⟩
            · exact (hr j (by omega)).2)
        · rw [if_neg h5, if_neg h5, fcall_ok, if_pos rfl, f2]
          exact ⟨_, s1, rfl, f1, fun _ => rfl, fun e => by cases e⟩
    · have h1 : (pE tx L (stF tx L n)).1 = false := by cases h : (pE tx L (stF tx L n)).1; rfl; exact absurd h h1
      rw [h1, if_pos bI_f, if_neg (show ¬ false = true by decide), f2]
      exact ⟨_, s1, rfl, f1, fun _ => rfl, fun e => by cases e⟩
theorem m_seq {σ : fS} {tx : Nat → Nat} {L : Nat} (hT : TXm σ tx L) (hL : L ≤ 60) (hb : ∀ i, i < L → tx i ≤ 126) : ∀ f n N p s, f + n = 12 → f < N → 5 * n ≤ p → p ≤ L → FM s σ → s 164 9 = nI p → ((sqF tx L f p).1 = false → ∃ s' : fS, fcall (f_X8_readsEntry s) (fun r2_ σ2 => f_X8_read_b10 N r2_ σ2) = f_X8_read_b46 s' ∧ FM s' σ ∧ s' 164 9 = nI (sqF tx L f p).2) ∧ ((sqF tx L f p).1 = true → ∃ s' : fS, fcall (f_X8_readsEntry s) (fun r2_ σ2 => f_X8_read_b10 N r2_ σ2) = fcallv (f_X8_remembers s') (fun σ1 => fL (fu σ1 164 9 (0 : Int32)) (fun σ2 => f_X8_read_b74 fN ((0 : Int32)) σ2)) ∧ FM s' σ) := by
  intro f
  induction f with
  | zero =>
    intro n N p s hn hN h5 hp hF h9
    obtain ⟨N, rfl⟩ : ∃ m, N = m + 1 := ⟨N - 1, by omega⟩
    have hpL : p = L := by omega
    have epE : pE tx L p = (false, p, fun _ => 0) := by
      unfold pE
      rw [hpL, sgn_L, if_pos (show cntN 0 = 0 from rfl)]
    obtain ⟨s1, e1, f1, f2, -, -⟩ := m_entry hT hL hb hF h9 hp
    rw [epE] at e1 f2
    refine ⟨fun _ => ⟨s1, ?_, f1, f2⟩, fun e => by cases e⟩
    rw [e1, fcall_ok, f_X8_read_b10, if_pos bI_f]
    unfold f_X8_read_b31
    rw [if_pos bI_f]
  | succ f ih =>
    intro n N p s hn hN h5 hp hF h9
    obtain ⟨N, rfl⟩ : ∃ m, N = m + 1 := ⟨N - 1, by omega⟩
    obtain ⟨s1, e1, f1, f2, -, -⟩ := m_entry hT hL hb hF h9 hp
    obtain ⟨b1, b2⟩ := pE_b (tx := tx) hp
    rw [e1, fcall_ok]
    unfold sqF
    rw [f_X8_read_b10]
    by_cases h1 : (pE tx L p).1 = true
    · have b2 := b2 h1
      rw [if_pos h1, h1, if_neg bI_t, m_eats (x := 59) (ch := 59) rfl (by decide) (f1.tx hT) hL hb (by omega) f2]
      unfold f_X8_read_b31
      by_cases h2 : (pE tx L p).2.1 = L
      · rw [if_pos h2, if_neg (by rw [h2, sgn_L]; decide), fcall_ok, if_pos rfl, if_neg bI_t, (f1.tx hT).1, f2, h2, if_pos (nI_le (Nat.le_refl _) (by omega))]
        exact ⟨(fun e => by cases e), fun _ => ⟨s1, rfl, f1⟩⟩
      · rw [if_neg h2]
        by_cases h6 : sgn tx L (pE tx L p).2.1 = 59
        · rw [if_pos h6, if_pos h6, fcall_ok, if_neg (by decide)]
          exact ih (n + 1) N ((pE tx L p).2.1 + 1) (fu s1 164 9 (nI ((pE tx L p).2.1 + 1))) (by omega) (by omega) (by omega) (by omega) f1.at (fu_self _ _ _ _)
        · rw [if_neg h6, if_neg h6, fcall_ok, if_pos rfl, if_neg bI_t, (f1.tx hT).1, f2, if_neg (nI_ge (by omega) (by omega))]
          exact ⟨fun _ => ⟨s1, rfl, f1, f2⟩, fun e => by cases e⟩
    · have h1 : (pE tx L p).1 = false := by cases h : (pE tx L p).1; rfl; exact absurd h h1
      rw [h1, if_pos bI_f, if_neg (show ¬ false = true by decide)]
      unfold f_X8_read_b31
      rw [if_pos bI_f]
      exact ⟨fun _ => ⟨s1, rfl, f1, f2⟩, fun e => by cases e⟩
/-- an entry is made -/
def cOp (k : Nat) (v : Nat → Int32) : fS → Option (Int32 × fS) := if k = 99 then f_X3_enterCrossing 1 (v 0) (v 1) (v 2) (v 3) else if k = 116 then f_X3_changeTide 1 (v 0) (v 1) else if k = 118 then f_X3_enterVehicle 1 (v 0) (v 1) (v 2) else f_X3_changeWind 1 (v 0) (v 1)
def mOp (k : Nat) (v : Nat → Int32) : fS → Option (Int32 × fS) := if k = 99 then f_X8_addsCrossing (v 0) (v 1) (v 2) (v 3) else if k = 116 then f_X8_setsTide (v 0) (v 1) else if k = 118 then f_X8_addsVehicle (v 0) (v 1) (v 2) else f_X8_setsWind (v 0) (v 1)
theorem op_entry (P : aP) (hok : aOK P) (k : Nat) (v : Nat → Int32) : Op P (cOp k v) (mOp k v) := by
  unfold cOp mOp
  by_cases h1 : k = 99
  · rw [if_pos h1, if_pos h1]; exact op_crossing P hok _ _ _ _
  · rw [if_neg h1, if_neg h1]
    by_cases h2 : k = 116
    · rw [if_pos h2, if_pos h2]; exact op_tide P hok _ _
    · rw [if_neg h2, if_neg h2]
      by_cases h3 : k = 118
      · rw [if_pos h3, if_pos h3]; exact op_vehicle P hok _ _ _
      · rw [if_neg h3, if_neg h3]; exact op_wind P hok _ _
theorem c_made {s : fS} {m j k : Nat} {v : Nat → Int32} (h3 : s 159 3 = nI m) (hm : m ≤ 12) (hj : j < m) (hv : ∀ c, c < 4 → s 160 (j * 6 + c) = v c) (hk : s 160 (j * 6 + 4) = nI k) (hk2 : k ≤ 126) : f_X6_makeEntry 1 (nI j) s = cOp k v s := by
  have at' : ∀ (x : Int32) (c : Nat), x = nI c → c < 6 → f_X5_at 159 12 6 (nI j) x s = some (s 160 (j * 6 + c), s) := fun x c hx hc => p_atR (t := 159) h3 hm (by decide) (by decide) (by decide) rfl hx hj hc
  unfold f_X6_makeEntry
  rw [at' 0 0 rfl (by decide), fcall_ok, at' 1 1 rfl (by decide), fcall_ok, at' 2 2 rfl (by decide), fcall_ok, at' 3 3 rfl (by decide), fcall_ok, at' 4 4 rfl (by decide), fcall_ok, hv 0 (by decide), hv 1 (by decide), hv 2 (by decide), hv 3 (by decide), hk, fcall_id, fcall_id, fcall_id, fcall_id]
  have q : ∀ (x : Int32) (m : Nat), x = nI m → m ≤ 126 → k ≠ m → ¬ nI k = x := fun x m hx hm hne e => hne (nI_inj (by omega) (by omega) (e.trans hx))
  unfold cOp
  by_cases h1 : k = 99
  · rw [if_pos (by rw [h1]; rfl), if_pos h1]
  · rw [if_neg (q 99 99 rfl (by decide) h1), if_neg h1]
    by_cases h2 : k = 116
    · rw [if_pos (by rw [h2]; rfl), if_pos h2]
    · rw [if_neg (q 116 116 rfl (by decide) h2), if_neg h2]
      by_cases h3 : k = 118
      · rw [if_pos (by rw [h3]; rfl), if_pos h3]
      · rw [if_neg (q 118 118 rfl (by decide) h3), if_neg h3]
theorem m_does {s : fS} {k : Nat} {v : Nat → Int32} (h10 : s 164 10 = nI k) (hk : cntN k ≠ 0) (hv : ∀ c, c < cntN k → s 170 c = v c) : f_X8_does s = mOp k v s := by
  unfold f_X8_does mOp
  have i0 : (0 : Int32).toNatClampNeg = 0 := rfl
  have i1 : (1 : Int32).toNatClampNeg = 1 := rfl
  have i2 : (2 : Int32).toNatClampNeg = 2 := rfl
  have i3 : (3 : Int32).toNatClampNeg = 3 := rfl
  rw [h10, i0, i1, i2, i3, fcall_id, fcall_id, fcall_id, fcall_id]
  have b0 : ∀ k : Option (Int32 × fS), fb (0 : Int32) 4 k = k := fun k => fb_x (i := 0) rfl (by decide) (by decide) k
  have b1 : ∀ k : Option (Int32 × fS), fb (1 : Int32) 4 k = k := fun k => fb_x (i := 1) rfl (by decide) (by decide) k
  have b2 : ∀ k : Option (Int32 × fS), fb (2 : Int32) 4 k = k := fun k => fb_x (i := 2) rfl (by decide) (by decide) k
  have b3 : ∀ k : Option (Int32 × fS), fb (3 : Int32) 4 k = k := fun k => fb_x (i := 3) rfl (by decide) (by decide) k
  simp only [b0, b1, b2, b3]
  rcases cntN_c hk with ⟨a, b⟩ | ⟨a, b⟩ | ⟨a, b⟩ | ⟨a, b⟩
  · rw [if_pos (show nI k = (99 : Int32) by rw [a]; rfl), if_pos a, hv 0 (by omega), hv 1 (by omega), hv 2 (by omega), hv 3 (by omega)]
  · rw [if_neg (show ¬ nI k = (99 : Int32) by rw [a]; decide), if_pos (show nI k = (116 : Int32) by rw [a]; rfl), if_neg (show ¬ k = 99 by omega), if_pos a, hv 0 (by omega), hv 1 (by omega)]
  · rw [if_neg (show ¬ nI k = (99 : Int32) by rw [a]; decide), if_neg (show ¬ nI k = (116 : Int32) by rw [a]; decide), if_pos (show nI k = (118 : Int32) by rw [a]; rfl), if_neg (show ¬ k = 99 by omega), if_neg (show ¬ k = 116 by omega), if_pos a, hv 0 (by omega), hv 1 (by omega), hv 2 (by omega)]
  · rw [if_neg (show ¬ nI k = (99 : Int32) by rw [a]; decide), if_neg (show ¬ nI k = (116 : Int32) by rw [a]; decide), if_neg (show ¬ nI k = (118 : Int32) by rw [a]; decide), if_neg (show ¬ k = 99 by omega), if_neg (show ¬ k = 116 by omega), if_neg (show ¬ k = 118 by omega), hv 0 (by omega), hv 1 (by omega)]

/-! ===== one entry, the reference ===== -/
theorem p2F_n {tx : Nat → Nat} {L k i p : Nat} (h : ngB tx L k i (p1F i p) = false) : p2F tx L k i p = p1F i p ∧ vaF tx L k i p = nI (nmF tx L 4 (p1F i p) 0).1 := by
  have e : p2F tx L k i p = p1F i p := by unfold p2F; rw [h]; rfl
  refine ⟨e, ?_⟩
  unfold vaF
  rw [e, h, if_neg (by decide), Int32.one_mul]
theorem p2F_y {tx : Nat → Nat} {L k i p : Nat} (h : ngB tx L k i (p1F i p) = true) : p2F tx L k i p = p1F i p + 1 ∧ vaF tx L k i p = -(nI (nmF tx L 4 (p1F i p + 1) 0).1) := by
  have e : p2F tx L k i p = p1F i p + 1 := by unfold p2F; rw [h]; rfl
  refine ⟨e, ?_⟩
  unfold vaF
  rw [e, h, if_pos rfl, Int32.neg_mul, Int32.one_mul]
theorem pNs_s (tx : Nat → Nat) (L k cnt d i p : Nat) (v : Nat → Int32) : pNs tx L k cnt (d + 1) i p v = if 0 < i ∧ sgn tx L p ≠ sepN cnt then (false, p, v) else if p2F tx L k i p < (nmF tx L 4 (p2F tx L k i p) 0).2 then pNs tx L k cnt d (i + 1) (nmF tx L 4 (p2F tx L k i p) 0).2 (up1 v i (vaF tx L k i p)) else (false, (nmF tx L 4 (p2F tx L k i p) 0).2, up1 v i (vaF tx L k i p)) := rfl
theorem m_nums {σ : fS} {tx : Nat → Nat} {L k cnt : Nat} (hT : TXm σ tx L) (hL : L ≤ 60) (hb : ∀ i, i < L → tx i ≤ 126) (hk : (k = 99 ∧ cnt = 4) ∨ (k = 118 ∧ cnt = 3)) : ∀ d i n p v s, i + d = cnt → d < n → p ≤ L → FM s σ → s 164 9 = nI p → s 164 10 = nI k → (∀ c, c < i → s 170 c = v c) → ∃ s', f_X8_readsEntry_b173 n (nI i) s = some (bI (pNs tx L k cnt d i p v).1, s') ∧ FM s' σ ∧ s' 164 9 = nI (pNs tx L k cnt d i p v).2.1 ∧ s' 164 10 = nI k ∧ ((pNs tx L k cnt d i p v).1 = true → ∀ c, c < cnt → s' 170 c = (pNs tx L k cnt d i p v).2.2 c) := by
  have hK : ∀ n i s, s 164 10 = nI k → f_X8_readsEntry_b173 (n + 1) (nI i) s = f_X8_readsEntry_b188 (fun v1 σ => f_X8_readsEntry_b173 n v1 σ) (nI i) (nI cnt) (nI i) s := fun n i s h => by
    rw [f_X8_readsEntry_b173, h]
    rcases hk with ⟨a, b⟩ | ⟨a, b⟩
    · rw [if_pos (by rw [a]; rfl), b]; rfl
    · rw [if_neg (by rw [a]; decide), b]; rfl
  intro d
  induction d with
  | zero =>
    intro i n p v s hi hn hp hF h9 h10 hv
    obtain ⟨n, rfl⟩ : ∃ m, n = m + 1 := ⟨n - 1, by omega⟩
    rw [hK n i s h10]
    unfold f_X8_readsEntry_b188
    rw [if_pos (nI_le (by omega) (by omega))]
    exact ⟨s, rfl, hF, h9, h10, fun _ c hc => hv c (by omega)⟩
  | succ d ih =>
    intro i n p v s hi hn hp hF h9 h10 hv
    obtain ⟨n, rfl⟩ : ∃ m, n = m + 1 := ⟨n - 1, by omega⟩
    rw [hK n i s h10, pNs_s]
    have hng : ngB tx L k i (p1F i p) = false := decide_eq_false (fun e => by omega)
    obtain ⟨q1, q2⟩ := p2F_n hng
    rw [q1, q2]
    have b204 : ∀ t : fS, ¬ (0 < i ∧ sgn tx L p ≠ sepN cnt) → FM t σ → t 164 9 = nI (p1F i p) → t 164 10 = nI k → t 170 = s 170 → ∃ s', f_X8_readsEntry_b204 (fun v1 σ => f_X8_readsEntry_b173 n v1 σ) (nI i) t = some (bI (if p1F i p < (nmF tx L 4 (p1F i p) 0).2 then pNs tx L k cnt d (i + 1) (nmF tx L 4 (p1F i p) 0).2 (up1 v i (nI (nmF tx L 4 (p1F i p) 0).1)) else (false, (nmF tx L 4 (p1F i p) 0).2, up1 v i (nI (nmF tx L 4 (p1F i p) 0).1))).1, s') ∧ FM s' σ ∧ s' 164 9 = nI (if p1F i p < (nmF tx L 4 (p1F i p) 0).2 then pNs tx L k cnt d (i + 1) (nmF tx L 4 (p1F i p) 0).2 (up1 v i (nI (nmF tx L 4 (p1F i p) 0).1)) else (false, (nmF tx L 4 (p1F i p) 0).2, up1 v i (nI (nmF tx L 4 (p1F i p) 0).1))).2.1 ∧ s' 164 10 = nI k ∧ ((if p1F i p < (nmF tx L 4 (p1F i p) 0).2 then pNs tx L k cnt d (i + 1) (nmF tx L 4 (p1F i p) 0).2 (up1 v i (nI (nmF tx L 4 (p1F i p) 0).1)) else (false, (nmF tx L 4 (p1F i p) 0).2, up1 v i (nI (nmF tx L 4 (p1F i p) 0).1))).1 = true → ∀ c, c < cnt → s' 170 c = (if p1F i p < (nmF tx L 4 (p1F i p) 0).2 then pNs tx L k cnt d (i + 1) (nmF tx L 4 (p1F i p) 0).2 (up1 v i (nI (nmF tx L 4 (p1F i p) 0).1)) else (false, (nmF tx L 4 (p1F i p) 0).2, up1 v i (nI (nmF tx L 4 (p1F i p) 0).1))).2.2 c) := fun t hsep tF t9 t10 t0 => by
      obtain ⟨a1, -, -⟩ := p2F_b (k := k) hp hsep
      obtain ⟨s1, e1, f1, f2, f3, f4, f5⟩ := m_num (i := i) rfl hT hL hb (by omega) tF t9 a1
      have hb2 := (nmF_b (tx := tx) (L := L) 4 (p1F i p) 0).2 a1
      unfold f_X8_readsEntry_b204
      rw [e1, fcall_ok]
      by_cases h2 : p1F i p < (nmF tx L 4 (p1F i p) 0).2
      · rw [decide_eq_true h2, if_neg bI_t, nI_1, if_pos h2]
        exact ih (i + 1) n _ (up1 v i (nI (nmF tx L 4 (p1F i p) 0).1)) s1 (by omega) (by omega) hb2 f1 f2 (by rw [f3]; exact t10) (fun c hc => by
          by_cases hci : c = i
          · rw [hci, f4, up1_self]
          · rw [f5 c hci, up1_ne hci, t0]; exact hv c (by omega))
      · rw [decide_eq_false h2, if_pos bI_f, if_neg h2]
        exact ⟨s1, rfl, f1, f2, by rw [f3]; exact t10, fun e => by cases e⟩
    unfold f_X8_readsEntry_b188
    rw [if_neg (nI_ge (by omega) (by omega))]
    by_cases hi0 : i = 0
    · have hsep : ¬ (0 < i ∧ sgn tx L p ≠ sepN cnt) := fun e => by omega
      rw [if_neg hsep, if_pos (show nI i ≤ (0 : Int32) from by rw [hi0]; decide)]
      exact b204 s hsep hF (by unfold p1F; rw [if_neg (by omega)]; exact h9) h10 rfl
    · have hs44 : sepN cnt = 44 := by unfold sepN; rw [if_neg (by omega)]
      rw [if_neg (nI_nle (by omega) (by omega)), m_eats (x := 44) (ch := 44) rfl (by decide) (hF.tx hT) hL hb (by omega) h9]
      by_cases hc : sgn tx L p = 44
      · have hsep : ¬ (0 < i ∧ sgn tx L p ≠ sepN cnt) := fun e => e.2 (by rw [hs44]; exact hc)
        rw [if_pos hc, fcall_ok, if_neg (by decide), if_neg hsep]
        exact b204 _ hsep hF.at (by unfold p1F; rw [if_pos (by omega), fu_self]) (by rw [fu_slot (by decide)]; exact h10) (by rw [fu_cell (by decide)])
      · rw [if_neg hc, fcall_ok, if_pos rfl, if_pos ⟨by omega, by rw [hs44]; exact hc⟩]
        exact ⟨s, rfl, hF, h9, h10, fun e => by cases e⟩
theorem m_b136 {σ : fS} {tx : Nat → Nat} {L q : Nat} {w0 s0 v1 : Int32} {t : fS} {kI : Int32} (hT : TXm σ tx L) (hL : L ≤ 60) (hb : ∀ i, i < L → tx i ≤ 126) (tF : FM t σ) (t9 : t 164 9 = nI q) (hq : q ≤ L) (t10 : t 164 10 = kI) (t0 : t 170 0 = w0) (h0 : (s0 = 0 ∧ v1 = nI (nmF tx L 4 q 0).1) ∨ (s0 = 1 ∧ v1 = -(nI (nmF tx L 4 q 0).1))) : ∃ s', f_X8_readsEntry_b136 s0 t = some (bI (decide (q < (nmF tx L 4 q 0).2)), s') ∧ FM s' σ ∧ s' 164 9 = nI (nmF tx L 4 q 0).2 ∧ s' 164 10 = kI ∧ s' 170 0 = w0 ∧ s' 170 1 = v1 := by
  obtain ⟨s1, e1, f1, f2, f3, f4, f5⟩ := m_num (x := 1) (i := 1) rfl hT hL hb (by decide) tF t9 hq
  have hfg : bI (decide (q < (nmF tx L 4 q 0).2)) = 0 ∨ bI (decide (q < (nmF tx L 4 q 0).2)) = 1 := by
    cases decide (q < (nmF tx L 4 q 0).2)
    · exact Or.inl rfl
    · exact Or.inr rfl
  unfold f_X8_readsEntry_b136
  rw [e1, fcall_ok, fb_x (x := 1) (i := 1) rfl (by decide) (by decide), fb_x (x := 1) (i := 1) rfl (by decide) (by decide), fb_x (x := 1) (i := 1) rfl (by decide) (by decide), fb_x (x := 1) (i := 1) rfl (by decide) (by decide), fL_ok, fL_ok, fg_ok hfg, fg_ok hfg, show (1 : Int32).toNatClampNeg = 1 from rfl, f4]
  rcases h0 with ⟨a, b⟩ | ⟨a, b⟩
  · rw [if_pos a]
    exact ⟨_, rfl, f1.no, by rw [fu_cell (by decide)]; exact f2, by rw [fu_cell (by decide), f3]; exact t10, by rw [fu_slot (by decide), f5 0 (by decide)]; exact t0, by rw [fu_self, b]⟩
  · rw [if_neg (by rw [a]; decide)]
    exact ⟨_, rfl, f1.no, by rw [fu_cell (by decide)]; exact f2, by rw [fu_cell (by decide), f3]; exact t10, by rw [fu_slot (by decide), f5 0 (by decide)]; exact t0, by rw [fu_self, b]⟩
theorem m_pair {σ : fS} {tx : Nat → Nat} {L k p : Nat} {v : Nat → Int32} {s : fS} (hT : TXm σ tx L) (hL : L ≤ 60) (hb : ∀ i, i < L → tx i ≤ 126) (hk : k = 116 ∨ k = 119) (hF : FM s σ) (h9 : s 164 9 = nI p) (hp : p ≤ L) (h10 : s 164 10 = nI k) : ∃ s', f_X8_readsEntry_b94 s = some (bI (pNs tx L k 2 2 0 p v).1, s') ∧ FM s' σ ∧ s' 164 9 = nI (pNs tx L k 2 2 0 p v).2.1 ∧ s' 164 10 = nI k ∧ ((pNs tx L k 2 2 0 p v).1 = true → ∀ c, c < 2 → s' 170 c = (pNs tx L k 2 2 0 p v).2.2 c) := by
  rw [pNs_s tx L k 2 1 0 p v, if_neg (fun e => absurd e.1 (by decide))]
  have hng : ngB tx L k 0 (p1F 0 p) = false := decide_eq_false (fun e => by omega)
  obtain ⟨q1, q2⟩ := p2F_n hng
  rw [q1, q2, show p1F 0 p = p from rfl]
  obtain ⟨s1, e1, f1, f2, f3, f4, f5⟩ := m_num (x := 0) (i := 0) rfl hT hL hb (by decide) hF h9 hp
  have hb2 := (nmF_b (tx := tx) (L := L) 4 p 0).2 hp
  unfold f_X8_readsEntry_b94
  rw [e1, fcall_ok]
  by_cases h2 : p < (nmF tx L 4 p 0).2
  · rw [decide_eq_true h2, if_neg bI_t, if_pos h2]
    generalize (nmF tx L 4 p 0).2 = e at *
    generalize (nmF tx L 4 p 0).1 = w at *
    rw [pNs_s tx L k 2 0 (0 + 1) e, m_eats (x := 61) (ch := 61) rfl (by decide) (f1.tx hT) hL hb (by omega) f2]
    by_cases hc : sgn tx L e = 61
    · have hsep : ¬ (0 < 0 + 1 ∧ sgn tx L e ≠ sepN 2) := fun x => x.2 hc
      rw [if_pos hc, fcall_ok, if_neg (by decide), if_neg hsep]
      obtain ⟨-, -, a3⟩ := p2F_b (k := k) hb2 hsep
      have h10' : fu s1 164 9 (nI (e + 1)) 164 10 = nI k := by rw [fu_slot (by decide), f3]; exact h10
      have fin : ∀ (t : fS) (s0 : Int32), FM t σ → t 164 9 = nI (p2F tx L k 1 e) → t 164 10 = nI k → t 170 = s1 170 → ((s0 = 0 ∧ vaF tx L k 1 e = nI (nmF tx L 4 (p2F tx L k 1 e) 0).1) ∨ (s0 = 1 ∧ vaF tx L k 1 e = -(nI (nmF tx L 4 (p2F tx L k 1 e) 0).1))) → ∃ s', f_X8_readsEntry_b136 s0 t = some (bI (if p2F tx L k (0 + 1) e < (nmF tx L 4 (p2F tx L k (0 + 1) e) 0).2 then pNs tx L k 2 0 (0 + 1 + 1) (nmF tx L 4 (p2F tx L k (0 + 1) e) 0).2 (up1 (up1 v 0 (nI w)) (0 + 1) (vaF tx L k (0 + 1) e)) else (false, (nmF tx L 4 (p2F tx L k (0 + 1) e) 0).2, up1 (up1 v 0 (nI w)) (0 + 1) (vaF tx L k (0 + 1) e))).1, s') ∧ FM s' σ ∧ s' 164 9 = nI (if p2F tx L k (0 + 1) e < (nmF tx L 4 (p2F tx L k (0 + 1) e) 0).2 then pNs tx L k 2 0 (0 + 1 + 1) (nmF tx L 4 (p2F tx L k (0 + 1) e) 0).2 (up1 (up1 v 0 (nI w)) (0 + 1) (vaF tx L k (0 + 1) e)) else (false, (nmF tx L 4 (p2F tx L k (0 + 1) e) 0).2, up1 (up1 v 0 (nI w)) (0 + 1) (vaF tx L k (0 + 1) e))).2.1 ∧ s' 164 10 = nI k ∧ ((if p2F tx L k (0 + 1) e < (nmF tx L 4 (p2F tx L k (0 + 1) e) 0).2 then pNs tx L k 2 0 (0 + 1 + 1) (nmF tx L 4 (p2F tx L k (0 + 1) e) 0).2 (up1 (up1 v 0 (nI w)) (0 + 1) (vaF tx L k (0 + 1) e)) else (false, (nmF tx L 4 (p2F tx L k (0 + 1) e) 0).2, up1 (up1 v 0 (nI w)) (0 + 1) (vaF tx L k (0 + 1) e))).1 = true → ∀ c, c < 2 → s' 170 c = (if p2F tx L k (0 + 1) e < (nmF tx L 4 (p2F tx L k (0 + 1) e) 0).2 then pNs tx L k 2 0 (0 + 1 + 1) (nmF tx L 4 (p2F tx L k (0 + 1) e) 0).2 (up1 (up1 v 0 (nI w)) (0 + 1) (vaF tx L k (0 + 1) e)) else (false, (nmF tx L 4 (p2F tx L k (0 + 1) e) 0).2, up1 (up1 v 0 (nI w)) (0 + 1) (vaF tx L k (0 + 1) e))).2.2 c) := fun t s0 tF t9 t10 t0 hv => by
        obtain ⟨s', e', g1, g2, g3, g4, g5⟩ := m_b136 (w0 := nI w) (kI := nI k) hT hL hb tF t9 a3 t10 (by rw [t0]; exact f4) hv
        rw [e']
        show ∃ s', some (bI (decide (p2F tx L k 1 e < (nmF tx L 4 (p2F tx L k 1 e) 0).2)), _) = _ ∧ _
        by_cases h3 : p2F tx L k (0 + 1) e < (nmF tx L 4 (p2F tx L k (0 + 1) e) 0).2
        · rw [if_pos h3, decide_eq_true (show p2F tx L k 1 e < (nmF tx L 4 (p2F tx L k 1 e) 0).2 from h3)]
          refine ⟨s', rfl, g1, g2, g3, fun _ c hc => ?_⟩
          rcases (show c = 0 ∨ c = 1 by omega) with rfl | rfl
          · exact g4
          · exact g5
        · rw [if_neg h3, decide_eq_false (show ¬ p2F tx L k 1 e < (nmF tx L 4 (p2F tx L k 1 e) 0).2 from h3)]
          exact ⟨s', rfl, g1, g2, g3, fun x => by cases x⟩
      have plain : ngB tx L k 1 (p1F 1 e) = false → _ := fun hg => fin (fu s1 164 9 (nI (e + 1))) 0 f1.at (by rw [(p2F_n hg).1, fu_self]; rfl) h10' (by rw [fu_cell (by decide)]) (Or.inl ⟨rfl, by rw [(p2F_n hg).2, (p2F_n hg).1]⟩)
      rw [h10']
      unfold f_X8_readsEntry_b135
      by_cases hk1 : k = 116
      · rw [if_pos (by rw [hk1]; rfl), m_eats (x := 45) (ch := 45) (p := e + 1) rfl (by decide) (f1.at.tx hT) hL hb (by omega) (fu_self _ _ _ _)]
        by_cases hm : sgn tx L (e + 1) = 45
        · have hg : ngB tx L k 1 (p1F 1 e) = true := decide_eq_true ⟨hk1, rfl, hm⟩
          rw [if_pos hm, fcall_ok, if_neg (by decide)]
          exact fin _ 1 f1.at.at (by rw [(p2F_y hg).1, fu_self]; rfl) (by rw [fu_slot (by decide)]; exact h10') (by rw [fu_cell (by decide), fu_cell (by decide)]) (Or.inr ⟨rfl, by rw [(p2F_y hg).2, (p2F_y hg).1]⟩)
        · rw [if_neg hm, fcall_ok, if_pos rfl]
          exact plain (decide_eq_false (fun x => hm x.2.2))
      · rw [if_neg (show ¬ nI k = (116 : Int32) from fun x => hk1 (nI_inj (b := 116) (by omega) (by decide) x))]
        exact plain (decide_eq_false (fun x => hk1 x.1))
    · rw [if_neg hc, fcall_ok, if_pos rfl, if_pos ⟨by decide, hc⟩]
      exact ⟨s1, rfl, f1, f2, by rw [f3]; exact h10, fun e => by cases e⟩
  · rw [decide_eq_false h2, if_pos bI_f, if_neg h2]
    exact ⟨s1, rfl, f1, f2, by rw [f3]; exact h10, fun e => by cases e⟩
theorem m_entry {σ : fS} {tx : Nat → Nat} {L p : Nat} {s : fS} (hT : TXm σ tx L) (hL : L ≤ 60) (hb : ∀ i, i < L → tx i ≤ 126) (hF : FM s σ) (h9 : s 164 9 = nI p) (hp : p ≤ L) : ∃ s', f_X8_readsEntry s = some (bI (pE tx L p).1, s') ∧ FM s' σ ∧ s' 164 9 = nI (pE tx L p).2.1 ∧ s' 164 10 = nI (sgn tx L p) ∧ ((pE tx L p).1 = true → ∀ c, c < cntN (sgn tx L p) → s' 170 c = (pE tx L p).2.2 c) := by
  have hs := sgn_lt (tx := tx) (L := L) (p := p) hb
  have e0 : f_X8_readsEntry s = f_X8_readsEntry_b25 (nI (sgn tx L p)) s := by
    unfold f_X8_readsEntry
    rw [(hF.tx hT).1, h9]
    by_cases h : p < L
    · rw [if_neg (nI_ge h (by omega)), fb_x rfl (by omega) (by decide), nI_clamp (by omega), (hF.tx hT).2 p h, show sgn tx L p = tx p from if_pos h]
    · rw [if_pos (nI_le (by omega) (by omega)), show sgn tx L p = 0 from if_neg h]; rfl
  rw [e0]
  unfold f_X8_readsEntry_b25 pE
  rw [fL_ok, fu_self]
  generalize hk : sgn tx L p = k at *
  have t9 : fu s 164 10 (nI k) 164 9 = nI p := by rw [fu_slot (by decide)]; exact h9
  by_cases h0 : cntN k = 0
  · have q : ∀ (x : Int32) (m : Nat), x = nI m → m ≤ 126 → k ≠ m → ¬ nI k = x := fun x m hx hm hne e => hne (nI_inj (by omega) (by omega) (e.trans hx))
    rw [if_pos h0, if_neg (q 99 99 rfl (by decide) (fun e => by rw [e] at h0; exact absurd h0 (by decide))), if_neg (q 118 118 rfl (by decide) (fun e => by rw [e] at h0; exact absurd h0 (by decide))), if_neg (q 116 116 rfl (by decide) (fun e => by rw [e] at h0; exact absurd h0 (by decide))), if_neg (q 119 119 rfl (by decide) (fun e => by rw [e] at h0; exact absurd h0 (by decide)))]
    exact ⟨_, rfl, hF.le, t9, fu_self _ _ _ _, fun e => by cases e⟩
  · have hp1 : p < L := sgn_pos (tx := tx) (by
      rw [hk]
      rcases Nat.eq_zero_or_pos k with g | g
      · rw [g] at h0; exact absurd rfl h0
      · exact g)
    rw [if_neg h0]
    have hc := cntN_c h0
    have b66 : ∃ s', f_X8_readsEntry_b66 (fu s 164 10 (nI k)) = some (bI (pNs tx L k (cntN k) (cntN k) 0 (p + 1) (fun _ => 0)).1, s') ∧ FM s' σ ∧ s' 164 9 = nI (pNs tx L k (cntN k) (cntN k) 0 (p + 1) (fun _ => 0)).2.1 ∧ s' 164 10 = nI k ∧ ((pNs tx L k (cntN k) (cntN k) 0 (p + 1) (fun _ => 0)).1 = true → ∀ c, c < cntN k → s' 170 c = (pNs tx L k (cntN k) (cntN k) 0 (p + 1) (fun _ => 0)).2.2 c) := by
      unfold f_X8_readsEntry_b66
      rw [fL_ok, t9, nI_1]
      have u9 : fu (fu s 164 10 (nI k)) 164 9 (nI (p + 1)) 164 9 = nI (p + 1) := fu_self _ _ _ _
      have u10 : fu (fu s 164 10 (nI k)) 164 9 (nI (p + 1)) 164 10 = nI k := by rw [fu_slot (by decide), fu_self]
      rw [u10]
      rcases hc with ⟨a, b⟩ | ⟨a, b⟩ | ⟨a, b⟩ | ⟨a, b⟩
      · rw [if_neg (by rw [a]; decide), if_neg (by rw [a]; decide)]
        exact m_nums hT hL hb (Or.inl ⟨a, b⟩) (cntN k) 0 fN (p + 1) (fun _ => 0) _ (by omega) (by unfold fN; omega) hp1 hF.le.at u9 u10 (fun c hc => by omega)
      · rw [if_pos (by rw [a]; rfl), b]
        exact m_pair hT hL hb (Or.inl a) hF.le.at u9 hp1 u10
      · rw [if_neg (by rw [a]; decide), if_neg (by rw [a]; decide)]
        exact m_nums hT hL hb (Or.inr ⟨a, b⟩) (cntN k) 0 fN (p + 1) (fun _ => 0) _ (by omega) (by unfold fN; omega) hp1 hF.le.at u9 u10 (fun c hc => by omega)
      · rw [if_neg (by rw [a]; decide), if_pos (by rw [a]; rfl), b]
        exact m_pair hT hL hb (Or.inr a) hF.le.at u9 hp1 u10
    by_cases k1 : nI k = (99 : Int32)
    · rw [if_pos k1]; exact b66
    · rw [if_neg k1]
      by_cases k2 : nI k = (118 : Int32)
      · rw [if_pos k2]; exact b66
      · rw [if_neg k2]
        by_cases k3 : nI k = (116 : Int32)
        · rw [if_pos k3]; exact b66
        · rw [if_neg k3]
          by_cases k4 : nI k = (119 : Int32)
          · rw [if_pos k4]; exact b66
          · exfalso
            rcases hc with ⟨a, -⟩ | ⟨a, -⟩ | ⟨a, -⟩ | ⟨a, -⟩
            · exact k1 (by rw [a]; rfl)
            · exact k3 (by rw [a]; rfl)
            · exact k2 (by rw [a]; rfl)
            · exact k4 (by rw [a]; rfl)

/-! ===== removeCrossing, the reference's side ===== -/
theorem cutT_s {T : aT} {x k : Nat} (hk : k < T.length) : cutT x (T.take (k + 1)) = if tg T k 0 = x then cutT x (T.take k) else cutT x (T.take k) ++ [adj x T[k]] := by
  rw [(take_s hk).1, cutT_app]
  show cutT x (T.take k) ++ (if T[k].getD 0 0 = x then [] else [adj x T[k]]) = _
  rw [tg_get hk]
  split
  · rw [List.append_nil]
  · rfl
theorem m_copyRow {s : fS} {cn w m k x own : Nat} (hmk : m ≤ k) (hb : cn + 1 + w * k + w ≤ 277) (hw0 : 0 < w) (hw : w < 50) (hx : x < 2 ^ 31) (ho : own < 2 ^ 31) (K : Int32 → Int32 → Int32 → Int32 → Int32 → Int32 → fS → Option fS) : ∃ s', f_X8_cuts_b40 K fN (nI cn) (nI (cn + 1)) (nI w) (nI x) (nI m) (nI k) (nI own) 0 s = K (nI cn) (nI (cn + 1)) (nI w) (nI x) (nI (m + 1)) (nI (k + 1)) s' ∧ (∀ q, q ≠ 165 → s' q = s q) ∧ s' 165 (cn + 1 + w * m) = nI (if x < own then own - 1 else own) ∧ (∀ c, 0 < c → c < w → s' 165 (cn + 1 + w * m + c) = s 165 (cn + 1 + w * k + c)) ∧ ∀ j, (j < cn + 1 + w * m ∨ cn + 1 + w * m + w ≤ j) → s' 165 j = s 165 j := by
  have hmw : w * m ≤ w * k := Nat.mul_le_mul_left w hmk
  have e1 : nI (cn + 1) + nI w * nI k = nI (cn + 1 + w * k) := by rw [nI_mul, nI_add]
  have e2 : nI (cn + 1) + nI w * nI m = nI (cn + 1 + w * m) := by rw [nI_mul, nI_add]
  obtain ⟨s1, ⟨i1, i2, i3⟩, e⟩ := do_all (f := fun n v s => f_X8_cuts_b40 K n (nI cn) (nI (cn + 1)) (nI w) (nI x) (nI m) (nI k) (nI own) v s) (N := w) (I := fun j t => (∀ q, q ≠ 165 → t q = s q) ∧ (∀ c, c < j → t 165 (cn + 1 + w * m + c) = s 165 (cn + 1 + w * k + c)) ∧ ∀ i, (i < cn + 1 + w * m ∨ cn + 1 + w * m + j ≤ i) → t 165 i = s 165 i) (fin := fun t => K (nI cn) (nI (cn + 1)) (nI w) (nI x) (nI (m + 1)) (nI (k + 1)) (fu t 165 (cn + 1 + w * m) (nI (if x < own then own - 1 else own)))) (by omega) (fun n t hI => by
    show f_X8_cuts_b40 K (n + 1) (nI cn) (nI (cn + 1)) (nI w) (nI x) (nI m) (nI k) (nI own) (nI w) t = _
    rw [f_X8_cuts_b40, if_pos (nI_le (Nat.le_refl _) (by omega)), e2]
    unfold f_X8_cuts_b106 f_X8_cuts_b110
    by_cases hox : x < own
    · rw [if_neg (nI_ge hox ho), if_pos hox, show nI own - (1 : Int32) = nI (own - 1) from nI_sub (b := 1) (by omega), fb_x rfl (by omega) (by decide), fL_ok, nI_clamp (by omega), nI_1, nI_1]
    · rw [if_pos (nI_le (by omega) hx), if_neg hox, fb_x rfl (by omega) (by decide), fL_ok, nI_clamp (by omega), nI_1, nI_1]) (fun n j t hj hI => by
    obtain ⟨j1, j2, j3⟩ := hI
    refine ⟨fu t 165 (cn + 1 + w * m + j) (s 165 (cn + 1 + w * k + j)), ⟨fun q hq => by rw [fu_cell hq]; exact j1 q hq, fun c hc => ?_, fun i hi => by rw [fu_slot (by omega)]; exact j3 i (by omega)⟩, ?_⟩
    · by_cases hcj : c = j
      · subst hcj; rw [fu_self]
      · rw [fu_slot (by omega)]; exact j2 c (by omega)
    · show f_X8_cuts_b40 K (n + 1) (nI cn) (nI (cn + 1)) (nI w) (nI x) (nI m) (nI k) (nI own) (nI j) t = f_X8_cuts_b40 K n (nI cn) (nI (cn + 1)) (nI w) (nI x) (nI m) (nI k) (nI own) (nI (j + 1)) _
      rw [f_X8_cuts_b40, if_neg (nI_ge hj (by omega)), e1, e2, nI_add, nI_add, fb_x rfl (by omega) (by decide), fb_x rfl (by omega) (by decide), fL_ok, nI_clamp (n := cn + 1 + w * m + j) (by omega), nI_clamp (n := cn + 1 + w * k + j) (by omega), nI_1, j3 (cn + 1 + w * k + j) (by omega)]) (σ := s) ⟨fun _ _ => rfl, fun c hc => by omega, fun _ _ => rfl⟩
  refine ⟨_, e, fun q hq => by rw [fu_cell hq]; exact i1 q hq, fu_self _ _ _ _, fun c h0 hc => by rw [fu_slot (by omega)]; exact i2 c hc, fun j hj => by rw [fu_slot (by omega)]; exact i3 j hj⟩
theorem m_cut {σ : fS} {T : aT} {cn w x : Nat} (hc : σ 165 cn = nI T.length) (hrow : ∀ i, i < T.length → ∀ c, c < w → σ 165 (cn + 1 + w * i + c) = nI (tg T i c)) (hb : cn + 1 + w * T.length ≤ 277) (hw0 : 0 < w) (hw : w < 50) (hx : x < 2 ^ 31) (hbd : ∀ k, k < T.length → tg T k 0 < 2 ^ 31) : ∃ s, f_X8_cuts (nI cn) (nI (cn + 1)) (nI w) (nI x) σ = some s ∧ (∀ q, q ≠ 165 → s q = σ q) ∧ (∀ j, (j < cn ∨ cn + 1 + w * T.length ≤ j) → s 165 j = σ 165 j) ∧ s 165 cn = nI (cutT x T).length ∧ ∀ i, i < (cutT x T).length → ∀ c, c < w → s 165 (cn + 1 + w * i + c) = nI (tg (cutT x T) i c) := by
  have hlen : T.length ≤ 277 := by
    have := Nat.mul_le_mul_right T.length hw0
    omega
  have key : ∀ d k n s, k + d = T.length → d < n → (∀ q, q ≠ 165 → s q = σ q) → (∀ j, (j < cn ∨ cn + 1 + w * T.length ≤ j) → s 165 j = σ 165 j) → s 165 cn = nI T.length → (∀ i, i < (cutT x (T.take k)).length → ∀ c, c < w → s 165 (cn + 1 + w * i + c) = nI (tg (cutT x (T.take k)) i c)) → (∀ i, k ≤ i → i < T.length → ∀ c, c < w → s 165 (cn + 1 + w * i + c) = nI (tg T i c)) → ∃ s', f_X8_cuts_b6 n (nI cn) (nI (cn + 1)) (nI w) (nI x) (nI (cutT x (T.take k)).length) (nI k) s = some s' ∧ (∀ q, q ≠ 165 → s' q = σ q) ∧ (∀ j, (j < cn ∨ cn + 1 + w * T.length ≤ j) → s' 165 j = σ 165 j) ∧ s' 165 cn = nI (cutT x T).length ∧ ∀ i, i < (cutT x T).length → ∀ c, c < w → s' 165 (cn + 1 + w * i + c) = nI (tg (cutT x T) i c) := by
    intro d
    induction d with
    | zero =>
      intro k n s hk hn h1 h2 h3 h4 h5
      obtain ⟨n, rfl⟩ : ∃ q, n = q + 1 := ⟨n - 1, by omega⟩
      have : k = T.length := by omega
      subst this
      rw [List.take_length] at h4 ⊢
      rw [f_X8_cuts_b6, fb_x rfl (by omega) (by decide), nI_clamp (by omega), h3, if_pos (nI_le (Nat.le_refl _) (by omega)), fb_x rfl (by omega) (by decide), fL_ok]
      exact ⟨_, rfl, fun q hq => by rw [fu_cell hq]; exact h1 q hq, fun j hj => by rw [fu_slot (by omega)]; exact h2 j hj, fu_self _ _ _ _, fun i hi c hcw => by rw [fu_slot (by omega)]; exact h4 i hi c hcw⟩
    | succ d ih =>
      intro k n s hk hn h1 h2 h3 h4 h5
      obtain ⟨n, rfl⟩ : ∃ q, n = q + 1 := ⟨n - 1, by omega⟩
      have hk' : k < T.length := by omega
      have hbk := hbd k hk'
      have hwk : w * k + w ≤ w * T.length := by
        have := Nat.mul_le_mul_left w (show k + 1 ≤ T.length from hk')
        rw [Nat.mul_add] at this
        omega
      have hm : (cutT x (T.take k)).length ≤ k := by
        have := cutT_len x (T.take k)
        rw [List.length_take] at this
        omega
      have e1 : nI (cn + 1) + nI w * nI k = nI (cn + 1 + w * k) := by rw [nI_mul, nI_add]
      have hown : s 165 (cn + 1 + w * k) = nI (tg T k 0) := h5 k (Nat.le_refl _) hk' 0 hw0
      rw [f_X8_cuts_b6, fb_x rfl (by omega) (by decide), nI_clamp (n := cn) (by omega), h3, if_neg (nI_ge hk' (by omega)), e1, fb_x rfl (by omega) (by decide), nI_clamp (n := cn + 1 + w * k) (by omega), hown]
      by_cases hx1 : tg T k 0 = x
      · rw [if_pos (by rw [hx1])]
        unfold f_X8_cuts_b110
        rw [nI_1]
        have hcs := cutT_s (x := x) hk'
        rw [if_pos hx1] at hcs
        have ih' := ih (k + 1) n s (by omega) (by omega) h1 h2 h3 (by rw [hcs]; exact h4) (fun i a b => h5 i (by omega) b)
        rw [hcs] at ih'
        exact ih'
      · rw [if_neg (fun e => hx1 (nI_inj hbk hx e))]
        have hcs := cutT_s (x := x) hk'
        rw [if_neg hx1] at hcs
        obtain ⟨s1, f1, f2, f3, f4, f5⟩ := m_copyRow (s := s) (cn := cn) (x := x) hm (by omega) hw0 hw hx hbk (fun v1 v2 v3 v4 v5 v6 σ => f_X8_cuts_b6 n v1 v2 v3 v4 v5 v6 σ)
        rw [f1]
        have hcl : (cutT x (T.take (k + 1))).length = (cutT x (T.take k)).length + 1 := by rw [hcs, List.length_append]; rfl
        have hwm : w * (cutT x (T.take k)).length ≤ w * k := Nat.mul_le_mul_left w hm
        have ih' := ih (k + 1) n s1 (by omega) (by omega) (fun q hq => by rw [f2 q hq]; exact h1 q hq) (fun j hj => by rw [f5 j (by omega)]; exact h2 j hj) (by rw [f5 cn (by omega)]; exact h3) (fun i hi c hcw => by
          rw [hcl] at hi
          rw [hcs, tg_app]
          by_cases him : i < (cutT x (T.take k)).length
          · have : w * i + w ≤ w * (cutT x (T.take k)).length := by
              have := Nat.mul_le_mul_left w (show i + 1 ≤ (cutT x (T.take k)).length from him)
              rw [Nat.mul_add] at this
              omega
            rw [if_pos him, f5 _ (by omega)]
            exact h4 i him c hcw
          · have : i = (cutT x (T.take k)).length := by omega
            subst this
            rw [if_neg him, Nat.sub_self, tg_cons0]
            cases c with
            | zero => rw [Nat.add_zero, f3, adj_0, tg_get hk']
            | succ c =>
              rw [f4 (c + 1) (by omega) hcw, adj_S, tg_get hk']
              exact h5 k (Nat.le_refl _) hk' (c + 1) hcw) (fun i a b c hcw => by
          have : w * k + w ≤ w * i := by
            have := Nat.mul_le_mul_left w (show k + 1 ≤ i from a)
            rw [Nat.mul_add] at this
            omega
          rw [f5 _ (by omega)]
          exact h5 i (by omega) b c hcw)
        rw [hcl] at ih'
        exact ih'
  exact key T.length 0 fN σ (Nat.zero_add _) (by unfold fN; omega) (fun _ _ => rfl) (fun _ _ => rfl) hc (fun i hi => absurd hi (Nat.not_lt_zero _)) (fun i _ hi c hcw => hrow i hi c hcw)
def rcL : Nat → Int32 → fS → Option (Int32 × fS)
  | 0, _, _ => none
  | n_ + 1, v2, σ => fb (122 : Int32) 277 ((if ((4 : Int32) * (σ 165 (122 : Int32).toNatClampNeg)) ≤ v2 then fb (122 : Int32) 277 (some (σ 165 (122 : Int32).toNatClampNeg, σ)) else fb (((123 : Int32) + v2) + (4 : Int32)) 277 (fb ((123 : Int32) + v2) 277 (fL (fu σ 165 ((123 : Int32) + v2).toNatClampNeg (σ 165 (((123 : Int32) + v2) + (4 : Int32)).toNatClampNeg)) (fun σ2 => rcL n_ ((v2 + (1 : Int32))) σ2)))))
theorem fcall_fb {α : Type} {x : Int32} {n : Nat} {k : Option (Int32 × fS)} {f : Int32 → fS → Option α} : fcall (fb x n k) f = fb x n (fcall k f) := by
  unfold fb
  split <;> rfl
theorem rcL_b55 : ∀ n v s, f_X8_removeCrossing_b55 n v s = fcall (rcL n v s) (fun r s2 => fcall (f_X8_kept r s2) (fun r3 s3 => some (r3, s3))) := by
  intro n
  induction n with
  | zero => intro v s; rfl
  | succ n ih =>
    intro v s
    rw [f_X8_removeCrossing_b55, rcL, fcall_fb, fb122, fb122]
    by_cases h : ((4 : Int32) * (s 165 (122 : Int32).toNatClampNeg)) ≤ v
    · rw [if_pos h, if_pos h, fcall_fb, fb122, fb122, fcall_ok]
    · rw [if_neg h, if_neg h, fcall_fb, fcall_fb, fL_ok, fL_ok]
      show fb _ _ (fb _ _ (f_X8_removeCrossing_b55 n (v + 1) _)) = _
      rw [ih, fb122]
theorem m_shift {σ : fS} {T : aT} {x : Nat} (hc : σ 165 122 = nI (T.length - 1)) (hx : x < T.length) (hl : T.length ≤ 12) (hrow : ∀ i, i < T.length → ∀ c, c < 4 → σ 165 (123 + 4 * i + c) = nI (tg T i c)) : ∃ s, rcL fN ((4 : Int32) * nI x) σ = some (nI (T.length - 1), s) ∧ (∀ q, q ≠ 165 → s q = σ q) ∧ (∀ j, (j < 123 ∨ 123 + 4 * 12 ≤ j) → s 165 j = σ 165 j) ∧ ∀ i, i < (rmT T x).length → ∀ c, c < 4 → s 165 (123 + 4 * i + c) = nI (tg (rmT T x) i c) := by
  rw [show (4 : Int32) * nI x = nI (4 * x) from nI_mul 4 x]
  obtain ⟨s, ⟨i1, i2, i3, -⟩, e⟩ := do_loop (f := fun n v s => rcL n v s) (N := 4 * (T.length - 1)) (I := fun k s => (∀ q, q ≠ 165 → s q = σ q) ∧ (∀ j, 4 * x ≤ j → j < k → s 165 (123 + j) = σ 165 (123 + j + 4)) ∧ (∀ j, (j < 123 + 4 * x ∨ 123 + k ≤ j) → s 165 j = σ 165 j) ∧ 4 * x ≤ k) (fin := fun s => some (nI (T.length - 1), s)) (fun n s hI => by
    have h122 : s 165 (122 : Int32).toNatClampNeg = nI (T.length - 1) := by rw [show (122 : Int32).toNatClampNeg = 122 from rfl, hI.2.2.1 122 (by omega)]; exact hc
    show rcL (n + 1) (nI (4 * (T.length - 1))) s = _
    rw [rcL, fb122, h122, show (4 : Int32) * nI (T.length - 1) = nI (4 * (T.length - 1)) from nI_mul 4 _, if_pos (nI_le (Nat.le_refl _) (by omega)), fb122]) (fun n k s hk hI => by
    obtain ⟨j1, j2, j3, hxk⟩ := hI
    have h122 : s 165 (122 : Int32).toNatClampNeg = nI (T.length - 1) := by rw [show (122 : Int32).toNatClampNeg = 122 from rfl, j3 122 (by omega)]; exact hc
    refine ⟨fu s 165 (123 + k) (σ 165 (123 + k + 4)), ⟨fun q hq => by rw [fu_cell hq]; exact j1 q hq, fun j a b => ?_, fun j hj => by rw [fu_slot (by omega)]; exact j3 j (by omega), by omega⟩, ?_⟩
    · by_cases hjk : j = k
      · subst hjk; rw [fu_self]
      · rw [fu_slot (by omega)]; exact j2 j a (by omega)
    · show rcL (n + 1) (nI k) s = rcL n (nI (k + 1)) _
      rw [rcL, fb122, h122, show (4 : Int32) * nI (T.length - 1) = nI (4 * (T.length - 1)) from nI_mul 4 _, if_neg (nI_ge hk (by omega)), show (123 : Int32) + nI k = nI (123 + k) from nI_add 123 k, show nI (123 + k) + (4 : Int32) = nI (123 + k + 4) from nI_add _ 4, fb_x rfl (by omega) (by decide), fb_x rfl (by omega) (by decide), fL_ok, nI_clamp (by omega), nI_clamp (by omega), nI_1, j3 (123 + k + 4) (by omega)]) (4 * (T.length - 1) - 4 * x) (4 * x) fN σ (by omega) (by unfold fN; omega) ⟨fun _ _ => rfl, fun j a b => by omega, fun _ _ => rfl, Nat.le_refl _⟩
  refine ⟨s, e, i1, fun j hj => i3 j (by omega), fun i hi c hcw => ?_⟩
  rw [rmT_len hx] at hi
  rw [rmT_tg hx]
  by_cases hix : i < x
  · rw [if_pos hix, i3 _ (by omega)]
    exact hrow i (by omega) c hcw
  · rw [if_neg hix, show 123 + 4 * i + c = 123 + (4 * i + c) by omega, i2 _ (by omega) (by omega), show 123 + (4 * i + c) + 4 = 123 + 4 * (i + 1) + c by omega]
    exact hrow (i + 1) (by omega) c hcw
theorem setT_comm {P : aP} {i j : Nat} {A B : aT} (h : i ≠ j) : setT (setT P i A) j B = setT (setT P j B) i A := by
  unfold setT
  congr 1
  funext q
  show (if q = j then B else if q = i then A else P.1 q) = (if q = i then A else if q = j then B else P.1 q)
  by_cases h1 : q = j
  · subst h1
    rw [if_pos rfl, if_neg (Ne.symm h), if_pos rfl]
  · rw [if_neg h1]
    by_cases h2 : q = i
    · rw [if_pos h2, if_pos h2]
    · rw [if_neg h2, if_neg h2, if_neg h1]
/-- a port without a crossing -/
def dropP (P : aP) (x : Nat) : aP := setT (setT (setT P 2 (rmT (P.1 2) x)) 3 (cutT x (P.1 3))) 4 (cutT x (P.1 4))
theorem dropP_2 (P : aP) (x : Nat) : (dropP P x).1 2 = rmT (P.1 2) x := by unfold dropP; rw [setT_ne (by decide), setT_ne (by decide), setT_self]
theorem dropP_3 (P : aP) (x : Nat) : (dropP P x).1 3 = cutT x (P.1 3) := by unfold dropP; rw [setT_ne (by decide), setT_self]
theorem dropP_4 (P : aP) (x : Nat) : (dropP P x).1 4 = cutT x (P.1 4) := by unfold dropP; rw [setT_self]
theorem dropP_o (P : aP) (x q : Nat) (h2 : q ≠ 2) (h3 : q ≠ 3) (h4 : q ≠ 4) : (dropP P x).1 q = P.1 q := by unfold dropP; rw [setT_ne h4, setT_ne h3, setT_ne h2]
theorem dropP_ok {P : aP} (hok : aOK P) {x : Nat} (hx : x < (P.1 2).length) : aOK (dropP P x) := by
  obtain ⟨hz, h0, h1, h2, h3, h4, h5⟩ := hok
  have e0 := dropP_o P x 0 (by decide) (by decide) (by decide)
  have e1 := dropP_o P x 1 (by decide) (by decide) (by decide)
  have l2 := rmT_len hx
  have l3 := cutT_len x (P.1 3)
  have l4 := cutT_len x (P.1 4)
  refine ⟨fun q hq => ?_, by rw [e0]; exact h0, by rw [e1]; exact h1, ?_, ?_, ?_, h5⟩
  · have := hz q hq
    by_cases q2 : q = 2
    · subst q2; rw [dropP_2, l2]; omega
    · by_cases q3 : q = 3
      · subst q3; rw [dropP_3]; omega
      · by_cases q4 : q = 4
        · subst q4; rw [dropP_4]; omega
        · rw [dropP_o P x q q2 q3 q4]; exact this
  · rw [dropP_2, e0, e1, l2]
    intro i hi
    rw [rmT_tg hx, rmT_tg hx, rmT_tg hx, rmT_tg hx]
    exact h2 _ (by split <;> omega)
  · rw [dropP_3, dropP_2, l2]
    intro i hi
    obtain ⟨k, a, b, d, e⟩ := cutT_row x _ i hi
    have := h3 k a
    rw [d, e 0, e 1]
    refine ⟨?_, this.2⟩
    split <;> omega
  · rw [dropP_4, dropP_2, l2]
    intro i hi
    obtain ⟨k, a, b, d, e⟩ := cutT_row x _ i hi
    have := h4 k a
    rw [d, e 0, e 1, e 2]
    refine ⟨?_, this.2⟩
    split <;> omega
def rcM (x : Int32) (s : fS) : Option (Int32 × fS) := fcallv (f_X8_cuts 171 172 3 x s) (fun σ3 => fcallv (f_X8_cuts 244 245 4 x σ3) (fun σ4 => rcL fN ((4 : Int32) * x) (fu σ4 165 122 (σ4 165 122 - (1 : Int32)))))
theorem op_drop (P : aP) (hok : aOK P) {x : Nat} (hx : x < (P.1 2).length) : Op P (f_X3_dropCrossing 1 (nI x)) (rcM (nI x)) := by
  have z2 : (P.1 2).length ≤ 12 := hok.1 2 (by decide)
  have z3 : (P.1 3).length ≤ 24 := hok.1 3 (by decide)
  have z4 : (P.1 4).length ≤ 8 := hok.1 4 (by decide)
  have b3 : ∀ k, k < (P.1 3).length → tg (P.1 3) k 0 < 2 ^ 31 := fun k hk => by have := (hok.2.2.2.2.1 k hk).1; omega
  have b4 : ∀ k, k < (P.1 4).length → tg (P.1 4) k 0 < 2 ^ 31 := fun k hk => by have := (hok.2.2.2.2.2.1 k hk).1; omega
  have hok' := dropP_ok hok hx
  refine ⟨nI ((P.1 2).length - 1), dropP P x, hok', fun h => absurd h (nE (by omega)), fun σ h => ?_, fun σ h => ?_⟩
  · have t2 : TV σ 6 4 (P.1 2) := h.1 2 (by decide)
    unfold f_X3_dropCrossing
    rw [p_has1 (t := 1 + 5) t2.1 (by omega) rfl hx, fcall_ok, if_neg (by decide)]
    obtain ⟨s1, e1, f1, g1, v1⟩ := p_removeRow (t := 1 + 5) t2 z2 (by decide) (by decide) (by decide) hx
    have p1 : PV 1 s1 (setT P 2 (rmT (P.1 2) x)) := h.set (by decide) v1 (fun q a b c d => f1 q (by omega) (by omega))
    have t3 : TV s1 8 3 (P.1 3) := by
      have := p1.1 3 (by decide)
      rw [setT_ne (by decide)] at this
      exact this
    obtain ⟨s2, e2, f2, g2, v2⟩ := p_drop (t := 1 + 7) t3 z3 (by decide) (by decide) (by decide) (by decide) (x := x) (by omega) b3
    have p2 : PV 1 s2 (setT (setT P 2 (rmT (P.1 2) x)) 3 (cutT x (P.1 3))) := p1.set (by decide) v2 (fun q a b c d => f2 q (by omega) (by omega))
    have t4 : TV s2 10 4 (P.1 4) := by
      have := p2.1 4 (by decide)
      rw [setT_ne (by decide), setT_ne (by decide)] at this
      exact this
    obtain ⟨s3, e3, f3, g3, v3⟩ := p_drop (t := 1 + 9) t4 z4 (by decide) (by decide) (by decide) (by decide) (x := x) (by omega) b4
    have p3 : PV 1 s3 (dropP P x) := p2.set (by decide) v3 (fun q a b c d => f3 q (by omega) (by omega))
    have n2 : s3 6 3 = nI ((P.1 2).length - 1) := by
      have := (p3.1 2 (by decide)).1
      rw [dropP_2, rmT_len hx] at this
      exact this
    rw [e1, fcallv_ok, e2, fcallv_ok, e3, fcallv_ok, p_size, fcall_ok, show s3 (1 + 5) 3 = nI ((P.1 2).length - 1) from n2]
    exact ⟨s3, rfl, p3, fun c hc => by rw [f3 c (by omega) (by omega), f2 c (by omega) (by omega), f1 c (by omega) (by omega)]⟩
  · unfold rcM
    obtain ⟨c2, r2⟩ := h.1 2 (by decide)
    obtain ⟨c3, r3⟩ := h.1 3 (by decide)
    obtain ⟨c4, r4⟩ := h.1 4 (by decide)
    obtain ⟨s1, e1, f1, g1, n1, w1⟩ := m_cut (cn := 171) (w := 3) (x := x) c3 r3 (by omega) (by decide) (by decide) (by omega) b3
    have e1 : f_X8_cuts 171 172 3 (nI x) σ = some s1 := e1
    have c4' : s1 165 244 = nI (P.1 4).length := by rw [g1 244 (by omega)]; exact c4
    have r4' : ∀ i, i < (P.1 4).length → ∀ c, c < 4 → s1 165 (244 + 1 + 4 * i + c) = nI (tg (P.1 4) i c) := fun i hi c hc => by rw [g1 _ (by omega)]; exact r4 i hi c hc
    obtain ⟨s2, e2, f2, g2, n2, w2⟩ := m_cut (cn := 244) (w := 4) (x := x) c4' r4' (by omega) (by decide) (by decide) (by omega) b4
    have e2 : f_X8_cuts 244 245 4 (nI x) s1 = some s2 := e2
    have c2' : s2 165 122 = nI (P.1 2).length := by rw [g2 122 (by omega), g1 122 (by omega)]; exact c2
    have r2' : ∀ i, i < (P.1 2).length → ∀ c, c < 4 → s2 165 (123 + 4 * i + c) = nI (tg (P.1 2) i c) := fun i hi c hc => by rw [g2 _ (by omega), g1 _ (by omega)]; exact r2 i hi c hc
    have el : nI (P.1 2).length - (1 : Int32) = nI ((P.1 2).length - 1) := nI_sub (b := 1) (by omega)
    obtain ⟨s3, e3, f3, g3, w3⟩ := m_shift (σ := fu s2 165 122 (nI ((P.1 2).length - 1))) (T := P.1 2) (x := x) (fu_self _ _ _ _) hx z2 (fun i hi c hc => by rw [fu_slot (by omega)]; exact r2' i hi c hc)
    rw [e1, fcallv_ok, e2, fcallv_ok, c2', el, e3]
    refine ⟨s3, rfl, ?_, fun c hc => by rw [f3 c hc, fu_cell hc, f2 c hc, f1 c hc]⟩
    have a1 : GV (s1 165) (setT P 3 (cutT x (P.1 3))) := h.setT (by decide) hok.1 n1 w1 (fun k hk hd => by
      have hd : k < 171 ∨ 171 + 1 + 3 * 24 ≤ k := hd
      exact g1 k (by omega))
    have l3 := cutT_len x (P.1 3)
    have l4 := cutT_len x (P.1 4)
    have sz1 : aSz (setT P 3 (cutT x (P.1 3))) := fun q hq => by
      by_cases q3 : q = 3
      · subst q3; rw [setT_self]; show _ ≤ 24; omega
      · rw [setT_ne q3]; exact hok.1 q hq
    have a2 : GV (s2 165) (setT (setT P 3 (cutT x (P.1 3))) 4 (cutT x (P.1 4))) := a1.setT (by decide) sz1 n2 w2 (fun k hk hd => by
      have hd : k < 244 ∨ 244 + 1 + 4 * 8 ≤ k := hd
      exact g2 k (by omega))
    have sz2 : aSz (setT (setT P 3 (cutT x (P.1 3))) 4 (cutT x (P.1 4))) := fun q hq => by
      by_cases q4 : q = 4
      · subst q4; rw [setT_self]; show _ ≤ 8; omega
      · rw [setT_ne q4]; exact sz1 q hq
    have a3 : GV (s3 165) (setT (setT (setT P 3 (cutT x (P.1 3))) 4 (cutT x (P.1 4))) 2 (rmT (P.1 2) x)) := a2.setT (by decide) sz2 (by
      show s3 165 122 = _
      rw [g3 122 (by omega), fu_self, rmT_len hx]) (fun i hi c hc => w3 i hi c hc) (fun k hk hd => by
      have hd : k < 122 ∨ 122 + 1 + 4 * 12 ≤ k := hd
      rw [g3 k (by omega), fu_slot (by omega)])
    have eP : setT (setT (setT P 3 (cutT x (P.1 3))) 4 (cutT x (P.1 4))) 2 (rmT (P.1 2) x) = dropP P x := by
      unfold dropP
      rw [setT_comm (i := 4) (j := 2) (by decide), setT_comm (i := 3) (j := 2) (by decide)]
    rw [eP] at a3
    exact a3
theorem st_5 : ∀ (σ : fS) (x1 : Int32), LI σ → ∃ (r : Int32) (σ1 σ2 : fS), f_X7_removeCrossing x1 σ = some (r, σ1) ∧ f_X8_removeCrossing x1 σ1 = some (r, σ2) ∧ LI σ2 := by
  intro σ x1 hLI
  obtain ⟨⟨P, k, F, hR⟩, hXR⟩ := hLI
  have z2 : (P.1 2).length ≤ 12 := hR.2.2.1.1 2 (by decide)
  rcases ix_cases x1 (n := (P.1 2).length) (by omega) with ⟨x, hx, rfl⟩ | o
  · obtain ⟨r, s1, s2, e1, e2, h, h138⟩ := op_stepX hR hXR (op_drop P hR.2.2.1 hx)
    refine ⟨r, s1, s2, e1, ?_, h⟩
    have g1 : GV (s1 165) P := by rw [h138 165 (by decide)]; exact hR.2.1
    rw [← e2]
    unfold f_X8_removeCrossing
    rw [p_isCrossing1 (gn (j := 2) (k := 122) g1 (by decide) rfl) (by omega) rfl hx, fcall_ok, if_neg (by decide)]
    obtain ⟨s4, e4, f4, -⟩ := p_remembers s1
    rw [e4, fcallv_ok, fcallv_ok]
    unfold rcM
    cases h1 : f_X8_cuts 171 172 3 (nI x) s4 with
    | none => rfl
    | some s5 =>
      rw [fcallv_ok, fcallv_ok]
      cases h2 : f_X8_cuts 244 245 4 (nI x) s5 with
      | none => rfl
      | some s6 =>
        rw [fcallv_ok, fcallv_ok, fb122, fb122, fL_ok, rcL_b55]
        rfl
  · refine op_refuse (fc := f_X3_dropCrossing 1 x1) (fm := f_X8_removeCrossing x1) hR hXR eE1 (fun s h => ?_) (fun s h => ?_)
    · unfold f_X3_dropCrossing
      rw [p_has0 (t := 1 + 5) (h.1 2 (by decide)).1 o, fcall_ok, if_pos rfl]
    · unfold f_X8_removeCrossing
      rw [p_isCrossing0 (gn (j := 2) (k := 122) h (by decide) rfl) (by omega) o, fcall_ok, if_pos rfl]

/-! ===== layDown ===== -/
theorem p_atout {t r w : Nat} {σ : fS} {x1 x2 : Int32} {c : Nat} (e2 : x2 = nI c) (hc : w ≤ c) (hc2 : c < 5000) : f_X5_at t r w x1 x2 σ = some (0, σ) := by
  unfold f_X5_at
  split
  · rfl
  · split
    · rfl
    · split
      · rfl
      · rw [if_neg (by rw [e2]; exact nI_nlt hc (by omega))]
def vlF (T : aT) (w i c : Nat) : Int32 := if c < w then nI (tg T i c) else 0
theorem p_atV {t r w : Nat} {σ : fS} {T : aT} (h : TV σ t w T) (hr : T.length ≤ r) (hrw : r * w < 5000) (hw : w < 50) {i c : Nat} (hi : i < T.length) (hc : c < 5000) : f_X5_at t r w (nI i) (nI c) σ = some (vlF T w i c, σ) := by
  unfold vlF
  by_cases hcw : c < w
  · rw [if_pos hcw, p_at h hr hrw hw rfl rfl hi hcw]
  · rw [if_neg hcw, p_atout rfl (by omega) hc]
theorem p_sput {σ : fS} {p c : Nat} {x2 v : Int32} (h : σ 162 3 = nI 9) (hp : p < 9) (hc : c < 5) (e : x2 = nI c) : f_X5_put 162 9 5 (nI p) x2 v σ = some (fu σ 163 (p * 5 + c) v) := p_put (t := 162) h (by decide) (by decide) (by decide) (by decide) rfl e hp hc
theorem c_filled {σ : fS} (h : σ 162 3 = nI 9) {a : Nat} (ha : a < 3) : f_X4_countFilled (nI a) σ = some (nI (sumN (fun k => if σ 163 ((a * 3 + k) * 5 + 4) = -10004 then 0 else 1) 0 3), σ) := by
  unfold f_X4_countFilled
  refine sum_all (f := fun n s v => f_X4_countFilled_b4 n (nI a) s v σ) (N := 3) (by decide) (fun n s => ?_) (fun n s i hi => ?_)
  · show f_X4_countFilled_b4 (n + 1) (nI a) (nI s) (nI 3) σ = _
    rw [f_X4_countFilled_b4, if_pos (show (3 : Int32) ≤ nI 3 from by decide)]
  · show f_X4_countFilled_b4 (n + 1) (nI a) (nI s) (nI i) σ = f_X4_countFilled_b4 n (nI a) (nI (s + (if σ 163 ((a * 3 + i) * 5 + 4) = -10004 then 0 else 1))) (nI (i + 1)) σ
    rw [f_X4_countFilled_b4, if_neg (show ¬ (3 : Int32) ≤ nI i from nI_ge (b := 3) hi (by decide))]
    unfold f_X4_kindAt f_X4_countFilled_b24
    rw [pl_c, p_shelfAt h (by omega) (by decide) (show (4 : Int32) = nI 4 from rfl), fcall_ok, fcall_ok]
    by_cases h0 : σ 163 ((a * 3 + i) * 5 + 4) = -10004
    · rw [if_pos h0, if_pos h0, nI_1]; rfl
    · rw [if_neg h0, if_neg h0, nI_1, nI_1]
theorem m_filled {σ : fS} {a : Nat} (ha : a < 3) : f_X8_layDown_b147 fN (nI a) 0 0 σ = some (nI (sumN (fun k => if σ 187 (a * 3 + k) < 0 then 0 else 1) 0 3), σ) := by
  refine sum_all (f := fun n s v => f_X8_layDown_b147 n (nI a) s v σ) (N := 3) (by decide) (fun n s => ?_) (fun n s i hi => ?_)
  · show f_X8_layDown_b147 (n + 1) (nI a) (nI s) (nI 3) σ = _
    rw [f_X8_layDown_b147, if_pos (show (3 : Int32) ≤ nI 3 from by decide)]
  · show f_X8_layDown_b147 (n + 1) (nI a) (nI s) (nI i) σ = f_X8_layDown_b147 n (nI a) (nI (s + (if σ 187 (a * 3 + i) < 0 then 0 else 1))) (nI (i + 1)) σ
    rw [f_X8_layDown_b147, if_neg (show ¬ (3 : Int32) ≤ nI i from nI_ge (b := 3) hi (by decide)), pl_m, fb_x rfl (by omega) (by decide), nI_clamp (by omega)]
    unfold f_X8_layDown_b174
    by_cases h0 : σ 187 (a * 3 + i) < 0
    · rw [if_pos h0, if_pos h0, nI_1, nI_a0]; rfl
    · rw [if_neg h0, if_neg h0, nI_1, nI_1]
theorem c_lay {t r w : Nat} {σ : fS} {T : aT} (h : TV σ t w T) (hr : T.length ≤ r) (hrw : r * w < 5000) (hw : w < 50) (ht : t + 1 < 163) (hz : σ 162 3 = nI 9) {a b i : Nat} {kd : Int32} (ha : a < 3) (hb : b < 3) (hi : i < T.length) : ∃ s, f_X4_lay_b22 t r w (nI a) (nI b) kd (nI i) σ = some (nI (sumN (fun k => if s 163 ((a * 3 + k) * 5 + 4) = -10004 then 0 else 1) 0 3), s) ∧ (∀ q, q ≠ 163 → s q = σ q) ∧ (∀ c, c < 4 → s 163 ((a * 3 + b) * 5 + c) = vlF T w i c) ∧ s 163 ((a * 3 + b) * 5 + 4) = kd ∧ ∀ j, (j < (a * 3 + b) * 5 ∨ (a * 3 + b) * 5 + 5 ≤ j) → s 163 j = σ 163 j := by
  unfold f_X4_lay_b22
  obtain ⟨s, ⟨i1, i2, i3⟩, e⟩ := do_all (f := fun n v s => f_X4_lay_b25 t r w n (nI a) (nI b) kd (nI i) v s) (N := 4) (I := fun c s => (∀ q, q ≠ 163 → s q = σ q) ∧ (∀ k, k < c → s 163 ((a * 3 + b) * 5 + k) = vlF T w i k) ∧ ∀ j, (j < (a * 3 + b) * 5 ∨ (a * 3 + b) * 5 + 5 ≤ j) → s 163 j = σ 163 j) (fin := fun s => fcallv (f_X5_put 162 9 5 (nI a * (3 : Int32) + nI b) (4 : Int32) kd s) (fun σ1 => fcall (f_X4_countFilled (nI a) σ1) (fun r2_ σ2 => some (r2_, σ2)))) (by decide) (fun n s hI => by
    show f_X4_lay_b25 t r w (n + 1) (nI a) (nI b) kd (nI i) (nI 4) s = _
    rw [f_X4_lay_b25, if_pos (show (4 : Int32) ≤ nI 4 from by decide)]) (fun n c s hc hI => by
    obtain ⟨j1, j2, j3⟩ := hI
    have h' : TV s t w T := h.of (by rw [j1 t (by omega)]) (j1 _ (by omega))
    refine ⟨fu s 163 ((a * 3 + b) * 5 + c) (vlF T w i c), ⟨fun q hq => by rw [fu_cell hq]; exact j1 q hq, fun k hk => ?_, fun j hj => by rw [fu_slot (by omega)]; exact j3 j hj⟩, ?_⟩
    · by_cases hkc : k = c
      · subst hkc; rw [fu_self]
      · rw [fu_slot (by omega)]; exact j2 k (by omega)
    · show f_X4_lay_b25 t r w (n + 1) (nI a) (nI b) kd (nI i) (nI c) s = f_X4_lay_b25 t r w n (nI a) (nI b) kd (nI i) (nI (c + 1)) _
      rw [f_X4_lay_b25, if_neg (show ¬ (4 : Int32) ≤ nI c from nI_ge (b := 4) hc (by decide)), p_atV h' hr hrw hw hi (by omega), fcall_ok, pl_c, p_sput (by rw [j1 162 (by decide)]; exact hz) (by omega) (by omega) rfl, fcallv_ok, nI_1]) (σ := σ) ⟨fun _ _ => rfl, fun k hk => by omega, fun _ _ => rfl⟩
  have e : f_X4_lay_b25 t r w fN (nI a) (nI b) kd (nI i) 0 σ = _ := e
  have hz' : s 162 3 = nI 9 := by rw [i1 162 (by decide)]; exact hz
  rw [e, pl_c, p_sput hz' (by omega) (by decide) (show (4 : Int32) = nI 4 from rfl), fcallv_ok, c_filled (by rw [fu_cell (by decide)]; exact hz') ha, fcall_ok]
  refine ⟨_, rfl, fun q hq => by rw [fu_cell hq]; exact i1 q hq, fun c hc => by rw [fu_slot (by omega)]; exact i2 c hc, fu_self _ _ _ _, fun j hj => by rw [fu_slot (by omega)]; exact i3 j hj⟩
theorem m_lay {σ : fS} {P : aP} (hg : GV (σ 165) P) (hok : aOK P) {a b i kd : Nat} (ha : a < 3) (hb : b < 3) (hk : kd = 0 ∨ kd = 1) (hi : i < (P.1 kd).length) : ∃ s, f_X8_layDown_b68 (nI a) (nI b) (nI kd) (nI i) σ = some (nI (sumN (fun k => if s 187 (a * 3 + k) < 0 then 0 else 1) 0 3), s) ∧ (∀ q, q ≠ 187 → q ≠ 188 → s q = σ q) ∧ (∀ c, c < (if kd = 0 then 4 else 2) → s 188 (4 * (a * 3 + b) + c) = nI (tg (P.1 kd) i c)) ∧ (∀ j, (j < 4 * (a * 3 + b) ∨ 4 * (a * 3 + b) + 4 ≤ j) → s 188 j = σ 188 j) ∧ s 187 (a * 3 + b) = nI kd ∧ ∀ j, j ≠ a * 3 + b → s 187 j = σ 187 j := by
  unfold f_X8_layDown_b68
  rw [pl_m, fb_x rfl (by omega) (by decide), fL_ok, nI_clamp (by omega)]
  obtain ⟨s, ⟨i1, i2, i3⟩, e⟩ := do_all (f := fun n v s => f_X8_layDown_b86 n (nI a) (nI kd) (nI i) (nI (a * 3 + b)) v s) (N := if kd = 0 then 4 else 2) (I := fun c s => (∀ q, q ≠ 188 → s q = fu σ 187 (a * 3 + b) (nI kd) q) ∧ (∀ k, k < c → s 188 (4 * (a * 3 + b) + k) = nI (tg (P.1 kd) i k)) ∧ ∀ j, (j < 4 * (a * 3 + b) ∨ 4 * (a * 3 + b) + 4 ≤ j) → s 188 j = σ 188 j) (fin := fun s => f_X8_layDown_b147 fN (nI a) 0 0 s) (by split <;> decide) (fun n s hI => by
    show f_X8_layDown_b86 (n + 1) (nI a) (nI kd) (nI i) (nI (a * 3 + b)) (nI (if kd = 0 then 4 else 2)) s = _
    rw [f_X8_layDown_b86]
    unfold f_X8_layDown_b97
    rcases hk with rfl | rfl
    · rw [if_pos nI_0, if_pos rfl, if_pos (show (4 : Int32) ≤ nI 4 from by decide)]
    · rw [if_neg (by decide), show (if (1 : Nat) = 0 then 4 else 2) = 2 from rfl, if_pos (show (2 : Int32) ≤ nI 2 from by decide)]) (fun n c s hc hI => by
    obtain ⟨j1, j2, j3⟩ := hI
    have hg' : GV (s 165) P := by rw [j1 165 (by decide), fu_cell (by decide)]; exact hg
    have hc4 : c < 4 := by split at hc <;> omega
    refine ⟨fu s 188 (4 * (a * 3 + b) + c) (nI (tg (P.1 kd) i c)), ⟨fun q hq => by rw [fu_cell hq]; exact j1 q hq, fun k hk => ?_, fun j hj => by rw [fu_slot (by omega)]; exact j3 j hj⟩, ?_⟩
    · by_cases hkc : k = c
      · subst hkc; rw [fu_self]
      · rw [fu_slot (by omega)]; exact j2 k (by omega)
    · show f_X8_layDown_b86 (n + 1) (nI a) (nI kd) (nI i) (nI (a * 3 + b)) (nI c) s = f_X8_layDown_b86 n (nI a) (nI kd) (nI i) (nI (a * 3 + b)) (nI (c + 1)) _
      rw [f_X8_layDown_b86]
      unfold f_X8_layDown_b97 f_X8_layDown_b134
      rcases hk with rfl | rfl
      · rw [if_pos nI_0, if_neg (show ¬ (4 : Int32) ≤ nI c from nI_ge (b := 4) hc4 (by decide)), if_pos nI_0, mS hg' hok.1 hi rfl hc4, fcall_ok, iy4, fb_x rfl (by omega) (by decide), fL_ok, nI_clamp (by omega), nI_1]
      · have hc2 : c < 2 := hc
        rw [if_neg (by decide), if_neg (show ¬ (2 : Int32) ≤ nI c from nI_ge (b := 2) hc2 (by decide)), if_neg (by decide), mB hg' hok.1 hi rfl hc2, fcall_ok, iy4, fb_x rfl (by omega) (by decide), fL_ok, nI_clamp (by omega), nI_1]) (σ := fu σ 187 (a * 3 + b) (nI kd)) ⟨fun _ _ => rfl, fun k hk => by omega, fun j _ => by rw [fu_cell (by decide)]⟩
  have e : f_X8_layDown_b86 fN (nI a) (nI kd) (nI i) (nI (a * 3 + b)) 0 (fu σ 187 (a * 3 + b) (nI kd)) = _ := e
  rw [e, m_filled ha]
  exact ⟨s, rfl, fun q x y => by rw [i1 q y, fu_cell x], i2, i3, by rw [i1 187 (by decide), fu_self], fun j hj => by rw [i1 187 (by decide), fu_slot hj]⟩
theorem lay_step {σ : fS} (hLI : LI σ) {P : aP} (hPV : PV 1 σ P) (hGV : GV (σ 165) P) (hok : aOK P) {a b i kd : Nat} (ha : a < 3) (hb : b < 3) (hk : kd = 0 ∨ kd = 1) (hi : i < (P.1 kd).length) {t r w : Nat} (tv : TV σ t w (P.1 kd)) (hr : (P.1 kd).length ≤ r) (hrw : r * w < 5000) (hw : w = if kd = 0 then 4 else 2) (ht : t + 1 < 163) : ∃ (r0 : Int32) (σ1 σ2 : fS), f_X4_lay_b22 t r w (nI a) (nI b) (nI kd) (nI i) σ = some (r0, σ1) ∧ f_X8_layDown_b68 (nI a) (nI b) (nI kd) (nI i) σ1 = some (r0, σ2) ∧ LI σ2 := by
  obtain ⟨-, -, hX, z1, z2⟩ := id hLI
  obtain ⟨s, e1, f1, f2, f3, f4⟩ := c_lay (kd := nI kd) tv hr hrw (by rw [hw]; split <;> decide) ht z1 ha hb hi
  obtain ⟨s2, e2, g1, g2, g3, g4, g5⟩ := m_lay (σ := s) (by rw [f1 165 (by decide)]; exact hGV) hok ha hb hk hi
  have hZ : ZI s2 := by
    refine ⟨by rw [g1 162 (by decide) (by decide), f1 162 (by decide)]; exact z1, fun p hp => ?_⟩
    rw [g1 163 (by decide) (by decide)]
    by_cases hpp : p = a * 3 + b
    · subst hpp
      rw [g4, f3]
      rcases hk with rfl | rfl
      · refine Or.inr (Or.inl ⟨rfl, rfl, fun c hc => ?_⟩)
        rw [f2 c hc, g2 c hc]
        unfold vlF
        rw [hw]
        exact if_pos hc
      · refine Or.inr (Or.inr ⟨rfl, rfl, fun c hc => ?_⟩)
        rw [f2 c (by omega), g2 c hc]
        unfold vlF
        rw [hw]
        exact if_pos hc
    · rw [g5 p hpp, f1 187 (by decide), f4 _ (by omega)]
      have hc5 : ∀ c, c < 5 → s 163 (p * 5 + c) = σ 163 (p * 5 + c) := fun c hc => f4 _ (by omega)
      have hc4 : ∀ c, c < 4 → s2 188 (4 * p + c) = σ 188 (4 * p + c) := fun c hc => by rw [g3 _ (by omega), f1 188 (by decide)]
      rcases z2 p hp with ⟨q1, q2⟩ | ⟨q1, q2, q3⟩ | ⟨q1, q2, q3⟩
      · exact Or.inl ⟨q1, q2⟩
      · exact Or.inr (Or.inl ⟨q1, q2, fun c hc => by rw [hc5 c (by omega), hc4 c (by omega)]; exact q3 c hc⟩)
      · exact Or.inr (Or.inr ⟨q1, q2, fun c hc => by rw [hc5 c (by omega), hc4 c (by omega)]; exact q3 c hc⟩)
  have hsum : sumN (fun k => if s2 187 (a * 3 + k) < 0 then 0 else 1) 0 3 = sumN (fun k => if s 163 ((a * 3 + k) * 5 + 4) = -10004 then 0 else 1) 0 3 := by
    refine sumN_congr 3 0 (fun k _ hk => ?_)
    have := hZ.2 (a * 3 + k) (by omega)
    rw [g1 163 (by decide) (by decide)] at this
    rcases this with ⟨q1, q2⟩ | ⟨q1, q2, -⟩ | ⟨q1, q2, -⟩
    · rw [q1, q2]; rfl
    · rw [q1, q2]; rfl
    · rw [q1, q2]; rfl
  refine ⟨_, s, s2, e1, by rw [e2, hsum], hLI.ofP (fun c hc h157 h158 h162 h163 h164 h169 h187 h188 => by rw [g1 c h187 h188, f1 c h163]) (fun j hj => by rw [g1 164 (by decide) (by decide), f1 164 (by decide)]) ?_ hZ⟩
  obtain ⟨n, x1, x2, x3, x4, x5⟩ := hX
  have k157 : s2 157 = σ 157 := by rw [g1 157 (by decide) (by decide), f1 157 (by decide)]
  have k158 : s2 158 = σ 158 := by rw [g1 158 (by decide) (by decide), f1 158 (by decide)]
  have k164 : s2 164 = σ 164 := by rw [g1 164 (by decide) (by decide), f1 164 (by decide)]
  have k169 : s2 169 = σ 169 := by rw [g1 169 (by decide) (by decide), f1 169 (by decide)]
  exact ⟨n, x1, by rw [k157]; exact x2, by rw [k164]; exact x3, by rw [k158, k169]; exact x4, by rw [k157, k164]; exact x5⟩
theorem st_35 : ∀ (σ : fS) (x1 : Int32) (x2 : Int32) (x3 : Int32) (x4 : Int32), LI σ → ∃ (r : Int32) (σ1 σ2 : fS), f_X7_layDown x1 x2 x3 x4 σ = some (r, σ1) ∧ f_X8_layDown x1 x2 x3 x4 σ1 = some (r, σ2) ∧ LI σ2 := by
  intro σ x1 x2 x3 x4 hLI
  obtain ⟨⟨P, k, F, hPV, hGV, hok, -⟩, -⟩ := id hLI
  have z0 : (P.1 0).length ≤ 4 := hok.1 0 (by decide)
  have z1 : (P.1 1).length ≤ 3 := hok.1 1 (by decide)
  have t0 : TV σ 2 4 (P.1 0) := hPV.1 0 (by decide)
  have t1 : TV σ 4 2 (P.1 1) := hPV.1 1 (by decide)
  have m0 := gn (j := 0) (k := 98) hGV (by decide) rfl
  have m1 := gn (j := 1) (k := 115) hGV (by decide) rfl
  unfold f_X7_layDown f_X8_layDown
  rcases pl_cases x1 x2 with ⟨a, b, ha, hb, rfl, rfl⟩ | h
  · rw [(pl_in ha hb σ).1, fcall_ok, if_neg (by decide)]
    by_cases k0 : x3 = 0
    · subst k0
      rw [if_pos rfl, if_pos rfl]
      rcases ix_cases x4 (n := (P.1 0).length) (by omega) with ⟨i, hi, rfl⟩ | o
      · rw [p_has1 t0.1 (by omega) rfl hi, fcall_ok, if_neg (by decide), fcall_id]
        have pre : ∀ s, GV (s 165) P → fcall (f_X8_isPlace (nI a) (nI b) s) (fun r1_ σ1 => (if r1_ = 0 then some ((-10001 : Int32), σ1) else fcall (f_X8_in 0 (0 : Int32) (1 : Int32) σ1) (fun r2_ σ2 => (if r2_ = 0 then some ((-10002 : Int32), σ2) else (if (0 : Int32) = 0 then fcall (f_X8_isShip (nI i) σ2) (fun r4_ σ4 => (if r4_ = 0 then some ((-10001 : Int32), σ4) else f_X8_layDown_b54 (nI a) (nI b) 0 (nI i) σ4)) else fcall (f_X8_isBerth (nI i) σ2) (fun r3_ σ3 => (if r3_ = 0 then some ((-10001 : Int32), σ3) else f_X8_layDown_b54 (nI a) (nI b) 0 (nI i) σ3))))))) = f_X8_layDown_b54 (nI a) (nI b) 0 (nI i) s := fun s g => by
          rw [(pl_in ha hb s).2, fcall_ok, if_neg (by decide), p_in, if_pos (by decide), fcall_ok, if_neg (by decide), if_pos rfl, p_isShip1 (gn (j := 0) (k := 98) g (by decide) rfl) (by omega) rfl hi, fcall_ok, if_neg (by decide)]
        have fin : a ≠ 1 → ∃ (r : Int32) (σ1 σ2 : fS), f_X4_lay (nI a) (nI b) 0 2 4 4 (nI i) σ = some (r, σ1) ∧ f_X8_layDown_b54 (nI a) (nI b) 0 (nI i) σ1 = some (r, σ2) ∧ LI σ2 ∧ σ1 165 = σ 165 := fun ha1 => by
          obtain ⟨r, s1, s2, e1, e2, e3⟩ := lay_step hLI hPV hGV hok ha hb (Or.inl rfl : (0 : Nat) = 0 ∨ (0 : Nat) = 1) hi t0 z0 (by decide) rfl (by decide)
          have h165 : s1 165 = σ 165 := by
            obtain ⟨s, q1, q2, -⟩ := c_lay (kd := nI 0) t0 z0 (by decide) (by decide) (by decide) hLI.2.2.2.1 ha hb hi
            rw [q1] at e1
            cases e1
            exact q2 165 (by decide)
          refine ⟨r, s1, s2, ?_, ?_, e3, h165⟩
          · rw [← e1]
            unfold f_X4_lay f_X4_lay_b8
            by_cases ha0 : a = 0
            · subst ha0; rw [if_pos nI_0, if_pos rfl, if_neg (by decide)]; rfl
            · rw [if_neg (nI_ne0 (by omega) (by omega)), if_neg (show ¬ nI a = (1 : Int32) from fun e => ha1 (nI_inj (b := 1) (by omega) (by decide) e))]; rfl
          · rw [← e2]
            unfold f_X8_layDown_b54
            by_cases ha0 : a = 0
            · subst ha0; rw [if_neg (by decide), if_pos nI_0]; rfl
            · have : a = 2 := by omega
              subst this
              rw [if_pos (show nI 2 = (2 : Int32) from rfl)]; rfl
        by_cases ha1 : a = 1
        · subst ha1
          refine ⟨-10006, σ, σ, ?_, ?_, hLI⟩
          · unfold f_X4_lay f_X4_lay_b8
            rw [if_neg (by decide), if_pos (show nI 1 = (1 : Int32) from rfl), if_neg (by decide)]
          · rw [pre σ hGV]
            unfold f_X8_layDown_b54
            rw [if_neg (by decide), if_neg (by decide)]
        · obtain ⟨r, s1, s2, e1, e2, e3, e4⟩ := fin ha1
          refine ⟨r, s1, s2, e1, ?_, e3⟩
          rw [pre s1 (by rw [e4]; exact hGV)]
          exact e2
      · rw [p_has0 t0.1 o, fcall_ok, if_pos rfl]
        refine ⟨_, σ, σ, rfl, ?_, hLI⟩
        rw [(pl_in ha hb σ).2, fcall_ok, if_neg (by decide), p_in, if_pos (by decide), fcall_ok, if_neg (by decide), if_pos rfl, p_isShip0 m0 (by omega) o, fcall_ok, if_pos rfl]
    · rw [if_neg k0]
      by_cases k1 : x3 = 1
      · subst k1
        rw [if_pos rfl, if_neg (by decide)]
        rcases ix_cases x4 (n := (P.1 1).length) (by omega) with ⟨i, hi, rfl⟩ | o
        · rw [p_has1 t1.1 (by omega) rfl hi, fcall_ok, if_neg (by decide), fcall_id]
          have pre : ∀ s, GV (s 165) P → fcall (f_X8_isPlace (nI a) (nI b) s) (fun r1_ σ1 => (if r1_ = 0 then some ((-10001 : Int32), σ1) else fcall (f_X8_in 1 (0 : Int32) (1 : Int32) σ1) (fun r2_ σ2 => (if r2_ = 0 then some ((-10002 : Int32), σ2) else (if (1 : Int32) = 0 then fcall (f_X8_isShip (nI i) σ2) (fun r4_ σ4 => (if r4_ = 0 then some ((-10001 : Int32), σ4) else f_X8_layDown_b54 (nI a) (nI b) 1 (nI i) σ4)) else fcall (f_X8_isBerth (nI i) σ2) (fun r3_ σ3 => (if r3_ = 0 then some ((-10001 : Int32), σ3) else f_X8_layDown_b54 (nI a) (nI b) 1 (nI i) σ3))))))) = f_X8_layDown_b54 (nI a) (nI b) 1 (nI i) s := fun s g => by
            rw [(pl_in ha hb s).2, fcall_ok, if_neg (by decide), p_in, if_pos (by decide), fcall_ok, if_neg (by decide), if_neg (by decide), p_isBerth1 (gn (j := 1) (k := 115) g (by decide) rfl) (by omega) rfl hi, fcall_ok, if_neg (by decide)]
          have fin : a ≠ 0 → ∃ (r : Int32) (σ1 σ2 : fS), f_X4_lay (nI a) (nI b) 1 4 3 2 (nI i) σ = some (r, σ1) ∧ f_X8_layDown_b54 (nI a) (nI b) 1 (nI i) σ1 = some (r, σ2) ∧ LI σ2 ∧ σ1 165 = σ 165 := fun ha0 => by
            obtain ⟨r, s1, s2, e1, e2, e3⟩ := lay_step hLI hPV hGV hok ha hb (Or.inr rfl : (1 : Nat) = 0 ∨ (1 : Nat) = 1) hi t1 z1 (by decide) rfl (by decide)
            have h165 : s1 165 = σ 165 := by
              obtain ⟨s, q1, q2, -⟩ := c_lay (kd := nI 1) t1 z1 (by decide) (by decide) (by decide) hLI.2.2.2.1 ha hb hi
              rw [q1] at e1
              cases e1
              exact q2 165 (by decide)
            refine ⟨r, s1, s2, ?_, ?_, e3, h165⟩
            · rw [← e1]
              unfold f_X4_lay f_X4_lay_b8
              rw [if_neg (nI_ne0 (by omega) (by omega))]
              by_cases ha1 : a = 1
              · subst ha1; rw [if_pos (show nI 1 = (1 : Int32) from rfl), if_pos rfl]; rfl
              · rw [if_neg (show ¬ nI a = (1 : Int32) from fun e => ha1 (nI_inj (b := 1) (by omega) (by decide) e))]; rfl
            · rw [← e2]
              unfold f_X8_layDown_b54
              by_cases ha1 : a = 1
              · subst ha1; rw [if_neg (by decide), if_pos (show nI 1 = (1 : Int32) from rfl)]; rfl
              · have : a = 2 := by omega
                subst this
                rw [if_pos (show nI 2 = (2 : Int32) from rfl)]; rfl
          by_cases ha0 : a = 0
          · subst ha0
            refine ⟨-10006, σ, σ, ?_, ?_, hLI⟩
            · unfold f_X4_lay
              rw [if_pos nI_0, if_neg (by decide)]
            · rw [pre σ hGV]
              unfold f_X8_layDown_b54
              rw [if_neg (by decide), if_neg (by decide)]
          · obtain ⟨r, s1, s2, e1, e2, e3, e4⟩ := fin ha0
            refine ⟨r, s1, s2, e1, ?_, e3⟩
            rw [pre s1 (by rw [e4]; exact hGV)]
            exact e2
        · rw [p_has0 t1.1 o, fcall_ok, if_pos rfl]
          refine ⟨_, σ, σ, rfl, ?_, hLI⟩
          rw [(pl_in ha hb σ).2, fcall_ok, if_neg (by decide), p_in, if_pos (by decide), fcall_ok, if_neg (by decide), if_neg (by decide), p_isBerth0 m1 (by omega) o, fcall_ok, if_pos rfl]
      · rw [if_neg k1]
        refine ⟨_, σ, σ, rfl, ?_, hLI⟩
        have hn : ¬ ((0 : Int32) ≤ x3 ∧ x3 ≤ 1) := fun e => by
          obtain ⟨i, hi, rfl⟩ := (in48 (n := 1) (by decide) 1 rfl).mp e
          rcases (show i = 0 ∨ i = 1 by omega) with rfl | rfl
          · exact k0 rfl
          · exact k1 rfl
        rw [(pl_in ha hb σ).2, fcall_ok, if_neg (by decide), p_in, if_neg hn, fcall_ok, if_pos rfl]
  · rw [(h σ).1, fcall_ok, if_pos rfl]
    refine ⟨_, σ, σ, rfl, ?_, hLI⟩
    rw [(h σ).2, fcall_ok, if_pos rfl]

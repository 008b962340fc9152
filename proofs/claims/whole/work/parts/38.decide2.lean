/-! ===== the class settles connections, and makes its decisions ===== -/
theorem nI_sub {a b : Nat} (h : b ≤ a) : nI a - nI b = nI (a - b) := by
  have : nI a = nI (a - b) + nI b := by rw [nI_add, Nat.sub_add_cancel h]
  rw [this, Int32.add_sub_cancel]
theorem dlF_in {P : aP} {rs : Nat → Nat} {c k : Nat} (h : tg (P.1 4) k 0 = c ∧ kindF P rs k = 1) : dlF P rs c (k + 1) = if dlF P rs c k < tg (P.1 4) k 1 + 10 - tg (P.1 2) c 3 then tg (P.1 4) k 1 + 10 - tg (P.1 2) c 3 else dlF P rs c k := by rw [dlF, if_pos h]
theorem dlF_out {P : aP} {rs : Nat → Nat} {c k : Nat} (h : ¬ (tg (P.1 4) k 0 = c ∧ kindF P rs k = 1)) : dlF P rs c (k + 1) = dlF P rs c k := by rw [dlF, if_neg h]
theorem c_b71 {b : Nat} {s : fS} {P : aP} (hp : PV b s P) (hok : aOK P) {K : Int32 → Int32 → Int32 → fS → Option fS} {c d i kd m : Nat} (hb : b + 15 ≤ 138) (hc : c < 12) (hi : i < (P.1 4).length) (hm : s 143 c = nI m) (hm2 : m ≤ 2810) (hk : kd ≤ 2) (hd : kd = 1 → d ≤ tg (P.1 4) i 1 + 10) : f_X0_settleConnections_b71 b K (nI c) (nI d) (nI i) (nI kd) (nI i) s = K (nI c) (nI d) (nI (i + 1)) (if kd = 1 then fu (fu s 144 i (nI 1)) 143 c (nI (if m < tg (P.1 4) i 1 + 10 - d then tg (P.1 4) i 1 + 10 - d else m)) else fu s 144 i (nI kd)) := by
  have z4 : (P.1 4).length ≤ 8 := hok.1 4 (by decide)
  have kk := hok.2.2.2.2.2.1 i hi
  unfold f_X0_settleConnections_b71 f_X0_settleConnections_b106
  rw [fb_x rfl (by omega) (by decide), fL_ok, fb_x rfl (by omega) (by decide), nI_clamp (by omega), nI_clamp (by omega), fu_self]
  by_cases h1 : kd = 1
  · have hd2 := hd h1
    subst h1
    have hp' : PV b (fu s 144 i (nI 1)) P := hp.of (fun q a x => fu_cell (by omega))
    rw [if_pos (show nI 1 = (1 : Int32) from rfl), fb_x rfl hc (by decide), c_readyTime hp' hok hi, fcall_ok, fb_x rfl hc (by decide), fL_ok, if_pos rfl, nI_sub hd2, fu_cell (by decide), hm, nI_1]
    by_cases h2 : m < tg (P.1 4) i 1 + 10 - d
    · rw [if_pos (nI_lt h2 (by omega)), if_pos h2]
    · rw [if_neg (nI_nlt (by omega) (by omega)), if_neg h2]
  · rw [if_neg (show ¬ nI kd = (1 : Int32) from fun e => h1 (nI_inj (b := 1) (by omega) (by decide) e)), if_neg h1, nI_1]
theorem c_settle {b : Nat} {σ : fS} {P : aP} {rs : Nat → Nat} (hb : b + 15 ≤ 138) (hp : PV b σ P) (hok : aOK P) {c : Nat} (hc : c < (P.1 2).length) (hr : rs c ≤ 4) (h141 : σ 141 c = nI (rs c)) : ∃ σ', f_X0_settleConnections b (nI c) σ = some σ' ∧ (∀ q, q ≠ 143 → q ≠ 144 → σ' q = σ q) ∧ (∀ q, q ≠ c → σ' 143 q = σ 143 q) ∧ σ' 143 c = nI (dlF P rs c (P.1 4).length) ∧ (∀ k, k < (P.1 4).length → tg (P.1 4) k 0 = c → σ' 144 k = nI (kindF P rs k)) ∧ (∀ k, ¬ tg (P.1 4) k 0 = c → σ' 144 k = σ 144 k) := by
  have z2 : (P.1 2).length ≤ 12 := hok.1 2 (by decide)
  have z4 : (P.1 4).length ≤ 8 := hok.1 4 (by decide)
  have dc := okD hok hc
  unfold f_X0_settleConnections
  rw [cC3 hp hok.1 hc, fcall_ok, fb_x rfl (by omega) (by decide), fL_ok, nI_clamp (by omega)]
  obtain ⟨s, ⟨h1, h2, h3, h4, h5⟩, e⟩ := do_all (f := fun n v s => f_X0_settleConnections_b20 b n (nI c) (nI (tg (P.1 2) c 3)) v s) (N := (P.1 4).length) (I := fun i s => (∀ q, q ≠ 143 → q ≠ 144 → s q = σ q) ∧ (∀ q, q ≠ c → s 143 q = σ 143 q) ∧ s 143 c = nI (dlF P rs c i) ∧ (∀ k, k < i → tg (P.1 4) k 0 = c → s 144 k = nI (kindF P rs k)) ∧ (∀ k, ¬ tg (P.1 4) k 0 = c → s 144 k = σ 144 k)) (fin := fun s => some s) (by omega) (fun n s hI => by
    have hp' : PV b s P := hp.of (fun q a x => hI.1 q (by omega) (by omega))
    show f_X0_settleConnections_b20 b (n + 1) (nI c) (nI (tg (P.1 2) c 3)) (nI (P.1 4).length) s = _
    rw [f_X0_settleConnections_b20, cKn hp', fcall_ok, if_pos (nI_le (Nat.le_refl _) (by omega))]) (fun n i s hi hI => by
    have hp' : PV b s P := hp.of (fun q a x => hI.1 q (by omega) (by omega))
    obtain ⟨i1, i2, i3, i4, i5⟩ := hI
    have kk := hok.2.2.2.2.2.1 i hi
    show ∃ σ', _ ∧ f_X0_settleConnections_b20 b (n + 1) (nI c) (nI (tg (P.1 2) c 3)) (nI i) s = f_X0_settleConnections_b20 b n (nI c) (nI (tg (P.1 2) c 3)) (nI (i + 1)) σ'
    rw [f_X0_settleConnections_b20, cKn hp', fcall_ok, if_neg (nI_ge hi (by omega)), cK0 hp' hok.1 hi, fcall_ok]
    by_cases hkc : tg (P.1 4) i 0 = c
    · have h141' : s 141 c = nI (rs c) := by rw [i1 141 (by decide) (by decide)]; exact h141
      have hkl := kindF_le P rs i
      have hml := dlF_le hok rs c i (by omega)
      have hd : kindF P rs i = 1 → tg (P.1 2) c 3 ≤ tg (P.1 4) i 1 + 10 := fun h => by
        unfold kindF at h
        rw [hkc] at h
        split at h
        · have := (kindS_1 h).1
          rw [hkc] at this
          omega
        · cases h
      have go : (∃ σ', ((∀ q, q ≠ 143 → q ≠ 144 → σ' q = σ q) ∧ (∀ q, q ≠ c → σ' 143 q = σ 143 q) ∧ σ' 143 c = nI (dlF P rs c (i + 1)) ∧ (∀ k, k < i + 1 → tg (P.1 4) k 0 = c → σ' 144 k = nI (kindF P rs k)) ∧ (∀ k, ¬ tg (P.1 4) k 0 = c → σ' 144 k = σ 144 k)) ∧ f_X0_settleConnections_b71 b (fun v2 v3 v4 σ => f_X0_settleConnections_b20 b n v2 v3 v4 σ) (nI c) (nI (tg (P.1 2) c 3)) (nI i) (nI (kindF P rs i)) (nI i) s = f_X0_settleConnections_b20 b n (nI c) (nI (tg (P.1 2) c 3)) (nI (i + 1)) σ') := by
        rw [c_b71 hp' hok hb (by omega) hi i3 hml hkl hd]
        refine ⟨_, ?_, rfl⟩
        have e4 : ∀ (x : fS), x 144 = upd (s 144) i (nI (kindF P rs i)) → (∀ k, k < i + 1 → tg (P.1 4) k 0 = c → x 144 k = nI (kindF P rs k)) ∧ (∀ k, ¬ tg (P.1 4) k 0 = c → x 144 k = σ 144 k) := fun x hx => by
          rw [hx]
          refine ⟨fun k hk hq => ?_, fun k hq => ?_⟩
          · unfold upd
            by_cases hki : k = i
            · rw [if_pos hki, hki]
            · rw [if_neg hki]; exact i4 k (by omega) hq
          · unfold upd
            rw [if_neg (fun e => hq (by rw [e]; exact hkc))]
            exact i5 k hq
        by_cases hk1 : kindF P rs i = 1
        · rw [if_pos hk1, dlF_in ⟨hkc, hk1⟩]
          refine ⟨fun q a x => by rw [fu_cell a, fu_cell x]; exact i1 q a x, fun q hq => by rw [fu_slot hq, fu_cell (by decide)]; exact i2 q hq, fu_self _ _ _ _, e4 _ (by rw [fu_cell (by decide), fu_row, hk1])⟩
        · rw [if_neg hk1, dlF_out (fun e => hk1 e.2)]
          exact ⟨fun q a x => by rw [fu_cell x]; exact i1 q a x, fun q hq => by rw [fu_cell (by decide)]; exact i2 q hq, by rw [fu_cell (by decide)]; exact i3, e4 _ (by rw [fu_row])⟩
      rw [hkc, if_pos rfl, c_sails (by omega) hr h141', fcall_ok]
      by_cases h0 : rs c = 0
      · have hf := c_fateOf hp' hok hi
        rw [hkc] at hf
        rw [decide_eq_true h0, if_neg bI_t, hf, fcall_ok, show kindS P i = kindF P rs i from by unfold kindF; rw [hkc, if_pos h0]]
        exact go
      · rw [decide_eq_false h0, if_pos bI_f, show (2 : Int32) = nI (kindF P rs i) from by unfold kindF; rw [hkc, if_neg h0]; rfl]
        exact go
    · rw [if_neg (fun e => hkc (nI_inj (by omega) (by omega) e))]
      unfold f_X0_settleConnections_b106
      refine ⟨s, ⟨i1, i2, ?_, fun k hk hq => ?_, i5⟩, by rw [nI_1]⟩
      · rw [dlF_out (fun e => hkc e.1)]
        exact i3
      · by_cases hki : k = i
        · exact absurd (hki ▸ hq) hkc
        · exact i4 k (by omega) hq) (σ := fu σ 143 c 0) ⟨fun q a x => fu_cell a, fun q hq => fu_slot hq, by rw [fu_self]; rfl, fun k hk => by omega, fun k _ => by rw [fu_cell (by decide)]⟩
  exact ⟨s, e, h1, h2, h3, h4, h5⟩
/-- all decisions -/
def dA (P : aP) : aD := dPl P (P.1 2).length
/-- all that is decided stands in five rows -/
def DC (σ : fS) (po od rr dd ll : Nat) (P : aP) : Prop := (∀ c, c < (P.1 2).length → σ po c = nI (pos P c) ∧ σ rr c = nI ((dA P).1 c) ∧ σ dd c = (dA P).2.1 c ∧ σ ll c = nI ((dA P).2.2 c)) ∧ ∀ n, n < (P.1 2).length → σ od n = nI (ord P n)
theorem DC.mk {σ : fS} {po od rr dd ll : Nat} {P : aP} (hO : OV σ po od P (P.1 2).length) (hD : DV σ rr dd ll P (dPl P (P.1 2).length) (P.1 2).length) : DC σ po od rr dd ll P := by
  refine ⟨fun c hc => ?_, fun n hn => hO.ord hn⟩
  have h := hD (pos P c) (pos_lt hc)
  rw [ord_pos hc] at h
  exact ⟨(hO c hc).1, h⟩
theorem DC.of {σ σ' : fS} {po od rr dd ll : Nat} {P : aP} (h : DC σ po od rr dd ll P) (h1 : σ' po = σ po) (h2 : σ' od = σ od) (h3 : σ' rr = σ rr) (h4 : σ' dd = σ dd) (h5 : σ' ll = σ ll) : DC σ' po od rr dd ll P := by
  unfold DC
  rw [h1, h2, h3, h4, h5]
  exact h
theorem OV.of {σ σ' : fS} {po od : Nat} {P : aP} {c : Nat} (h : OV σ po od P c) (h1 : σ' po = σ po) (h2 : σ' od = σ od) : OV σ' po od P c := by
  unfold OV
  rw [h1, h2]
  exact h
theorem kindF_up {P : aP} {rs : Nat → Nat} {c v k : Nat} (h : tg (P.1 4) k 0 ≠ c) : kindF P (up1 rs c v) k = kindF P rs k := by
  unfold kindF
  rw [up1_ne h]
theorem c_make {b : Nat} {σ : fS} {P : aP} (hb : b + 15 ≤ 138) (hp : PV b σ P) (hok : aOK P) : ∃ σ', f_X0_make b σ = some σ' ∧ (∀ c, c < 139 ∨ 145 ≤ c → σ' c = σ c) ∧ DC σ' 140 139 141 142 143 P ∧ ∀ k, k < (P.1 4).length → σ' 144 k = nI (kindF P (dA P).1 k) := by
  have z2 : (P.1 2).length ≤ 12 := hok.1 2 (by decide)
  obtain ⟨s0, e0, f0, hO⟩ := c_order hb hp hok
  rw [e0]
  obtain ⟨s, ⟨h1, h2, h3⟩, e⟩ := do_all (f := fun n v s => f_X0_make_b41 b n v s) (N := (P.1 2).length) (I := fun p s => (∀ c, c ≠ 141 → c ≠ 142 → c ≠ 143 → c ≠ 144 → s c = s0 c) ∧ DV s 141 142 143 P (dPl P p) p ∧ ∀ k, k < (P.1 4).length → pos P (tg (P.1 4) k 0) < p → s 144 k = nI (kindF P (dPl P p).1 k)) (fin := fun s => some s) (by omega) (fun n s hI => by
    have hp' : PV b s P := hp.of (fun q a x => by rw [hI.1 q (by omega) (by omega) (by omega) (by omega), f0 q (by omega) (by omega)])
    show f_X0_make_b41 b (n + 1) (nI (P.1 2).length) s = _
    rw [f_X0_make_b41, cCn hp', fcall_ok, if_pos (nI_le (Nat.le_refl _) (by omega))]) (fun n p s hpl hI => by
    obtain ⟨i1, i2, i3⟩ := hI
    have hp' : PV b s P := hp.of (fun q a x => by rw [i1 q (by omega) (by omega) (by omega) (by omega), f0 q (by omega) (by omega)])
    have hO' : OV s 140 139 P (P.1 2).length := hO.of (i1 140 (by decide) (by decide) (by decide) (by decide)) (i1 139 (by decide) (by decide) (by decide) (by decide))
    obtain ⟨hc, hpc⟩ := pos_ord hpl
    have hw := why_le P (dPl P p) (ord P p)
    have cs := fun s1 hp1 h1 => c_settle (b := b) (σ := s1) (P := P) (rs := up1 (dPl P p).1 (ord P p) (whyF P (dPl P p) (ord P p)).1) hb hp1 hok hc (by rw [up1_self]; exact hw) h1
    have f1 : ∀ q, q ≠ 141 → q ≠ 142 → fu (fu s 141 (ord P p) (nI (whyF P (dPl P p) (ord P p)).1)) 142 (ord P p) (whyF P (dPl P p) (ord P p)).2 q = s q := fun q a x => by rw [fu_cell x, fu_cell a]
    have hp1 : PV b (fu (fu s 141 (ord P p) (nI (whyF P (dPl P p) (ord P p)).1)) 142 (ord P p) (whyF P (dPl P p) (ord P p)).2) P := hp'.of (fun q a x => f1 q (by omega) (by omega))
    obtain ⟨s2, e2, g1, g2, g3, g4, g5⟩ := cs _ hp1 (by rw [fu_cell (by decide), fu_self, up1_self])
    refine ⟨s2, ⟨fun c a1 a2 a3 a4 => by rw [g1 c a3 a4, f1 c a1 a2]; exact i1 c a1 a2 a3 a4, ?_, fun k hk hq => ?_⟩, ?_⟩
    · refine i2.step hpl (fun q hq => ⟨?_, ?_, ?_⟩) ?_ ?_ g3
      · rw [g1 141 (by decide) (by decide), fu_cell (by decide), fu_slot hq]
      · rw [g1 142 (by decide) (by decide), fu_slot hq, fu_cell (by decide)]
      · rw [g2 q hq, f1 143 (by decide) (by decide)]
      · rw [g1 141 (by decide) (by decide), fu_cell (by decide), fu_self]
      · rw [g1 142 (by decide) (by decide), fu_self]
    · show s2 144 k = nI (kindF P (up1 (dPl P p).1 (ord P p) (whyF P (dPl P p) (ord P p)).1) k)
      by_cases hkc : tg (P.1 4) k 0 = ord P p
      · exact g4 k hk hkc
      · rw [kindF_up hkc, g5 k hkc, f1 144 (by decide) (by decide)]
        have hkk := (hok.2.2.2.2.2.1 k hk).1
        exact i3 k hk (by
          have : pos P (tg (P.1 4) k 0) ≠ p := fun e => hkc (by rw [← e, ord_pos hkk])
          omega)
    · show f_X0_make_b41 b (n + 1) (nI p) s = f_X0_make_b41 b n (nI (p + 1)) s2
      rw [f_X0_make_b41, cCn hp', fcall_ok, if_neg (nI_ge hpl (by omega)), c_decide hp' hok (rs_le P p) (dl_le hok p) hO' hpl i2, fcallv_ok, fb_x rfl (by omega) (by decide), nI_clamp (by omega), f1 139 (by decide) (by decide), hO'.ord hpl, e2, fcallv_ok, nI_1]) (σ := s0) ⟨fun _ _ _ _ _ => rfl, fun n hn => by omega, fun k _ hq => by omega⟩
  refine ⟨s, e, fun c hc => by rw [h1 c (by omega) (by omega) (by omega) (by omega), f0 c (by omega) (by omega)], DC.mk (hO.of (h1 140 (by decide) (by decide) (by decide) (by decide)) (h1 139 (by decide) (by decide) (by decide) (by decide))) h2, fun k hk => h3 k hk (pos_lt (hok.2.2.2.2.2.1 k hk).1)⟩
/-! ===== the reference decides ===== -/
theorem m_shallow {σ : fS} {P : aP} (hg : GV (σ 165) P) (hok : aOK P) {c : Nat} (hc : c < (P.1 2).length) : f_X8_shallow (nI c) σ = some (orI (-1) nI (shF P c), σ) := by
  have d := okD hok hc
  have s := hok.2.2.2.1 c hc
  have stp : ∀ (n k : Nat), k < tg (P.1 2) c 3 + 1 → f_X8_shallow_b7 (n + 1) (nI c) (nI k) σ = if shB P c k = true then some (nI k, σ) else f_X8_shallow_b7 n (nI c) (nI (k + 1)) σ := by
    intro n k hk
    have at1 : k = tg (P.1 2) c 2 ∨ k = tg (P.1 2) c 3 ∨ k % 60 = 0 → f_X8_shallow_b44 (fun v1 v2 σ => f_X8_shallow_b7 n v1 v2 σ) (nI c) (nI k) σ = if shB P c k = true then some (nI k, σ) else f_X8_shallow_b7 n (nI c) (nI (k + 1)) σ := fun h => by
      unfold f_X8_shallow_b44 f_X8_shallow_b49 f_X8_shallow_b76
      rw [if_neg (by decide), mC0 hg hok.1 hc, fcall_ok, mC1 hg hok.1 hc, fcall_ok, m_deep hg hok.1 s.1 s.2.1 (by omega), fcall_ok, shB_at h, nI_1]
      cases deepB P (tg (P.1 2) c 0) (tg (P.1 2) c 1) k <;> rfl
    rw [f_X8_shallow_b7, mC3 hg hok.1 hc, fcall_ok, if_neg (nI_nlt (by omega) (by omega)), mC2 hg hok.1 hc, fcall_ok]
    by_cases h1 : k = tg (P.1 2) c 2
    · rw [if_pos (by rw [h1])]; exact at1 (Or.inl h1)
    · rw [if_neg (fun e => h1 (nI_inj (by omega) (by omega) e)), mC3 hg hok.1 hc, fcall_ok]
      by_cases h2 : k = tg (P.1 2) c 3
      · rw [if_pos (by rw [h2])]; exact at1 (Or.inr (Or.inl h2))
      · rw [if_neg (fun e => h2 (nI_inj (by omega) (by omega) e)), nI_rem60' (by omega)]
        by_cases h3 : k % 60 = 0
        · rw [if_pos (by rw [h3]; rfl)]; exact at1 (Or.inr (Or.inr h3))
        · rw [if_neg (nI_ne0 (by omega) (by omega)), shB_off h1 h2 h3]
          unfold f_X8_shallow_b49 f_X8_shallow_b76
          rw [if_pos rfl, nI_1]
          rfl
  unfold f_X8_shallow shF
  rw [mC2 hg hok.1 hc, fcall_ok]
  refine find_loop (f := fun n v => f_X8_shallow_b7 n (nI c) v σ) (N := tg (P.1 2) c 3 + 1) (c := shB P c) (r := nI) (fun n => ?_) (fun n k hk hcc => ?_) (fun n k hk hcc => ?_) _ _ fN (by omega) (by unfold fN; omega)
  · show f_X8_shallow_b7 (n + 1) (nI c) (nI (tg (P.1 2) c 3 + 1)) σ = _
    rw [f_X8_shallow_b7, mC3 hg hok.1 hc, fcall_ok, if_pos (nI_lt (by omega) (by omega))]
  · show f_X8_shallow_b7 (n + 1) (nI c) (nI k) σ = _
    rw [stp n k hk, if_pos hcc]
  · show f_X8_shallow_b7 (n + 1) (nI c) (nI k) σ = f_X8_shallow_b7 n (nI c) (nI (k + 1)) σ
    rw [stp n k hk, if_neg (by rw [hcc]; decide)]
theorem m_way {σ : fS} {P : aP} {D : aD} (hg : GV (σ 165) P) (hok : aOK P) (hr : ∀ q, D.1 q ≤ 4) (hl : ∀ q, D.2.2 q ≤ 2810) (hO : OV σ 172 171 P (P.1 2).length) {p : Nat} (hpl : p < (P.1 2).length) (hD : DV σ 173 174 175 P D p) {w : Nat} {x : Int32} (hx : x = nI w) (hw : w < 4) : f_X8_blocker (nI (ord P p)) x σ = some (orI (-1) (fun n => nI (ord P n)) (blF P D (ord P p) w), σ) := by
  have z2 : (P.1 2).length ≤ 12 := hok.1 2 (by decide)
  obtain ⟨hc, hpc⟩ := pos_ord hpl
  have dc := okD hok hc
  have hpo : σ 172 (ord P p) = nI p := by rw [(hO _ hc).1, hpc]
  have stp : ∀ n i, i < p → f_X8_blocker_b2 (n + 1) (nI (ord P p)) x (nI i) σ = if blB P D (ord P p) w i = true then some (nI (ord P i), σ) else f_X8_blocker_b2 n (nI (ord P p)) x (nI (i + 1)) σ := by
    intro n i hi
    have hi' : i < (P.1 2).length := by omega
    have hq := (pos_ord hi').1
    have dq := okD hok hq
    have lq := hl (ord P i)
    have rq := hr (ord P i)
    obtain ⟨d1, d2, d3⟩ := hD i hi
    rw [f_X8_blocker_b2, fb_x rfl (by omega) (by decide), nI_clamp (by omega), hpo, if_neg (nI_ge hi (by omega)), fb_x rfl (by omega) (by decide), nI_clamp (by omega), hO.ord hi', mC2 hg hok.1 hq, fcall_ok, mC3 hg hok.1 hc, fcall_ok]
    have b65 : ∀ s0 : Int32, f_X8_blocker_b65 (fun v1 v2 v3 σ => f_X8_blocker_b2 n v1 v2 v3 σ) (nI (ord P p)) x (nI i) (nI (ord P i)) s0 σ = if D.1 (ord P i) = 0 ∧ tg (P.1 2) (ord P i) w = tg (P.1 2) (ord P p) w ∧ ¬ s0 = 0 then some (nI (ord P i), σ) else f_X8_blocker_b2 n (nI (ord P p)) x (nI (i + 1)) σ := fun s0 => by
      unfold f_X8_blocker_b65 f_X8_blocker_b101
      rw [fb_x rfl (by omega) (by decide), nI_clamp (by omega), d1, nI_1]
      by_cases g1 : D.1 (ord P i) = 0
      · rw [if_pos (by rw [g1]; rfl), mC hg hok.1 hq hx hw, fcall_ok, mC hg hok.1 hc hx hw, fcall_ok]
        by_cases g2 : tg (P.1 2) (ord P i) w = tg (P.1 2) (ord P p) w
        · rw [if_pos (by rw [g2])]
          by_cases g3 : s0 = 0
          · rw [if_pos g3, if_neg (fun e => e.2.2 g3)]
          · rw [if_neg g3, if_pos ⟨g1, g2, g3⟩]
        · rw [if_neg (fun e => g2 (nI_inj (okCol hok hq hw) (okCol hok hc hw) e)), if_neg (fun e => g2 e.2.1)]
      · rw [if_neg (nI_ne0 (by omega) (by omega)), if_neg (fun e => g1 e.1)]
    unfold f_X8_blocker_b64
    by_cases g3 : tg (P.1 2) (ord P i) 2 < tg (P.1 2) (ord P p) 3
    · rw [if_neg (nI_ge g3 (by omega)), mC2 hg hok.1 hc, fcall_ok, mC3 hg hok.1 hq, fcall_ok, fb_x rfl (by omega) (by decide), nI_clamp (by omega), d3, nI_add]
      by_cases g4 : tg (P.1 2) (ord P p) 2 < tg (P.1 2) (ord P i) 3 + D.2.2 (ord P i)
      · rw [if_neg (nI_ge g4 (by omega)), b65]
        unfold blB
        by_cases g : D.1 (ord P i) = 0 ∧ tg (P.1 2) (ord P i) w = tg (P.1 2) (ord P p) w
        · rw [if_pos ⟨g.1, g.2, by decide⟩, if_pos (decide_eq_true ⟨g.1, g.2, g3, g4⟩)]
        · rw [if_neg (fun e => g ⟨e.1, e.2.1⟩), if_neg (fun e => g ⟨(of_decide_eq_true e).1, (of_decide_eq_true e).2.1⟩)]
      · rw [if_pos (nI_le (by omega) (by omega)), b65, if_neg (fun e => e.2.2 rfl)]
        unfold blB
        rw [if_neg (fun e => g4 (of_decide_eq_true e).2.2.2)]
    · rw [if_pos (nI_le (by omega) (by omega)), b65, if_neg (fun e => e.2.2 rfl)]
      unfold blB
      rw [if_neg (fun e => g3 (of_decide_eq_true e).2.2.1)]
  unfold f_X8_blocker blF
  rw [hpc]
  refine find_loop (f := fun n v => f_X8_blocker_b2 n (nI (ord P p)) x v σ) (N := p) (c := blB P D (ord P p) w) (r := fun n => nI (ord P n)) (fun n => ?_) (fun n i hi hcc => ?_) (fun n i hi hcc => ?_) p 0 fN (by omega) (by unfold fN; omega)
  · show f_X8_blocker_b2 (n + 1) (nI (ord P p)) x (nI p) σ = _
    rw [f_X8_blocker_b2, fb_x rfl (by omega) (by decide), nI_clamp (by omega), hpo, if_pos (nI_le (Nat.le_refl _) (by omega))]
  · show f_X8_blocker_b2 (n + 1) (nI (ord P p)) x (nI i) σ = _
    rw [stp n i hi, if_pos hcc]
  · show f_X8_blocker_b2 (n + 1) (nI (ord P p)) x (nI i) σ = f_X8_blocker_b2 n (nI (ord P p)) x (nI (i + 1)) σ
    rw [stp n i hi, if_neg (by rw [hcc]; decide)]
theorem m_kindOf {σ : fS} {P : aP} {rs : Nat → Nat} (hg : GV (σ 165) P) (hok : aOK P) {k : Nat} (hk : k < (P.1 4).length) (hr : rs (tg (P.1 4) k 0) ≤ 4) (h173 : σ 173 (tg (P.1 4) k 0) = nI (rs (tg (P.1 4) k 0))) : f_X8_kindOf (nI k) σ = some (nI (kindF P rs k), σ) := by
  have z2 : (P.1 2).length ≤ 12 := hok.1 2 (by decide)
  have kk := hok.2.2.2.2.2.1 k hk
  have hc := kk.1
  have d := okD hok hc
  have s := hok.2.2.2.1 _ hc
  unfold f_X8_kindOf kindF
  rw [mK0 hg hok.1 hk, fcall_ok, mK1 hg hok.1 hk, fcall_ok, fb_x rfl (by omega) (by decide), nI_clamp (by omega), h173]
  by_cases h0 : rs (tg (P.1 4) k 0) = 0
  · rw [if_pos (by rw [h0]; rfl), if_pos h0, mC3 hg hok.1 hc, fcall_ok, show nI (tg (P.1 4) k 1) + (10 : Int32) = nI (tg (P.1 4) k 1 + 10) from nI_add _ 10]
    unfold kindS
    by_cases h1 : tg (P.1 4) k 1 + 10 ≤ tg (P.1 2) (tg (P.1 4) k 0) 3
    · rw [if_neg (nI_nlt h1 (by omega)), if_pos h1]; rfl
    · rw [if_pos (nI_lt (by omega) (by omega)), if_neg h1, mC3 hg hok.1 hc, fcall_ok, mK2 hg hok.1 hk, fcall_ok, nI_add]
      unfold f_X8_kindOf_b62
      by_cases h2 : tg (P.1 4) k 1 + 10 ≤ tg (P.1 2) (tg (P.1 4) k 0) 3 + tg (P.1 4) k 2
      · rw [if_neg (nI_nlt h2 (by omega)), if_pos h2, if_neg (by decide), mC0 hg hok.1 hc, fcall_ok, m_calm hg hok s.1 (by omega), fcall_ok]
        cases calmB P (tg (P.1 2) (tg (P.1 4) k 0) 0) (tg (P.1 4) k 1 + 10) with
        | true =>
          rw [if_neg bI_t, mC0 hg hok.1 hc, fcall_ok, mC1 hg hok.1 hc, fcall_ok, m_deep hg hok.1 s.1 s.2.1 (by omega), fcall_ok]
          cases deepB P (tg (P.1 2) (tg (P.1 4) k 0) 0) (tg (P.1 2) (tg (P.1 4) k 0) 1) (tg (P.1 4) k 1 + 10) <;> rfl
        | false => rfl
      · rw [if_pos (nI_lt (by omega) (by omega)), if_neg h2]
        rfl
  · rw [if_neg (nI_ne0 (by omega) (by omega)), if_neg h0]; rfl
theorem m_late {σ : fS} {P : aP} {rs : Nat → Nat} (hg : GV (σ 165) P) (hok : aOK P) {c : Nat} (hc : c < (P.1 2).length) (hr : rs c ≤ 4) (h173 : σ 173 c = nI (rs c)) (h175 : σ 175 c = 0) : ∃ σ', f_X8_decides_b158 (nI c) σ = some σ' ∧ (∀ q, q ≠ 175 → σ' q = σ q) ∧ (∀ q, q ≠ c → σ' 175 q = σ 175 q) ∧ σ' 175 c = nI (dlF P rs c (P.1 4).length) := by
  have z2 : (P.1 2).length ≤ 12 := hok.1 2 (by decide)
  have z4 : (P.1 4).length ≤ 8 := hok.1 4 (by decide)
  have dc := okD hok hc
  unfold f_X8_decides_b158
  obtain ⟨s, ⟨h1, h2, h3⟩, e⟩ := do_all (f := fun n v s => f_X8_decides_b161 n (nI c) v s) (N := (P.1 4).length) (I := fun i s => (∀ q, q ≠ 175 → s q = σ q) ∧ (∀ q, q ≠ c → s 175 q = σ 175 q) ∧ s 175 c = nI (dlF P rs c i)) (fin := fun s => some s) (by omega) (fun n s hI => by
    have hg' : GV (s 165) P := by rw [hI.1 165 (by decide)]; exact hg
    show f_X8_decides_b161 (n + 1) (nI c) (nI (P.1 4).length) s = _
    rw [f_X8_decides_b161, fb244, mKn hg', if_pos (nI_le (Nat.le_refl _) (by omega))]) (fun n i s hi hI => by
    obtain ⟨i1, i2, i3⟩ := hI
    have hg' : GV (s 165) P := by rw [i1 165 (by decide)]; exact hg
    have kk := hok.2.2.2.2.2.1 i hi
    have hml := dlF_le hok rs c i (by omega)
    show ∃ σ', _ ∧ f_X8_decides_b161 (n + 1) (nI c) (nI i) s = f_X8_decides_b161 n (nI c) (nI (i + 1)) σ'
    rw [f_X8_decides_b161, fb244, mKn hg', if_neg (nI_ge hi (by omega)), mK0 hg' hok.1 hi, fcall_ok]
    unfold f_X8_decides_b241 f_X8_decides_b242
    by_cases hkc : tg (P.1 4) i 0 = c
    · have h173' : s 173 (tg (P.1 4) i 0) = nI (rs (tg (P.1 4) i 0)) := by rw [hkc, i1 173 (by decide)]; exact h173
      rw [if_pos (by rw [hkc]), m_kindOf (rs := rs) hg' hok hi (by rw [hkc]; exact hr) h173', fcall_ok]
      have hkl := kindF_le P rs i
      by_cases hk1 : kindF P rs i = 1
      · have hd : tg (P.1 2) c 3 ≤ tg (P.1 4) i 1 + 10 := by
          unfold kindF at hk1
          split at hk1
          · have := (kindS_1 hk1).1
            rw [hkc] at this
            omega
          · cases hk1
        rw [if_pos (by rw [hk1]; rfl), mK1 hg' hok.1 hi, fcall_ok, mC3 hg' hok.1 hc, fcall_ok, show nI (tg (P.1 4) i 1) + (10 : Int32) = nI (tg (P.1 4) i 1 + 10) from nI_add _ 10, nI_sub hd, fb_x rfl (by omega) (by decide), nI_clamp (by omega), i3, nI_1]
        by_cases hlt : dlF P rs c i < tg (P.1 4) i 1 + 10 - tg (P.1 2) c 3
        · rw [if_neg (nI_ge hlt (by omega)), fb_x rfl (by omega) (by decide), fL_ok]
          exact ⟨_, ⟨fun q hq => by rw [fu_cell hq]; exact i1 q hq, fun q hq => by rw [fu_slot hq]; exact i2 q hq, by rw [dlF_in ⟨hkc, hk1⟩, if_pos hlt]; exact fu_self _ _ _ _⟩, rfl⟩
        · rw [if_pos (nI_le (by omega) (by omega)), fb_x rfl (by omega) (by decide), fb_x rfl (by omega) (by decide), fL_ok]
          exact ⟨_, ⟨fun q hq => by rw [fu_cell hq]; exact i1 q hq, fun q hq => by rw [fu_slot hq]; exact i2 q hq, by rw [dlF_in ⟨hkc, hk1⟩, if_neg hlt]; exact fu_self _ _ _ _⟩, rfl⟩
      · rw [if_neg (show ¬ nI (kindF P rs i) = (1 : Int32) from fun e => hk1 (nI_inj (b := 1) (by omega) (by decide) e)), nI_1]
        exact ⟨s, ⟨i1, i2, by rw [dlF_out (fun e => hk1 e.2)]; exact i3⟩, rfl⟩
    · rw [if_neg (fun e => hkc (nI_inj (by omega) (by omega) e)), nI_1]
      exact ⟨s, ⟨i1, i2, by rw [dlF_out (fun e => hkc e.1)]; exact i3⟩, rfl⟩) (σ := σ) ⟨fun _ _ => rfl, fun _ _ => rfl, h175⟩
  exact ⟨s, e, h1, h2, h3⟩

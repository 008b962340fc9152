/-! ===== questions ===== -/
theorem LI.fin {σ s s3 : fS} (h : LI σ) (h1 : ∀ q, q < 16 ∨ (31 ≤ q ∧ q < 138) ∨ 157 ≤ q → s q = σ q) (h2 : ∀ q, q < 171 ∨ 187 ≤ q → s3 q = s q) : LI s3 := h.of (fun c hc _ => by unfold scr at hc; rw [h2 c (by omega), h1 c (by omega)]) (fun j _ => by rw [h2 164 (by decide), h1 164 (by omega)])
theorem run1 {σ : fS} {P : aP} (hp : PV 1 σ P) (hg : GV (σ 165) P) (hok : aOK P) : ∃ s, f_X0_make 1 σ = some s ∧ PV 1 s P ∧ GV (s 165) P ∧ DCc s P ∧ FTc s P ∧ ∀ q, q < 139 ∨ 145 ≤ q → s q = σ q := by
  obtain ⟨s, e, f, d, t⟩ := c_make (b := 1) (by decide) hp hok
  exact ⟨s, e, hp.of (fun q a x => f q (by omega)), by rw [f 165 (by decide)]; exact hg, d, t, f⟩
theorem run2 {σ : fS} {P : aP} (hp : PV 1 σ P) (hg : GV (σ 165) P) (hok : aOK P) (hd : DCc σ P) (ht : FTc σ P) : ∃ s, f_X2_make 1 σ = some s ∧ PV 1 s P ∧ GV (s 165) P ∧ DCc s P ∧ FTc s P ∧ LVc s P ∧ ∀ q, q < 146 ∨ 156 ≤ q → s q = σ q := by
  obtain ⟨s, e, f, l⟩ := c_load (b := 1) (by decide) hp hok hd
  exact ⟨s, e, hp.of (fun q a x => f q (by omega)), by rw [f 165 (by decide)]; exact hg, hd.of (f _ (by decide)) (f _ (by decide)) (f _ (by decide)) (f _ (by decide)) (f _ (by decide)), fun k hk => by rw [f 144 (by decide)]; exact ht k hk, l, f⟩
theorem run3 {σ : fS} {P : aP} (hg : GV (σ 165) P) (hok : aOK P) : ∃ s, f_X8_tell σ = some s ∧ GV (s 165) P ∧ DCm s P ∧ LVm s P ∧ LRt s P (lA P) ∧ ∀ q, q < 171 ∨ 185 ≤ q → s q = σ q := by
  obtain ⟨s, e, f, d, l, r⟩ := m_tell hg hok
  exact ⟨s, e, by rw [f 165 (by decide)]; exact hg, d, l, r, f⟩
theorem gn {g : Nat → Int32} {P : aP} (hg : GV g P) {j k : Nat} (hj : j < 5) (hk : k = cnx j) : g k = nI (P.1 j).length := by rw [hk]; exact (hg.1 j hj).1
theorem in_no {x : Int32} {a b : Int32} (h : ¬ ((0 : Int32) ≤ x ∧ x ≤ b)) (hab : (0 : Int32) ≤ a ∧ a ≤ b) : ¬ x = a := fun e => h (by rw [e]; exact hab)
theorem in_sub {x : Int32} {b c : Int32} (h : ¬ ((0 : Int32) ≤ x ∧ x ≤ b)) (hcb : c ≤ b) : ¬ ((0 : Int32) ≤ x ∧ x ≤ c) := fun e => h ⟨e.1, Int32.le_trans e.2 hcb⟩
theorem in_lit {n : Nat} {b : Int32} {m : Nat} (hb : b = nI m) (hn : n ≤ m) (hm : m < 2 ^ 31) : (0 : Int32) ≤ nI n ∧ nI n ≤ b := ⟨nI_pos' (by omega), by rw [hb]; exact nI_le hn hm⟩
theorem in_out {n : Nat} {b : Int32} {m : Nat} (hb : b = nI m) (hn : m < n) (h : n < 2 ^ 31) : ¬ ((0 : Int32) ≤ nI n ∧ nI n ≤ b) := fun e => by
  rw [hb] at e
  exact nI_ge hn h e.2
theorem st_15 : ∀ (σ : fS) (x1 : Int32) (x2 : Int32), LI σ → ∃ (r : Int32) (σ1 σ2 : fS), f_X7_ship x1 x2 σ = some (r, σ1) ∧ f_X8_ship x1 x2 σ1 = some (r, σ2) ∧ LI σ2 := by
  intro σ x1 x2 hLI
  obtain ⟨⟨P, k, F, hPV, hGV, hok, -⟩, -⟩ := id hLI
  have z0 : (P.1 0).length ≤ 4 := hok.1 0 (by decide)
  have nc : σ 2 3 = nI (P.1 0).length := (hPV.1 0 (by decide)).1
  have nm := fun (s : fS) (g : GV (s 165) P) => gn (j := 0) (k := 98) g (by decide) rfl
  unfold f_X7_ship f_X8_ship
  rcases ix_cases x1 (n := (P.1 0).length) (by omega) with ⟨i, hi, rfl⟩ | o
  · by_cases h : (0 : Int32) ≤ x2 ∧ x2 ≤ 4
    · obtain ⟨c, rfl, -, u⟩ := rng_nI (a := 0) (b := 4) rfl rfl (by decide) (by decide) h
      rw [p_has1 nc (by omega) rfl hi, fcall_ok, if_neg (by decide), p_isOutside, if_pos h, fcall_ok, if_pos rfl]
      by_cases hc : c < 4
      · rw [if_neg (show ¬ (4 : Int32) ≤ nI c from nI_ge (b := 4) hc (by decide)), show f_X5_at 2 4 4 (nI i) (nI c) σ = _ from cS (b := 1) hPV hok.1 hi rfl hc, fcall_ok]
        refine ⟨_, σ, σ, rfl, ?_, hLI⟩
        rw [p_isShip1 (nm σ hGV) (by omega) rfl hi, fcall_ok, if_neg (by decide), p_in, if_pos (in_lit (n := c) (b := 3) (m := 3) rfl (by omega) (by decide)), fcall_ok, if_neg (by decide), mS hGV hok.1 hi rfl hc, fcall_ok]
      · have : c = 4 := by omega
        subst this
        obtain ⟨s1, e1, p1, g1, d1, t1, f1⟩ := run1 hPV hGV hok
        obtain ⟨s3, e3, g3, d3, l3, r3, f3⟩ := run3 g1 hok
        rw [if_pos (by decide), e1, fcallv_ok, c_countS (b := 1) p1 hok d1 (show (0 : Int32) = nI 0 from rfl) (by decide) (by omega), fcall_ok]
        refine ⟨_, s1, s3, rfl, ?_, hLI.fin (fun q hq => f1 q (by omega)) (fun q hq => f3 q (by omega))⟩
        rw [p_isShip1 (nm s1 g1) (by omega) rfl hi, fcall_ok, if_neg (by decide), p_in, if_neg (in_out (n := 4) (b := 3) (m := 3) rfl (by decide) (by decide)), fcall_ok, if_pos rfl, if_pos (show nI 4 = (4 : Int32) from rfl)]
        unfold f_X8_sailing
        rw [e3, fcallv_ok, m_countS g3 hok d3 (show (0 : Int32) = nI 0 from rfl) (by decide) (by omega), fcall_ok]
    · rw [p_has1 nc (by omega) rfl hi, fcall_ok, if_neg (by decide), p_isOutside, if_neg h, fcall_ok, if_neg (by decide)]
      refine ⟨_, σ, σ, rfl, ?_, hLI⟩
      rw [p_isShip1 (nm σ hGV) (by omega) rfl hi, fcall_ok, if_neg (by decide), p_in, if_neg (in_sub h (by decide)), fcall_ok, if_pos rfl, if_neg (in_no h (by decide))]
  · rw [p_has0 nc o, fcall_ok, if_pos rfl]
    refine ⟨_, σ, σ, rfl, ?_, hLI⟩
    rw [p_isShip0 (nm σ hGV) (by omega) o, fcall_ok, if_pos rfl]
theorem st_16 : ∀ (σ : fS) (x1 : Int32) (x2 : Int32), LI σ → ∃ (r : Int32) (σ1 σ2 : fS), f_X7_berth x1 x2 σ = some (r, σ1) ∧ f_X8_berth x1 x2 σ1 = some (r, σ2) ∧ LI σ2 := by
  intro σ x1 x2 hLI
  obtain ⟨⟨P, k, F, hPV, hGV, hok, -⟩, -⟩ := id hLI
  have z1 : (P.1 1).length ≤ 3 := hok.1 1 (by decide)
  have nc : σ 4 3 = nI (P.1 1).length := (hPV.1 1 (by decide)).1
  have nm := fun (s : fS) (g : GV (s 165) P) => gn (j := 1) (k := 115) g (by decide) rfl
  unfold f_X7_berth f_X8_berth
  rcases ix_cases x1 (n := (P.1 1).length) (by omega) with ⟨i, hi, rfl⟩ | o
  · by_cases h : (0 : Int32) ≤ x2 ∧ x2 ≤ 2
    · obtain ⟨c, rfl, -, u⟩ := rng_nI (a := 0) (b := 2) rfl rfl (by decide) (by decide) h
      rw [p_has1 nc (by omega) rfl hi, fcall_ok, if_neg (by decide), p_isOutside, if_pos h, fcall_ok, if_pos rfl]
      by_cases hc : c < 2
      · rw [if_neg (show ¬ (2 : Int32) ≤ nI c from nI_ge (b := 2) hc (by decide)), show f_X5_at 4 3 2 (nI i) (nI c) σ = _ from cB (b := 1) hPV hok.1 hi rfl hc, fcall_ok]
        refine ⟨_, σ, σ, rfl, ?_, hLI⟩
        rw [p_isBerth1 (nm σ hGV) (by omega) rfl hi, fcall_ok, if_neg (by decide), p_in, if_pos (in_lit (n := c) (b := 1) (m := 1) rfl (by omega) (by decide)), fcall_ok, if_neg (by decide), mB hGV hok.1 hi rfl hc, fcall_ok]
      · have : c = 2 := by omega
        subst this
        obtain ⟨s1, e1, p1, g1, d1, t1, f1⟩ := run1 hPV hGV hok
        obtain ⟨s3, e3, g3, d3, l3, r3, f3⟩ := run3 g1 hok
        rw [if_pos (by decide), e1, fcallv_ok, c_countS (b := 1) p1 hok d1 (show (1 : Int32) = nI 1 from rfl) (by decide) (by omega), fcall_ok]
        refine ⟨_, s1, s3, rfl, ?_, hLI.fin (fun q hq => f1 q (by omega)) (fun q hq => f3 q (by omega))⟩
        rw [p_isBerth1 (nm s1 g1) (by omega) rfl hi, fcall_ok, if_neg (by decide), p_in, if_neg (in_out (n := 2) (b := 1) (m := 1) rfl (by decide) (by decide)), fcall_ok, if_pos rfl, if_pos (show nI 2 = (2 : Int32) from rfl)]
        unfold f_X8_sailing
        rw [e3, fcallv_ok, m_countS g3 hok d3 (show (1 : Int32) = nI 1 from rfl) (by decide) (by omega), fcall_ok]
    · rw [p_has1 nc (by omega) rfl hi, fcall_ok, if_neg (by decide), p_isOutside, if_neg h, fcall_ok, if_neg (by decide)]
      refine ⟨_, σ, σ, rfl, ?_, hLI⟩
      rw [p_isBerth1 (nm σ hGV) (by omega) rfl hi, fcall_ok, if_neg (by decide), p_in, if_neg (in_sub h (by decide)), fcall_ok, if_pos rfl, if_neg (in_no h (by decide))]
  · rw [p_has0 nc o, fcall_ok, if_pos rfl]
    refine ⟨_, σ, σ, rfl, ?_, hLI⟩
    rw [p_isBerth0 (nm σ hGV) (by omega) o, fcall_ok, if_pos rfl]
theorem st_17 : ∀ (σ : fS) (x1 : Int32) (x2 : Int32), LI σ → ∃ (r : Int32) (σ1 σ2 : fS), f_X7_crossing x1 x2 σ = some (r, σ1) ∧ f_X8_crossing x1 x2 σ1 = some (r, σ2) ∧ LI σ2 := by
  intro σ x1 x2 hLI
  obtain ⟨⟨P, k, F, hPV, hGV, hok, -⟩, -⟩ := id hLI
  have z2 : (P.1 2).length ≤ 12 := hok.1 2 (by decide)
  have nc : σ 6 3 = nI (P.1 2).length := (hPV.1 2 (by decide)).1
  have nm := fun (s : fS) (g : GV (s 165) P) => gn (j := 2) (k := 122) g (by decide) rfl
  unfold f_X7_crossing f_X8_crossing
  rcases ix_cases x1 (n := (P.1 2).length) (by omega) with ⟨i, hi, rfl⟩ | o
  · rw [p_has1 nc (by omega) rfl hi, fcall_ok, if_neg (by decide), p_isOutside]
    by_cases h : (0 : Int32) ≤ x2 ∧ x2 ≤ 9
    · obtain ⟨c, rfl, -, u⟩ := rng_nI (a := 0) (b := 9) rfl rfl (by decide) (by decide) h
      rw [if_pos h, fcall_ok, if_pos rfl]
      by_cases hc : c < 4
      · rw [if_neg (show ¬ (4 : Int32) ≤ nI c from nI_ge (b := 4) hc (by decide)), show f_X5_at 6 12 4 (nI i) (nI c) σ = _ from cC (b := 1) hPV hok.1 hi rfl hc, fcall_ok]
        obtain ⟨s3, e3, g3, d3, l3, r3, f3⟩ := run3 hGV hok
        refine ⟨_, σ, s3, rfl, ?_, hLI.fin (fun q hq => rfl) (fun q hq => f3 q (by omega))⟩
        rw [p_isCrossing1 (nm σ hGV) (by omega) rfl hi, fcall_ok, if_neg (by decide), e3, fcallv_ok, mC g3 hok.1 hi rfl hc, fcall_ok]
        rcases (show c = 0 ∨ c = 1 ∨ c = 2 ∨ c = 3 by omega) with rfl | rfl | rfl | rfl
        · rw [if_pos nI_0]
        · rw [if_neg (by decide), if_pos (show nI 1 = (1 : Int32) from rfl)]
        · rw [if_neg (by decide), if_neg (by decide), if_pos (show nI 2 = (2 : Int32) from rfl)]
        · rw [if_neg (by decide), if_neg (by decide), if_neg (by decide), if_pos (show nI 3 = (3 : Int32) from rfl)]
      · obtain ⟨s1, e1, p1, g1, d1, t1, f1⟩ := run1 hPV hGV hok
        rw [if_pos (show (4 : Int32) ≤ nI c from nI_le (a := 4) (by omega) (by omega)), e1, fcallv_ok]
        by_cases hc8 : c < 8
        · obtain ⟨s3, e3, g3, d3, l3, r3, f3⟩ := run3 g1 hok
          rw [if_neg (show ¬ (8 : Int32) ≤ nI c from nI_ge (b := 8) hc8 (by decide))]
          unfold f_X0_tell
          obtain ⟨a1, a2, a3, a4⟩ := d1.1 i hi
          obtain ⟨b1, b2, b3, b4⟩ := d3.1 i hi
          have go : ∀ v : Int32, (some (v, s1) : Option (Int32 × fS)) = some (v, s1) → True := fun _ _ => trivial
          rcases (show c = 4 ∨ c = 5 ∨ c = 6 ∨ c = 7 by omega) with rfl | rfl | rfl | rfl
          · rw [if_pos (show nI 4 = (4 : Int32) from rfl), fb_x rfl (by omega) (by decide), nI_clamp (by omega), fcall_ok, a4]
            refine ⟨_, s1, s3, rfl, ?_, hLI.fin (fun q hq => f1 q (by omega)) (fun q hq => f3 q (by omega))⟩
            rw [p_isCrossing1 (nm s1 g1) (by omega) rfl hi, fcall_ok, if_neg (by decide), e3, fcallv_ok, if_neg (by decide), if_neg (by decide), if_neg (by decide), if_neg (by decide), if_pos (show nI 4 = (4 : Int32) from rfl), fb_x rfl (by omega) (by decide), b4]
          · rw [if_neg (by decide), if_pos (show nI 5 = (5 : Int32) from rfl), fb_x rfl (by omega) (by decide), nI_clamp (by omega), fcall_ok, a2]
            refine ⟨_, s1, s3, rfl, ?_, hLI.fin (fun q hq => f1 q (by omega)) (fun q hq => f3 q (by omega))⟩
            rw [p_isCrossing1 (nm s1 g1) (by omega) rfl hi, fcall_ok, if_neg (by decide), e3, fcallv_ok, if_neg (by decide), if_neg (by decide), if_neg (by decide), if_neg (by decide), if_neg (by decide), if_pos (show nI 5 = (5 : Int32) from rfl), fb_x rfl (by omega) (by decide), b2]
          · rw [if_neg (by decide), if_neg (by decide), if_pos (show nI 6 = (6 : Int32) from rfl), fb_x rfl (by omega) (by decide), nI_clamp (by omega), fcall_ok, a3]
            refine ⟨_, s1, s3, rfl, ?_, hLI.fin (fun q hq => f1 q (by omega)) (fun q hq => f3 q (by omega))⟩
            rw [p_isCrossing1 (nm s1 g1) (by omega) rfl hi, fcall_ok, if_neg (by decide), e3, fcallv_ok, if_neg (by decide), if_neg (by decide), if_neg (by decide), if_neg (by decide), if_neg (by decide), if_neg (by decide), if_pos (show nI 6 = (6 : Int32) from rfl), fb_x rfl (by omega) (by decide), b3]
          · rw [if_neg (by decide), if_neg (by decide), if_neg (by decide), fb_x rfl (by omega) (by decide), nI_clamp (by omega), fcall_ok, a1]
            refine ⟨_, s1, s3, rfl, ?_, hLI.fin (fun q hq => f1 q (by omega)) (fun q hq => f3 q (by omega))⟩
            rw [p_isCrossing1 (nm s1 g1) (by omega) rfl hi, fcall_ok, if_neg (by decide), e3, fcallv_ok, if_neg (by decide), if_neg (by decide), if_neg (by decide), if_neg (by decide), if_neg (by decide), if_neg (by decide), if_neg (by decide), if_pos (show nI 7 = (7 : Int32) from rfl), fb_x rfl (by omega) (by decide), b1]
        · obtain ⟨s2, e2, p2, g2, d2, t2, l2, f2⟩ := run2 p1 g1 hok d1 t1
          obtain ⟨s3, e3, g3, d3, l3, r3, f3⟩ := run3 g2 hok
          rw [if_pos (show (8 : Int32) ≤ nI c from nI_le (a := 8) (by omega) (by omega)), e2, fcallv_ok]
          rcases (show c = 8 ∨ c = 9 by omega) with rfl | rfl
          · rw [if_pos (show nI 8 = (8 : Int32) from rfl), c_countAboard (b := 1) p2 hok l2 i, fcall_ok]
            refine ⟨_, s2, s3, rfl, ?_, hLI.fin (fun q hq => by rw [f2 q (by omega), f1 q (by omega)]) (fun q hq => f3 q (by omega))⟩
            rw [p_isCrossing1 (nm s2 g2) (by omega) rfl hi, fcall_ok, if_neg (by decide), e3, fcallv_ok, if_neg (by decide), if_neg (by decide), if_neg (by decide), if_neg (by decide), if_neg (by decide), if_neg (by decide), if_neg (by decide), if_neg (by decide), if_pos (show nI 8 = (8 : Int32) from rfl), m_loaded g3 hok l3 i, fcall_ok]
          · rw [if_neg (by decide), fb_x rfl (by omega) (by decide), nI_clamp (by omega), (l2.1 i hi).1]
            refine ⟨_, s2, s3, rfl, ?_, hLI.fin (fun q hq => by rw [f2 q (by omega), f1 q (by omega)]) (fun q hq => f3 q (by omega))⟩
            rw [p_isCrossing1 (nm s2 g2) (by omega) rfl hi, fcall_ok, if_neg (by decide), e3, fcallv_ok, if_neg (by decide), if_neg (by decide), if_neg (by decide), if_neg (by decide), if_neg (by decide), if_neg (by decide), if_neg (by decide), if_neg (by decide), if_neg (by decide), if_pos (show nI 9 = (9 : Int32) from rfl), fb_x rfl (by omega) (by decide), (l3.1 i hi).1]
    · rw [if_neg h, fcall_ok, if_neg (by decide)]
      obtain ⟨s3, e3, g3, d3, l3, r3, f3⟩ := run3 hGV hok
      refine ⟨_, σ, s3, rfl, ?_, hLI.fin (fun q hq => rfl) (fun q hq => f3 q (by omega))⟩
      rw [p_isCrossing1 (nm σ hGV) (by omega) rfl hi, fcall_ok, if_neg (by decide), e3, fcallv_ok, if_neg (in_no h (by decide)), if_neg (in_no h (by decide)), if_neg (in_no h (by decide)), if_neg (in_no h (by decide)), if_neg (in_no h (by decide)), if_neg (in_no h (by decide)), if_neg (in_no h (by decide)), if_neg (in_no h (by decide)), if_neg (in_no h (by decide)), if_neg (in_no h (by decide))]
  · rw [p_has0 nc o, fcall_ok, if_pos rfl]
    refine ⟨_, σ, σ, rfl, ?_, hLI⟩
    rw [p_isCrossing0 (nm σ hGV) (by omega) o, fcall_ok, if_pos rfl]
theorem st_18 : ∀ (σ : fS) (x1 : Int32), LI σ → ∃ (r : Int32) (σ1 σ2 : fS), f_X7_decided x1 σ = some (r, σ1) ∧ f_X8_decided x1 σ1 = some (r, σ2) ∧ LI σ2 := by
  intro σ x1 hLI
  obtain ⟨⟨P, k, F, hPV, hGV, hok, -⟩, -⟩ := id hLI
  have z2 : (P.1 2).length ≤ 12 := hok.1 2 (by decide)
  have nc : σ 6 3 = nI (P.1 2).length := (hPV.1 2 (by decide)).1
  unfold f_X7_decided f_X8_decided
  rcases ix_cases x1 (n := (P.1 2).length) (by omega) with ⟨i, hi, rfl⟩ | o
  · obtain ⟨s1, e1, p1, g1, d1, t1, f1⟩ := run1 hPV hGV hok
    obtain ⟨s3, e3, g3, d3, l3, r3, f3⟩ := run3 g1 hok
    rw [p_has1 nc (by omega) rfl hi, fcall_ok, if_neg (by decide), e1, fcallv_ok, fb_x rfl (by omega) (by decide), nI_clamp (by omega), d1.2 i hi]
    refine ⟨_, s1, s3, rfl, ?_, hLI.fin (fun q hq => f1 q (by omega)) (fun q hq => f3 q (by omega))⟩
    rw [e3, fcallv_ok, fb122, mCn g3, p_in1 (by omega) rfl hi, fcall_ok, if_neg (by decide), fb_x rfl (by omega) (by decide), d3.2 i hi]
  · obtain ⟨s3, e3, g3, d3, l3, r3, f3⟩ := run3 hGV hok
    rw [p_has0 nc o, fcall_ok, if_pos rfl]
    refine ⟨_, σ, s3, rfl, ?_, hLI.fin (fun q hq => rfl) (fun q hq => f3 q (by omega))⟩
    rw [e3, fcallv_ok, fb122, mCn g3, p_in0 (by omega) o, fcall_ok, if_pos rfl]
theorem st_19 : ∀ (σ : fS) (x1 : Int32) (x2 : Int32), LI σ → ∃ (r : Int32) (σ1 σ2 : fS), f_X7_vehicle x1 x2 σ = some (r, σ1) ∧ f_X8_vehicle x1 x2 σ1 = some (r, σ2) ∧ LI σ2 := by
  intro σ x1 x2 hLI
  obtain ⟨⟨P, k, F, hPV, hGV, hok, -⟩, -⟩ := id hLI
  have z3 : (P.1 3).length ≤ 24 := hok.1 3 (by decide)
  have nc : σ 8 3 = nI (P.1 3).length := (hPV.1 3 (by decide)).1
  unfold f_X7_vehicle f_X8_vehicle
  rcases ix_cases x1 (n := (P.1 3).length) (by omega) with ⟨i, hi, rfl⟩ | o
  · rw [p_has1 nc (by omega) rfl hi, fcall_ok, if_neg (by decide), p_isOutside]
    by_cases h : (0 : Int32) ≤ x2 ∧ x2 ≤ 6
    · obtain ⟨c, rfl, -, u⟩ := rng_nI (a := 0) (b := 6) rfl rfl (by decide) (by decide) h
      rw [if_pos h, fcall_ok, if_pos rfl]
      by_cases hc : c < 3
      · rw [if_neg (show ¬ (3 : Int32) ≤ nI c from nI_ge (b := 3) hc (by decide)), show f_X5_at 8 24 3 (nI i) (nI c) σ = _ from cV (b := 1) hPV hok.1 hi rfl hc, fcall_ok]
        obtain ⟨s3, e3, g3, d3, l3, r3, f3⟩ := run3 hGV hok
        refine ⟨_, σ, s3, rfl, ?_, hLI.fin (fun q hq => rfl) (fun q hq => f3 q (by omega))⟩
        rw [fb171, mVn hGV, p_in1 (by omega) rfl hi, fcall_ok, if_neg (by decide), e3, fcallv_ok, mV g3 hok.1 hi rfl hc, fcall_ok]
        rcases (show c = 0 ∨ c = 1 ∨ c = 2 by omega) with rfl | rfl | rfl
        · rw [if_pos nI_0]
        · rw [if_neg (by decide), if_pos (show nI 1 = (1 : Int32) from rfl)]
        · rw [if_neg (by decide), if_neg (by decide), if_pos (show nI 2 = (2 : Int32) from rfl)]
      · obtain ⟨s1, e1, p1, g1, d1, t1, f1⟩ := run1 hPV hGV hok
        obtain ⟨s2, e2, p2, g2, d2, t2, l2, f2⟩ := run2 p1 g1 hok d1 t1
        obtain ⟨s3, e3, g3, d3, l3, r3, f3⟩ := run3 g2 hok
        rw [if_pos (show (3 : Int32) ≤ nI c from nI_le (a := 3) (by omega) (by omega)), e1, fcallv_ok, e2, fcallv_ok]
        unfold f_X2_tell
        obtain ⟨a1, a2, a3, a4⟩ := l2.2.2 i hi
        obtain ⟨b1, b2, b3, b4⟩ := l3.2.2 i hi
        rcases (show c = 3 ∨ c = 4 ∨ c = 5 ∨ c = 6 by omega) with rfl | rfl | rfl | rfl
        · rw [if_pos (show nI 3 = (3 : Int32) from rfl), fb_x rfl (by omega) (by decide), nI_clamp (by omega), fcall_ok, a1]
          refine ⟨_, s2, s3, rfl, ?_, hLI.fin (fun q hq => by rw [f2 q (by omega), f1 q (by omega)]) (fun q hq => f3 q (by omega))⟩
          rw [fb171, mVn g2, p_in1 (by omega) rfl hi, fcall_ok, if_neg (by decide), e3, fcallv_ok, if_neg (by decide), if_neg (by decide), if_neg (by decide), if_pos (show nI 3 = (3 : Int32) from rfl), fb_x rfl (by omega) (by decide), b1]
        · rw [if_neg (by decide), if_pos (show nI 4 = (4 : Int32) from rfl), fb_x rfl (by omega) (by decide), nI_clamp (by omega), fcall_ok, a2]
          refine ⟨_, s2, s3, rfl, ?_, hLI.fin (fun q hq => by rw [f2 q (by omega), f1 q (by omega)]) (fun q hq => f3 q (by omega))⟩
          rw [fb171, mVn g2, p_in1 (by omega) rfl hi, fcall_ok, if_neg (by decide), e3, fcallv_ok, if_neg (by decide), if_neg (by decide), if_neg (by decide), if_neg (by decide), if_pos (show nI 4 = (4 : Int32) from rfl), fb_x rfl (by omega) (by decide), b2]
        · rw [if_neg (by decide), if_neg (by decide), if_pos (show nI 5 = (5 : Int32) from rfl), fb_x rfl (by omega) (by decide), nI_clamp (by omega), fcall_ok, a3]
          refine ⟨_, s2, s3, rfl, ?_, hLI.fin (fun q hq => by rw [f2 q (by omega), f1 q (by omega)]) (fun q hq => f3 q (by omega))⟩
          rw [fb171, mVn g2, p_in1 (by omega) rfl hi, fcall_ok, if_neg (by decide), e3, fcallv_ok, if_neg (by decide), if_neg (by decide), if_neg (by decide), if_neg (by decide), if_neg (by decide), if_pos (show nI 5 = (5 : Int32) from rfl), fb_x rfl (by omega) (by decide), b3]
        · rw [if_neg (by decide), if_neg (by decide), if_neg (by decide), fb_x rfl (by omega) (by decide), nI_clamp (by omega), fcall_ok, a4]
          refine ⟨_, s2, s3, rfl, ?_, hLI.fin (fun q hq => by rw [f2 q (by omega), f1 q (by omega)]) (fun q hq => f3 q (by omega))⟩
          rw [fb171, mVn g2, p_in1 (by omega) rfl hi, fcall_ok, if_neg (by decide), e3, fcallv_ok, if_neg (by decide), if_neg (by decide), if_neg (by decide), if_neg (by decide), if_neg (by decide), if_neg (by decide), if_pos (show nI 6 = (6 : Int32) from rfl), fb_x rfl (by omega) (by decide), b4]
    · rw [if_neg h, fcall_ok, if_neg (by decide)]
      obtain ⟨s3, e3, g3, d3, l3, r3, f3⟩ := run3 hGV hok
      refine ⟨_, σ, s3, rfl, ?_, hLI.fin (fun q hq => rfl) (fun q hq => f3 q (by omega))⟩
      rw [fb171, mVn hGV, p_in1 (by omega) rfl hi, fcall_ok, if_neg (by decide), e3, fcallv_ok, if_neg (in_no h (by decide)), if_neg (in_no h (by decide)), if_neg (in_no h (by decide)), if_neg (in_no h (by decide)), if_neg (in_no h (by decide)), if_neg (in_no h (by decide)), if_neg (in_no h (by decide))]
  · rw [p_has0 nc o, fcall_ok, if_pos rfl]
    refine ⟨_, σ, σ, rfl, ?_, hLI⟩
    rw [fb171, mVn hGV, p_in0 (by omega) o, fcall_ok, if_pos rfl]
theorem st_20 : ∀ (σ : fS) (x1 : Int32) (x2 : Int32), LI σ → ∃ (r : Int32) (σ1 σ2 : fS), f_X7_connection x1 x2 σ = some (r, σ1) ∧ f_X8_connection x1 x2 σ1 = some (r, σ2) ∧ LI σ2 := by
  intro σ x1 x2 hLI
  obtain ⟨⟨P, k, F, hPV, hGV, hok, -⟩, -⟩ := id hLI
  have z4 : (P.1 4).length ≤ 8 := hok.1 4 (by decide)
  have nc : σ 10 3 = nI (P.1 4).length := (hPV.1 4 (by decide)).1
  unfold f_X7_connection f_X8_connection
  rcases ix_cases x1 (n := (P.1 4).length) (by omega) with ⟨i, hi, rfl⟩ | o
  · rw [p_has1 nc (by omega) rfl hi, fcall_ok, if_neg (by decide), p_isOutside]
    by_cases h : (0 : Int32) ≤ x2 ∧ x2 ≤ 4
    · obtain ⟨c, rfl, -, u⟩ := rng_nI (a := 0) (b := 4) rfl rfl (by decide) (by decide) h
      rw [if_pos h, fcall_ok, if_pos rfl]
      by_cases hc : c < 4
      · rw [if_neg (show ¬ (4 : Int32) ≤ nI c from nI_ge (b := 4) hc (by decide)), show f_X5_at 10 8 4 (nI i) (nI c) σ = _ from cK (b := 1) hPV hok.1 hi rfl hc, fcall_ok]
        obtain ⟨s3, e3, g3, d3, l3, r3, f3⟩ := run3 hGV hok
        refine ⟨_, σ, s3, rfl, ?_, hLI.fin (fun q hq => rfl) (fun q hq => f3 q (by omega))⟩
        rw [fb244, mKn hGV, p_in1 (by omega) rfl hi, fcall_ok, if_neg (by decide), e3, fcallv_ok, p_in, if_pos (in_lit (n := c) (b := 3) (m := 3) rfl (by omega) (by decide)), fcall_ok, if_neg (by decide), mK g3 hok.1 hi rfl hc, fcall_ok]
      · have : c = 4 := by omega
        subst this
        obtain ⟨s1, e1, p1, g1, d1, t1, f1⟩ := run1 hPV hGV hok
        obtain ⟨s3, e3, g3, d3, l3, r3, f3⟩ := run3 g1 hok
        rw [if_pos (by decide), e1, fcallv_ok, fb_x rfl (by omega) (by decide), nI_clamp (by omega), t1 i hi]
        refine ⟨_, s1, s3, rfl, ?_, hLI.fin (fun q hq => f1 q (by omega)) (fun q hq => f3 q (by omega))⟩
        rw [fb244, mKn g1, p_in1 (by omega) rfl hi, fcall_ok, if_neg (by decide), e3, fcallv_ok, p_in, if_neg (in_out (n := 4) (b := 3) (m := 3) rfl (by decide) (by decide)), fcall_ok, if_pos rfl, if_pos (show nI 4 = (4 : Int32) from rfl), m_kindOf (rs := (dA P).1) g3 hok hi (rsA P _) (d3.1 _ (hok.2.2.2.2.2.1 i hi).1).2.1, fcall_ok]
    · rw [if_neg h, fcall_ok, if_neg (by decide)]
      obtain ⟨s3, e3, g3, d3, l3, r3, f3⟩ := run3 hGV hok
      refine ⟨_, σ, s3, rfl, ?_, hLI.fin (fun q hq => rfl) (fun q hq => f3 q (by omega))⟩
      rw [fb244, mKn hGV, p_in1 (by omega) rfl hi, fcall_ok, if_neg (by decide), e3, fcallv_ok, p_in, if_neg (in_sub h (by decide)), fcall_ok, if_pos rfl, if_neg (in_no h (by decide))]
  · rw [p_has0 nc o, fcall_ok, if_pos rfl]
    refine ⟨_, σ, σ, rfl, ?_, hLI⟩
    rw [fb244, mKn hGV, p_in0 (by omega) o, fcall_ok, if_pos rfl]

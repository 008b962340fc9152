/-! ===== the shelf: lying, takeOut ===== -/
theorem lt3 {a : Nat} (h : a < 3) : a = 0 ∨ a = 1 ∨ a = 2 := by omega
theorem pl_in {a b : Nat} (ha : a < 3) (hb : b < 3) (σ : fS) : f_X4_hasPlace (nI a) (nI b) σ = some (1, σ) ∧ f_X8_isPlace (nI a) (nI b) σ = some (1, σ) := by
  have h0 : ∀ n, n < 3 → ¬ nI n < 0 := fun n h => nI_pos (by omega)
  have h1 : ∀ n, n < 3 → ¬ (3 : Int32) ≤ nI n := fun n h => nI_ge (b := 3) h (by decide)
  have h2 : ∀ n, n < 3 → (0 : Int32) ≤ nI n ∧ nI n ≤ 2 := fun n h => ⟨nI_pos' (by omega), nI_le (b := 2) (by omega) (by decide)⟩
  unfold f_X4_hasPlace f_X8_isPlace
  rw [if_neg (h0 a ha), if_neg (h1 a ha), if_neg (h0 b hb), if_neg (h1 b hb), p_in, if_pos (h2 a ha), fcall_ok, if_neg (by decide), p_in, if_pos (h2 b hb), fcall_ok, if_neg (by decide)]
  exact ⟨rfl, rfl⟩
theorem pl_cases (x1 x2 : Int32) : (∃ a b, a < 3 ∧ b < 3 ∧ x1 = nI a ∧ x2 = nI b) ∨ ∀ σ, f_X4_hasPlace x1 x2 σ = some (0, σ) ∧ f_X8_isPlace x1 x2 σ = some (0, σ) := by
  rcases ix_cases x1 (n := 3) (by decide) with ⟨a, ha, rfl⟩ | o1
  · rcases ix_cases x2 (n := 3) (by decide) with ⟨b, hb, rfl⟩ | o2
    · exact Or.inl ⟨a, b, ha, hb, rfl, rfl⟩
    · refine Or.inr (fun σ => ?_)
      have h0 : ∀ n, n < 3 → ¬ nI n < 0 := fun n h => nI_pos (by omega)
      have h1 : ∀ n, n < 3 → ¬ (3 : Int32) ≤ nI n := fun n h => nI_ge (b := 3) h (by decide)
      have h2 : ∀ n, n < 3 → (0 : Int32) ≤ nI n ∧ nI n ≤ 2 := fun n h => ⟨nI_pos' (by omega), nI_le (b := 2) (by omega) (by decide)⟩
      have hn : ¬ ((0 : Int32) ≤ x2 ∧ x2 ≤ 2) := fun h => by
        obtain ⟨i, hi, rfl⟩ := (in48 (n := 2) (by decide) 2 rfl).mp h
        rcases o2 with q | q
        · exact nI_pos (by omega) q
        · exact nI_ge hi (by decide) q
      unfold f_X4_hasPlace f_X8_isPlace
      refine ⟨?_, by rw [p_in, if_pos (h2 a ha), fcall_ok, if_neg (by decide), p_in, if_neg hn, fcall_ok, if_pos rfl]⟩
      rw [if_neg (h0 a ha), if_neg (h1 a ha)]
      rcases o2 with q | q
      · rw [if_pos q]
      · by_cases q2 : x2 < 0
        · rw [if_pos q2]
        · rw [if_neg q2, if_pos (show (3 : Int32) ≤ x2 from q)]
  · refine Or.inr (fun σ => ?_)
    have hn : ¬ ((0 : Int32) ≤ x1 ∧ x1 ≤ 2) := fun h => by
      obtain ⟨i, hi, rfl⟩ := (in48 (n := 2) (by decide) 2 rfl).mp h
      rcases o1 with q | q
      · exact nI_pos (by omega) q
      · exact nI_ge hi (by decide) q
    unfold f_X4_hasPlace f_X8_isPlace
    refine ⟨?_, by rw [p_in, if_neg hn, fcall_ok, if_pos rfl]⟩
    rcases o1 with q | q
    · rw [if_pos q]
    · by_cases q2 : x1 < 0
      · rw [if_pos q2]
      · rw [if_neg q2, if_pos (show (3 : Int32) ≤ x1 from q)]
theorem pl_c {a b : Nat} : nI a * (3 : Int32) + nI b = nI (a * 3 + b) := by rw [show (3 : Int32) = nI 3 from rfl, nI_mul, nI_add]
theorem pl_m {a b : Nat} : (3 : Int32) * nI a + nI b = nI (a * 3 + b) := by rw [show (3 : Int32) = nI 3 from rfl, nI_mul, nI_add, Nat.mul_comm]
theorem p_shelfAt {σ : fS} {p c : Nat} {x2 : Int32} (h : σ 162 3 = nI 9) (hp : p < 9) (hc : c < 5) (e : x2 = nI c) : f_X5_at 162 9 5 (nI p) x2 σ = some (σ 163 (p * 5 + c), σ) := p_atR h (by decide) (by decide) (by decide) (by decide) rfl e hp hc
theorem st_37 : ∀ (σ : fS) (x1 : Int32) (x2 : Int32), LI σ → ∃ (r : Int32) (σ1 σ2 : fS), f_X7_lying x1 x2 σ = some (r, σ1) ∧ f_X8_lying x1 x2 σ1 = some (r, σ2) ∧ LI σ2 := by
  intro σ x1 x2 hLI
  obtain ⟨-, -, -, z1, z2⟩ := id hLI
  unfold f_X7_lying f_X8_lying
  rcases pl_cases x1 x2 with ⟨a, b, ha, hb, rfl, rfl⟩ | h
  · have hp : a * 3 + b < 9 := by omega
    rw [(pl_in ha hb σ).1, fcall_ok, if_neg (by decide)]
    unfold f_X4_kindAt
    rw [pl_c, p_shelfAt z1 hp (by decide) (show (4 : Int32) = nI 4 from rfl), fcall_ok, fcall_ok]
    refine ⟨_, σ, σ, rfl, ?_, hLI⟩
    rw [(pl_in ha hb σ).2, fcall_ok, if_neg (by decide), fb_x pl_m hp (by decide), cl_x pl_m (by omega)]
    rcases z2 _ hp with ⟨q1, q2⟩ | ⟨q1, q2, -⟩ | ⟨q1, q2, -⟩
    · rw [if_pos q1, q2]
    · rw [if_neg (by rw [q1]; decide), q1, q2]
    · rw [if_neg (by rw [q1]; decide), q1, q2]
  · rw [(h σ).1, fcall_ok, if_pos rfl]
    refine ⟨_, σ, σ, rfl, ?_, hLI⟩
    rw [(h σ).2, fcall_ok, if_pos rfl]
theorem eE4 : isE (-10004) := by unfold isE; decide
def kC (r : Int32) (s2 : fS) : Option (Int32 × fS) := fcall (f_X7_noted r s2) (fun r3 s3 => some (r3, s3))
def kM (r : Int32) (s2 : fS) : Option (Int32 × fS) := fcall (f_X8_kept r s2) (fun r3 s3 => some (r3, s3))
theorem fcall_id {o : Option (Int32 × fS)} : fcall o (fun r s => some (r, s)) = o := by
  cases o with
  | none => rfl
  | some q => rfl
theorem st_36 : ∀ (σ : fS) (x1 : Int32) (x2 : Int32), LI σ → ∃ (r : Int32) (σ1 σ2 : fS), f_X7_takeOut x1 x2 σ = some (r, σ1) ∧ f_X8_takeOut x1 x2 σ1 = some (r, σ2) ∧ LI σ2 := by
  intro σ x1 x2 hLI
  obtain ⟨⟨P, k, F, hR⟩, hXR⟩ := id hLI
  obtain ⟨-, -, z1, z2⟩ := id hXR
  rcases pl_cases x1 x2 with ⟨a, b, ha, hb, rfl, rfl⟩ | h
  · have hp : a * 3 + b < 9 := by omega
    generalize hpe : a * 3 + b = p at hp
    have ic : nI a * (3 : Int32) + nI b = nI p := by rw [← hpe]; exact pl_c
    have im : (3 : Int32) * nI a + nI b = nI p := by rw [← hpe]; exact pl_m
    have i0 : (4 : Int32) * nI p = nI (4 * p) := by rw [show (4 : Int32) = nI 4 from rfl, nI_mul]
    have i1 : nI (4 * p) + (1 : Int32) = nI (4 * p + 1) := nI_1 _
    have i2 : nI (4 * p) + (2 : Int32) = nI (4 * p + 2) := nI_add _ 2
    have i3 : nI (4 * p) + (3 : Int32) = nI (4 * p + 3) := nI_add _ 3
    -- the class's spare copy
    obtain ⟨s1, e1, f1, -⟩ := p_pcopy (b0 := 16) (b1 := 1) hR.1 hR.2.2.1.1 (Or.inr (by decide))
    have w1 : s1 162 3 = nI 9 := by rw [f1 162 (by decide)]; exact z1
    have w3 : s1 163 = σ 163 := f1 163 (by decide)
    have hcl : f_X7_takeOut (nI a) (nI b) σ = fcall (f_X4_addCopyTo 1 (nI a) (nI b) s1) kC := by
      unfold f_X7_takeOut
      rw [(pl_in ha hb σ).1, fcall_ok, if_neg (by decide), e1, fcallv_ok]
      rfl
    have hmo : ∀ s : fS, f_X8_takeOut (nI a) (nI b) s = (if s 187 p = -1 then some (-10004, s) else fcallv (f_X8_remembers s) (fun σ2 => if σ2 187 p = 0 then fcall (f_X8_addsShip (σ2 188 (4 * p)) (σ2 188 (4 * p + 1)) (σ2 188 (4 * p + 2)) (σ2 188 (4 * p + 3)) σ2) kM else fcall (f_X8_addsBerth (σ2 188 (4 * p)) (σ2 188 (4 * p + 1)) σ2) kM)) := by
      intro s
      unfold f_X8_takeOut
      rw [(pl_in ha hb s).2, fcall_ok, if_neg (by decide), im, fb_x rfl hp (by decide), nI_clamp (by omega)]
      by_cases hk : s 187 p = -1
      · rw [if_pos hk, if_pos hk]
      · rw [if_neg hk, if_neg hk]
        obtain ⟨s4, e4, -, -⟩ := p_remembers s
        rw [e4, fcallv_ok, fcallv_ok, fb_x rfl hp (by decide), i0, fb_x rfl (by omega) (by decide), i1, fb_x rfl (by omega) (by decide), i2, fb_x rfl (by omega) (by decide), i3, fb_x rfl (by omega) (by decide), nI_clamp (by omega), nI_clamp (by omega), nI_clamp (by omega), nI_clamp (by omega), fb_x (x := nI (4 * p)) rfl (by omega) (by decide), fb_x (x := nI (4 * p + 1)) rfl (by omega) (by decide)]
        rfl
    rcases z2 p hp with ⟨q1, q2⟩ | ⟨q1, q2, q3⟩ | ⟨q1, q2, q3⟩
    · have hr := op_refuse (fc := fun s => some (-10004, s)) (fm := fun s => some (-10004, s)) hR hXR eE4 (fun _ _ => rfl) (fun _ _ => rfl)
      obtain ⟨r, t1, t2, a1, a2, a3⟩ := hr
      rw [e1, fcallv_ok, fcall_ok] at a1
      have ad : f_X4_addCopyTo 1 (nI a) (nI b) s1 = some (-10004, s1) := by
        unfold f_X4_addCopyTo
        rw [ic, p_shelfAt w1 hp (by decide) (show (4 : Int32) = nI 4 from rfl), fcall_ok, w3, q2, if_neg (by decide), if_neg (by decide)]
      have b1 : f_X7_takeOut (nI a) (nI b) σ = some (r, t1) := by
        rw [hcl, ad, fcall_ok]
        exact a1
      cases a2
      have b2 : t1 = s1 := by
        rw [p_notedE eE4, fcall_ok] at a1
        cases a1
        rfl
      subst b2
      refine ⟨-10004, t1, t1, b1, ?_, a3⟩
      rw [hmo, if_pos (by rw [f1 187 (by decide)]; exact q1)]
    · obtain ⟨r, t1, t2, a1, a2, a3, a4⟩ := op_stepX hR hXR (op_ship P hR.2.2.1 (σ 188 (4 * p)) (σ 188 (4 * p + 1)) (σ 188 (4 * p + 2)) (σ 188 (4 * p + 3)))
      rw [e1, fcallv_ok] at a1
      have ad : f_X4_addCopyTo 1 (nI a) (nI b) s1 = f_X3_enterShip 1 (σ 188 (4 * p)) (σ 188 (4 * p + 1)) (σ 188 (4 * p + 2)) (σ 188 (4 * p + 3)) s1 := by
        unfold f_X4_addCopyTo
        rw [ic, p_shelfAt w1 hp (by decide) (show (4 : Int32) = nI 4 from rfl), fcall_ok, w3, q2, if_pos rfl, p_shelfAt w1 hp (by decide) (show (0 : Int32) = nI 0 from rfl), fcall_ok, p_shelfAt w1 hp (by decide) (show (1 : Int32) = nI 1 from rfl), fcall_ok, p_shelfAt w1 hp (by decide) (show (2 : Int32) = nI 2 from rfl), fcall_ok, p_shelfAt w1 hp (by decide) (show (3 : Int32) = nI 3 from rfl), fcall_ok, w3, q3 0 (by decide), q3 1 (by decide), q3 2 (by decide), q3 3 (by decide), fcall_id]
        rfl
      have b1 : f_X7_takeOut (nI a) (nI b) σ = some (r, t1) := by
        rw [hcl, ad]
        exact a1
      have keep : t1 187 = σ 187 ∧ t1 188 = σ 188 := ⟨a4 187 (by decide), a4 188 (by decide)⟩
      refine ⟨r, t1, t2, b1, ?_, a3⟩
      rw [hmo, keep.1, if_neg (by rw [q1]; decide), ← a2]
      obtain ⟨s4, e4, f4, -⟩ := p_remembers t1
      rw [e4, fcallv_ok, fcallv_ok, f4 187 (by decide), f4 188 (by decide), keep.1, keep.2, if_pos q1]
      rfl
    · obtain ⟨r, t1, t2, a1, a2, a3, a4⟩ := op_stepX hR hXR (op_berth P hR.2.2.1 (σ 188 (4 * p)) (σ 188 (4 * p + 1)))
      rw [e1, fcallv_ok] at a1
      have ad : f_X4_addCopyTo 1 (nI a) (nI b) s1 = f_X3_enterBerth 1 (σ 188 (4 * p)) (σ 188 (4 * p + 1)) s1 := by
        unfold f_X4_addCopyTo
        rw [ic, p_shelfAt w1 hp (by decide) (show (4 : Int32) = nI 4 from rfl), fcall_ok, w3, q2, if_neg (by decide), if_pos rfl, p_shelfAt w1 hp (by decide) (show (0 : Int32) = nI 0 from rfl), fcall_ok, p_shelfAt w1 hp (by decide) (show (1 : Int32) = nI 1 from rfl), fcall_ok, w3, q3 0 (by decide), q3 1 (by decide), fcall_id]
        rfl
      have b1 : f_X7_takeOut (nI a) (nI b) σ = some (r, t1) := by
        rw [hcl, ad]
        exact a1
      have keep : t1 187 = σ 187 ∧ t1 188 = σ 188 := ⟨a4 187 (by decide), a4 188 (by decide)⟩
      refine ⟨r, t1, t2, b1, ?_, a3⟩
      rw [hmo, keep.1, if_neg (by rw [q1]; decide), ← a2]
      obtain ⟨s4, e4, f4, -⟩ := p_remembers t1
      rw [e4, fcallv_ok, fcallv_ok, f4 187 (by decide), f4 188 (by decide), keep.1, keep.2, if_neg (by rw [q1]; decide)]
      rfl
  · unfold f_X7_takeOut f_X8_takeOut
    rw [(h σ).1, fcall_ok, if_pos rfl]
    refine ⟨_, σ, σ, rfl, ?_, hLI⟩
    rw [(h σ).2, fcall_ok, if_pos rfl]

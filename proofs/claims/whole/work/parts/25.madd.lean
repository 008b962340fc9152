/-! ===== the reference's rows grow ===== -/
theorem GV.add {g g' : Nat → Int32} {P : aP} {j : Nat} (hj : j < 5) (h : GV g P) (hz : aSz P) (hn : (P.1 j).length < rmx j) {row : List Nat} (h1 : g' (cnx j) = nI ((P.1 j).length + 1)) (h2 : ∀ c, c < wd j → g' (cnx j + 1 + wd j * (P.1 j).length + c) = nI (row.getD c 0)) (h3 : ∀ k, k < 277 → k ≠ cnx j → (k < cnx j + 1 + wd j * (P.1 j).length ∨ cnx j + 1 + wd j * (P.1 j).length + wd j ≤ k) → g' k = g k) : GV g' (setT P j (P.1 j ++ [row])) := by
  obtain ⟨k1, k2, k3, k4⟩ := h
  have hjb : cnx j + 1 + wd j * rmx j ≤ 277 ∧ 98 ≤ cnx j := by
    match j, hj with
    | 0, _ => decide
    | 1, _ => decide
    | 2, _ => decide
    | 3, _ => decide
    | 4, _ => decide
  have hmul : wd j * (P.1 j).length + wd j ≤ wd j * rmx j := by
    have := Nat.mul_le_mul_left (wd j) (show (P.1 j).length + 1 ≤ rmx j from hn)
    rw [Nat.mul_add] at this
    omega
  refine ⟨fun q hq => ?_, fun k hk => by rw [h3 k (by omega) (by omega) (by omega)]; exact k2 k hk, fun k hk => by rw [h3 _ (by omega) (by omega) (by omega)]; exact k3 k hk, by rw [h3 97 (by decide) (by omega) (by omega)]; exact k4⟩
  by_cases hqj : q = j
  · subst hqj
    rw [setT_self]
    refine ⟨by rw [List.length_append]; exact h1, fun i hi c hc => ?_⟩
    rw [List.length_append] at hi
    have hi : i < (P.1 q).length + 1 := hi
    by_cases hil : i < (P.1 q).length
    · have hm : wd q * i + wd q ≤ wd q * (P.1 q).length := by
        have := Nat.mul_le_mul_left (wd q) (show i + 1 ≤ (P.1 q).length from hil)
        rw [Nat.mul_add] at this
        omega
      rw [tg_push hil, h3 _ (by omega) (by omega) (by omega)]
      exact (k1 q hq).2 i hil c hc
    · have : i = (P.1 q).length := by omega
      subst this
      rw [tg_last]
      exact h2 c hc
  · rw [setT_ne hqj]
    have hzq := hz q hq
    have key : ∀ k, cnx q ≤ k → k < cnx q + 1 + wd q * rmx q → k < 277 ∧ k ≠ cnx j ∧ (k < cnx j + 1 + wd j * (P.1 j).length ∨ cnx j + 1 + wd j * (P.1 j).length + wd j ≤ k) := by
      intro k a b
      match j, hj, q, hq with
      | 0, _, 0, _ => exact absurd rfl hqj
      | 0, _, 1, _ => simp only [cnx, wd, rmx] at *; omega
      | 0, _, 2, _ => simp only [cnx, wd, rmx] at *; omega
      | 0, _, 3, _ => simp only [cnx, wd, rmx] at *; omega
      | 0, _, 4, _ => simp only [cnx, wd, rmx] at *; omega
      | 1, _, 0, _ => simp only [cnx, wd, rmx] at *; omega
      | 1, _, 1, _ => exact absurd rfl hqj
      | 1, _, 2, _ => simp only [cnx, wd, rmx] at *; omega
      | 1, _, 3, _ => simp only [cnx, wd, rmx] at *; omega
      | 1, _, 4, _ => simp only [cnx, wd, rmx] at *; omega
      | 2, _, 0, _ => simp only [cnx, wd, rmx] at *; omega
      | 2, _, 1, _ => simp only [cnx, wd, rmx] at *; omega
      | 2, _, 2, _ => exact absurd rfl hqj
      | 2, _, 3, _ => simp only [cnx, wd, rmx] at *; omega
      | 2, _, 4, _ => simp only [cnx, wd, rmx] at *; omega
      | 3, _, 0, _ => simp only [cnx, wd, rmx] at *; omega
      | 3, _, 1, _ => simp only [cnx, wd, rmx] at *; omega
      | 3, _, 2, _ => simp only [cnx, wd, rmx] at *; omega
      | 3, _, 3, _ => exact absurd rfl hqj
      | 3, _, 4, _ => simp only [cnx, wd, rmx] at *; omega
      | 4, _, 0, _ => simp only [cnx, wd, rmx] at *; omega
      | 4, _, 1, _ => simp only [cnx, wd, rmx] at *; omega
      | 4, _, 2, _ => simp only [cnx, wd, rmx] at *; omega
      | 4, _, 3, _ => simp only [cnx, wd, rmx] at *; omega
      | 4, _, 4, _ => exact absurd rfl hqj
    refine ⟨?_, fun i hi c hc => ?_⟩
    · obtain ⟨a, b, d⟩ := key (cnx q) (Nat.le_refl _) (by omega)
      rw [h3 _ a b d]
      exact (k1 q hq).1
    · have hm : wd q * i + wd q ≤ wd q * rmx q := by
        have := Nat.mul_le_mul_left (wd q) (show i + 1 ≤ rmx q by omega)
        rw [Nat.mul_add] at this
        omega
      obtain ⟨a, b, d⟩ := key (cnx q + 1 + wd q * i + c) (by omega) (by omega)
      rw [h3 _ a b d]
      exact (k1 q hq).2 i hi c hc
theorem p_mtail4 {CN CB W RM : Int32} {cn rm n : Nat} (hCN : CN = nI cn) (hCB : CB = nI (cn + 1)) (hW : W = nI 4) (hRM : RM = nI rm) {σ : fS} (hn : σ 165 cn = nI n) (hnr : n < rm) (hb : cn + 1 + 4 * rm ≤ 277) (x1 x2 x3 x4 : Int32) : ∃ σ', fb CN 277 (if σ 165 CN.toNatClampNeg = RM then some ((-10003 : Int32), σ) else fb CN 277 (fb (CB + W * σ 165 CN.toNatClampNeg) 277 (fL (fu σ 165 (CB + W * σ 165 CN.toNatClampNeg).toNatClampNeg x1) (fun σ5 => fb (CB + W * σ 165 CN.toNatClampNeg + 1) 277 (fL (fu σ5 165 (CB + W * σ 165 CN.toNatClampNeg + 1).toNatClampNeg x2) (fun σ6 => fb (CB + W * σ 165 CN.toNatClampNeg + 2) 277 (fL (fu σ6 165 (CB + W * σ 165 CN.toNatClampNeg + 2).toNatClampNeg x3) (fun σ7 => fb (CB + W * σ 165 CN.toNatClampNeg + 3) 277 (fL (fu σ7 165 (CB + W * σ 165 CN.toNatClampNeg + 3).toNatClampNeg x4) (fun σ8 => fb CN 277 (fb CN 277 (fL (fu σ8 165 CN.toNatClampNeg (σ8 165 CN.toNatClampNeg + 1)) (fun σ9 => fb CN 277 (some (σ9 165 CN.toNatClampNeg - 1, σ9))))))))))))))) = some (nI n, σ') ∧ (∀ c, c ≠ 165 → σ' c = σ c) ∧ σ' 165 cn = nI (n + 1) ∧ (∀ c, c < 4 → σ' 165 (cn + 1 + 4 * n + c) = (if c = 0 then x1 else if c = 1 then x2 else if c = 2 then x3 else x4)) ∧ ∀ k, k ≠ cn → (k < cn + 1 + 4 * n ∨ cn + 1 + 4 * n + 4 ≤ k) → σ' 165 k = σ 165 k := by
  have c0 : CN.toNatClampNeg = cn := cl_x hCN (by omega)
  rw [c0, hn]
  have i0 : CB + W * nI n = nI (cn + 1 + 4 * n) := by rw [hCB, hW, nI_mul, nI_add]
  have i1 : CB + W * nI n + 1 = nI (cn + 1 + 4 * n + 1) := by rw [i0, nI_1]
  have i2 : CB + W * nI n + 2 = nI (cn + 1 + 4 * n + 2) := by rw [i0]; exact nI_add _ 2
  have i3 : CB + W * nI n + 3 = nI (cn + 1 + 4 * n + 3) := by rw [i0]; exact nI_add _ 3
  rw [fb_x hCN (by omega) (by decide), if_neg (by rw [hRM]; exact fun e => by have := nI_inj (by omega) (by omega) e; omega), fb_x hCN (by omega) (by decide), fb_x i0 (by omega) (by decide), fL_ok, fb_x i1 (by omega) (by decide), fL_ok, fb_x i2 (by omega) (by decide), fL_ok, fb_x i3 (by omega) (by decide), fL_ok, fb_x hCN (by omega) (by decide), fb_x hCN (by omega) (by decide), fL_ok, fb_x hCN (by omega) (by decide), cl_x i0 (by omega), cl_x i1 (by omega), cl_x i2 (by omega), cl_x i3 (by omega), fu_self]
  rw [fu_slot (a := 165) (b := cn) (by omega), fu_slot (a := 165) (b := cn) (by omega), fu_slot (a := 165) (b := cn) (by omega), fu_slot (a := 165) (b := cn) (by omega), hn, nI_1, nI_pred]
  refine ⟨_, rfl, fun c hc => by rw [fu_cell hc, fu_cell hc, fu_cell hc, fu_cell hc, fu_cell hc], fu_self _ _ _ _, fun c hc => ?_, fun k a b => by rw [fu_slot (by omega), fu_slot (by omega), fu_slot (by omega), fu_slot (by omega), fu_slot (by omega)]⟩
  rcases (show c = 0 ∨ c = 1 ∨ c = 2 ∨ c = 3 by omega) with rfl | rfl | rfl | rfl
  · rw [fu_slot (by omega), fu_slot (by omega), fu_slot (by omega), fu_slot (by omega)]; exact fu_self _ _ _ _
  · rw [fu_slot (by omega), fu_slot (by omega), fu_slot (by omega), fu_self]; rfl
  · rw [fu_slot (by omega), fu_slot (by omega), fu_self]; rfl
  · rw [fu_slot (by omega), fu_self]; rfl
theorem p_mtail3 {CN CB W RM : Int32} {cn rm n : Nat} (hCN : CN = nI cn) (hCB : CB = nI (cn + 1)) (hW : W = nI 3) (hRM : RM = nI rm) {σ : fS} (hn : σ 165 cn = nI n) (hnr : n < rm) (hb : cn + 1 + 3 * rm ≤ 277) (x1 x2 x3 : Int32) : ∃ σ', fb CN 277 (if σ 165 CN.toNatClampNeg = RM then some ((-10003 : Int32), σ) else fb CN 277 (fb (CB + W * σ 165 CN.toNatClampNeg) 277 (fL (fu σ 165 (CB + W * σ 165 CN.toNatClampNeg).toNatClampNeg x1) (fun σ5 => fb (CB + W * σ 165 CN.toNatClampNeg + 1) 277 (fL (fu σ5 165 (CB + W * σ 165 CN.toNatClampNeg + 1).toNatClampNeg x2) (fun σ6 => fb (CB + W * σ 165 CN.toNatClampNeg + 2) 277 (fL (fu σ6 165 (CB + W * σ 165 CN.toNatClampNeg + 2).toNatClampNeg x3) (fun σ8 => fb CN 277 (fb CN 277 (fL (fu σ8 165 CN.toNatClampNeg (σ8 165 CN.toNatClampNeg + 1)) (fun σ9 => fb CN 277 (some (σ9 165 CN.toNatClampNeg - 1, σ9))))))))))))) = some (nI n, σ') ∧ (∀ c, c ≠ 165 → σ' c = σ c) ∧ σ' 165 cn = nI (n + 1) ∧ (∀ c, c < 3 → σ' 165 (cn + 1 + 3 * n + c) = (if c = 0 then x1 else if c = 1 then x2 else x3)) ∧ ∀ k, k ≠ cn → (k < cn + 1 + 3 * n ∨ cn + 1 + 3 * n + 3 ≤ k) → σ' 165 k = σ 165 k := by
  have c0 : CN.toNatClampNeg = cn := cl_x hCN (by omega)
  rw [c0, hn]
  have i0 : CB + W * nI n = nI (cn + 1 + 3 * n) := by rw [hCB, hW, nI_mul, nI_add]
  have i1 : CB + W * nI n + 1 = nI (cn + 1 + 3 * n + 1) := by rw [i0, nI_1]
  have i2 : CB + W * nI n + 2 = nI (cn + 1 + 3 * n + 2) := by rw [i0]; exact nI_add _ 2
  rw [fb_x hCN (by omega) (by decide), if_neg (by rw [hRM]; exact fun e => by have := nI_inj (by omega) (by omega) e; omega), fb_x hCN (by omega) (by decide), fb_x i0 (by omega) (by decide), fL_ok, fb_x i1 (by omega) (by decide), fL_ok, fb_x i2 (by omega) (by decide), fL_ok, fb_x hCN (by omega) (by decide), fb_x hCN (by omega) (by decide), fL_ok, fb_x hCN (by omega) (by decide), cl_x i0 (by omega), cl_x i1 (by omega), cl_x i2 (by omega), fu_self]
  rw [fu_slot (a := 165) (b := cn) (by omega), fu_slot (a := 165) (b := cn) (by omega), fu_slot (a := 165) (b := cn) (by omega), hn, nI_1, nI_pred]
  refine ⟨_, rfl, fun c hc => by rw [fu_cell hc, fu_cell hc, fu_cell hc, fu_cell hc], fu_self _ _ _ _, fun c hc => ?_, fun k a b => by rw [fu_slot (by omega), fu_slot (by omega), fu_slot (by omega), fu_slot (by omega)]⟩
  rcases (show c = 0 ∨ c = 1 ∨ c = 2 by omega) with rfl | rfl | rfl
  · rw [fu_slot (by omega), fu_slot (by omega), fu_slot (by omega)]; exact fu_self _ _ _ _
  · rw [fu_slot (by omega), fu_slot (by omega), fu_self]; rfl
  · rw [fu_slot (by omega), fu_self]; rfl
theorem p_mtail2 {CN CB W RM : Int32} {cn rm n : Nat} (hCN : CN = nI cn) (hCB : CB = nI (cn + 1)) (hW : W = nI 2) (hRM : RM = nI rm) {σ : fS} (hn : σ 165 cn = nI n) (hnr : n < rm) (hb : cn + 1 + 2 * rm ≤ 277) (x1 x2 : Int32) : ∃ σ', fb CN 277 (if σ 165 CN.toNatClampNeg = RM then some ((-10003 : Int32), σ) else fb CN 277 (fb (CB + W * σ 165 CN.toNatClampNeg) 277 (fL (fu σ 165 (CB + W * σ 165 CN.toNatClampNeg).toNatClampNeg x1) (fun σ5 => fb CN 277 (fb (CB + W * σ5 165 CN.toNatClampNeg + 1) 277 (fL (fu σ5 165 (CB + W * σ5 165 CN.toNatClampNeg + 1).toNatClampNeg x2) (fun σ8 => fb CN 277 (fb CN 277 (fL (fu σ8 165 CN.toNatClampNeg (σ8 165 CN.toNatClampNeg + 1)) (fun σ9 => fb CN 277 (some (σ9 165 CN.toNatClampNeg - 1, σ9)))))))))))) = some (nI n, σ') ∧ (∀ c, c ≠ 165 → σ' c = σ c) ∧ σ' 165 cn = nI (n + 1) ∧ (∀ c, c < 2 → σ' 165 (cn + 1 + 2 * n + c) = (if c = 0 then x1 else x2)) ∧ ∀ k, k ≠ cn → (k < cn + 1 + 2 * n ∨ cn + 1 + 2 * n + 2 ≤ k) → σ' 165 k = σ 165 k := by
  have c0 : CN.toNatClampNeg = cn := cl_x hCN (by omega)
  rw [c0, hn]
  have i0 : CB + W * nI n = nI (cn + 1 + 2 * n) := by rw [hCB, hW, nI_mul, nI_add]
  have i1 : CB + W * nI n + 1 = nI (cn + 1 + 2 * n + 1) := by rw [i0, nI_1]
  rw [fb_x hCN (by omega) (by decide), if_neg (by rw [hRM]; exact fun e => by have := nI_inj (by omega) (by omega) e; omega), fb_x hCN (by omega) (by decide), fb_x i0 (by omega) (by decide), fL_ok, fb_x hCN (by omega) (by decide), cl_x i0 (by omega), fu_slot (a := 165) (b := cn) (by omega), hn, fb_x i1 (by omega) (by decide), fL_ok, fb_x hCN (by omega) (by decide), fb_x hCN (by omega) (by decide), fL_ok, fb_x hCN (by omega) (by decide), cl_x i1 (by omega), fu_self]
  rw [fu_slot (a := 165) (b := cn) (by omega), fu_slot (a := 165) (b := cn) (by omega), hn, nI_1, nI_pred]
  refine ⟨_, rfl, fun c hc => by rw [fu_cell hc, fu_cell hc, fu_cell hc], fu_self _ _ _ _, fun c hc => ?_, fun k a b => by rw [fu_slot (by omega), fu_slot (by omega), fu_slot (by omega)]⟩
  rcases (show c = 0 ∨ c = 1 by omega) with rfl | rfl
  · rw [fu_slot (by omega), fu_slot (by omega)]; exact fu_self _ _ _ _
  · rw [fu_slot (by omega), fu_self]; rfl

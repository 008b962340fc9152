/-! ===== removeCrossing ===== -/
theorem tg_app {A B : aT} {k c : Nat} : tg (A ++ B) k c = if k < A.length then tg A k c else tg B (k - A.length) c := by
  unfold tg
  by_cases h : k < A.length
  · have e : (A ++ B).getD k [] = A.getD k [] := by rw [List.getD_eq_getElem?_getD, List.getElem?_append_left h, ← List.getD_eq_getElem?_getD]
    rw [if_pos h, e]
  · have e : (A ++ B).getD k [] = B.getD (k - A.length) [] := by rw [List.getD_eq_getElem?_getD, List.getElem?_append_right (by omega), ← List.getD_eq_getElem?_getD]
    rw [if_neg h, e]
theorem tg_cons0 {r : List Nat} {B : aT} {c : Nat} : tg (r :: B) 0 c = r.getD c 0 := rfl
theorem tg_consS {r : List Nat} {B : aT} {k c : Nat} : tg (r :: B) (k + 1) c = tg B k c := by
  unfold tg
  rw [List.getD_cons_succ]
theorem tg_take {T : aT} {m k c : Nat} (h : k < m) : tg (T.take m) k c = tg T k c := by
  have e : (T.take m).getD k [] = T.getD k [] := by rw [List.getD_eq_getElem?_getD, List.getElem?_take_of_lt h, ← List.getD_eq_getElem?_getD]
  unfold tg
  rw [e]
theorem tg_drop {T : aT} {m k c : Nat} : tg (T.drop m) k c = tg T (m + k) c := by
  have e : (T.drop m).getD k [] = T.getD (m + k) [] := by rw [List.getD_eq_getElem?_getD, List.getElem?_drop, ← List.getD_eq_getElem?_getD]
  unfold tg
  rw [e]
/-- a table without its row i -/
def rmT (T : aT) (i : Nat) : aT := T.take i ++ T.drop (i + 1)
theorem rmT_len {T : aT} {i : Nat} (hi : i < T.length) : (rmT T i).length = T.length - 1 := by
  unfold rmT
  rw [List.length_append, List.length_take, List.length_drop]
  omega
theorem rmT_tg {T : aT} {i k c : Nat} (hi : i < T.length) : tg (rmT T i) k c = tg T (if k < i then k else k + 1) c := by
  unfold rmT
  rw [tg_app, List.length_take, Nat.min_eq_left (by omega)]
  by_cases h : k < i
  · rw [if_pos h, if_pos h, tg_take h]
  · rw [if_neg h, if_neg h, tg_drop, show i + 1 + (k - i) = k + 1 by omega]
theorem p_removeRow {t r w : Nat} {σ : fS} {T : aT} (h : TV σ t w T) (hr : T.length ≤ r) (hrw : r * w < 2000) (hr5 : r < 2000) (hw : w < 50) {i : Nat} (hi : i < T.length) : ∃ s, f_X5_removeRow t r w (nI i) σ = some s ∧ (∀ q, q ≠ t → q ≠ t + 1 → s q = σ q) ∧ (∀ k, k ≠ 3 → s t k = σ t k) ∧ TV s t w (rmT T i) := by
  have hlw : T.length * w ≤ r * w := Nat.mul_le_mul_right w hr
  have hl1 : (T.length - 1) * w + w = T.length * w := by
    have := Nat.add_mul (T.length - 1) 1 w
    rw [show T.length - 1 + 1 = T.length by omega] at this
    omega
  have hil : i * w ≤ (T.length - 1) * w := Nat.mul_le_mul_right w (by omega)
  have el : nI T.length - (1 : Int32) = nI (T.length - 1) := nI_sub (b := 1) (by omega)
  unfold f_X5_removeRow
  rw [p_has1 h.1 (by omega) rfl hi, fcall_ok, if_neg (by decide), show nI i * Int32.ofNat w = nI (i * w) from nI_mul i w]
  obtain ⟨s, ⟨i1, i2, i3, -⟩, e⟩ := do_loop (f := fun n v s => f_X5_removeRow_b16 t r w n v s) (N := (T.length - 1) * w) (I := fun k s => (∀ q, q ≠ t + 1 → s q = σ q) ∧ (∀ j, i * w ≤ j → j < k → s (t + 1) j = σ (t + 1) (j + w)) ∧ (∀ j, (j < i * w ∨ k ≤ j) → s (t + 1) j = σ (t + 1) j) ∧ i * w ≤ k) (fin := fun s => some (fu s t 3 (nI (T.length - 1)))) (fun n s hI => by
    show f_X5_removeRow_b16 t r w (n + 1) (nI ((T.length - 1) * w)) s = _
    rw [f_X5_removeRow_b16, hI.1 t (by omega), h.1, el, show nI (T.length - 1) * Int32.ofNat w = nI ((T.length - 1) * w) from nI_mul _ w, if_pos (nI_le (Nat.le_refl _) (by omega)), fL_ok]) (fun n k s hk hI => by
    obtain ⟨j1, j2, j3, hik⟩ := hI
    refine ⟨fu s (t + 1) k (σ (t + 1) (k + w)), ⟨fun q hq => by rw [fu_cell hq]; exact j1 q hq, fun j a b => ?_, fun j a => by rw [fu_slot (by omega)]; exact j3 j (by omega), by omega⟩, ?_⟩
    · by_cases hjk : j = k
      · subst hjk; rw [fu_self]
      · rw [fu_slot hjk]; exact j2 j a (by omega)
    · show f_X5_removeRow_b16 t r w (n + 1) (nI k) s = f_X5_removeRow_b16 t r w n (nI (k + 1)) _
      rw [f_X5_removeRow_b16, j1 t (by omega), h.1, el, show nI (T.length - 1) * Int32.ofNat w = nI ((T.length - 1) * w) from nI_mul _ w, if_neg (nI_ge hk (by omega)), show nI k + Int32.ofNat w = nI (k + w) from nI_add k w, fb_x rfl (by omega) (by omega), fb_x rfl (by omega) (by omega), fL_ok, nI_clamp (by omega), nI_clamp (by omega), nI_1, j3 (k + w) (by omega)]) ((T.length - 1) * w - i * w) (i * w) fN σ (by omega) (by unfold fN; omega) ⟨fun _ _ => rfl, fun j a b => by omega, fun _ _ => rfl, Nat.le_refl _⟩
  refine ⟨_, e, fun q a b => by rw [fu_cell a]; exact i1 q b, fun k hk => by rw [fu_slot hk, i1 t (by omega)], ?_, fun k hk c hc => ?_⟩
  · rw [fu_self, rmT_len hi]
  · rw [rmT_len hi] at hk
    rw [fu_cell (by omega), rmT_tg hi]
    by_cases hki : k < i
    · have : (k + 1) * w ≤ i * w := Nat.mul_le_mul_right w (by omega)
      rw [Nat.add_mul] at this
      rw [if_pos hki, i3 _ (by omega)]
      exact h.2 k (by omega) c hc
    · have a1 : i * w ≤ k * w := Nat.mul_le_mul_right w (by omega)
      have a2 : (k + 1) * w ≤ (T.length - 1) * w := Nat.mul_le_mul_right w (by omega)
      rw [Nat.add_mul] at a2
      rw [if_neg hki, i2 _ (by omega) (by omega), show k * w + c + w = (k + 1) * w + c by rw [Nat.add_mul]; omega]
      exact h.2 (k + 1) (by omega) c hc
def adj (x : Nat) (r : List Nat) : List Nat := (if x < r.getD 0 0 then r.getD 0 0 - 1 else r.getD 0 0) :: r.tail
theorem adj_0 (x : Nat) (r : List Nat) : (adj x r).getD 0 0 = if x < r.getD 0 0 then r.getD 0 0 - 1 else r.getD 0 0 := rfl
theorem adj_S (x : Nat) (r : List Nat) (c : Nat) : (adj x r).getD (c + 1) 0 = r.getD (c + 1) 0 := by
  cases r with
  | nil => rfl
  | cons a b => rfl
def cutT (x : Nat) : aT → aT
  | [] => []
  | r :: B => if r.getD 0 0 = x then cutT x B else adj x r :: cutT x B
theorem cutT_app (x : Nat) : ∀ A B, cutT x (A ++ B) = cutT x A ++ cutT x B := by
  intro A
  induction A with
  | nil => intro B; rfl
  | cons r A ih =>
    intro B
    show (if r.getD 0 0 = x then cutT x (A ++ B) else adj x r :: cutT x (A ++ B)) = (if r.getD 0 0 = x then cutT x A else adj x r :: cutT x A) ++ cutT x B
    rw [ih B]
    split <;> rfl
theorem cutT_len (x : Nat) : ∀ A, (cutT x A).length ≤ A.length := by
  intro A
  induction A with
  | nil => exact Nat.le_refl _
  | cons r A ih =>
    show (if r.getD 0 0 = x then cutT x A else adj x r :: cutT x A).length ≤ A.length + 1
    split
    · omega
    · rw [List.length_cons]; omega
/-- each row that is left was one of them, not of the crossing -/
theorem cutT_row (x : Nat) : ∀ A i, i < (cutT x A).length → ∃ k, k < A.length ∧ tg A k 0 ≠ x ∧ tg (cutT x A) i 0 = (if x < tg A k 0 then tg A k 0 - 1 else tg A k 0) ∧ ∀ c, tg (cutT x A) i (c + 1) = tg A k (c + 1) := by
  intro A
  induction A with
  | nil => intro i hi; exact absurd hi (Nat.not_lt_zero _)
  | cons r A ih =>
    intro i hi
    have hi : i < (if r.getD 0 0 = x then cutT x A else adj x r :: cutT x A).length := hi
    show ∃ k, k < A.length + 1 ∧ tg (r :: A) k 0 ≠ x ∧ tg (if r.getD 0 0 = x then cutT x A else adj x r :: cutT x A) i 0 = (if x < tg (r :: A) k 0 then tg (r :: A) k 0 - 1 else tg (r :: A) k 0) ∧ ∀ c, tg (if r.getD 0 0 = x then cutT x A else adj x r :: cutT x A) i (c + 1) = tg (r :: A) k (c + 1)
    by_cases h : r.getD 0 0 = x
    · rw [if_pos h] at hi ⊢
      obtain ⟨k, a, b, d, e⟩ := ih i hi
      exact ⟨k + 1, by omega, by rw [tg_consS]; exact b, by rw [tg_consS]; exact d, fun c => by rw [tg_consS]; exact e c⟩
    · rw [if_neg h] at hi ⊢
      cases i with
      | zero => exact ⟨0, by omega, h, rfl, fun c => adj_S x r c⟩
      | succ i =>
        obtain ⟨k, a, b, d, e⟩ := ih i (by rw [List.length_cons] at hi; omega)
        exact ⟨k + 1, by omega, by rw [tg_consS]; exact b, by rw [tg_consS, tg_consS]; exact d, fun c => by rw [tg_consS, tg_consS]; exact e c⟩
def dn : Nat → Int32
  | 0 => -1
  | k + 1 => nI k
theorem dn_pred (m : Nat) : nI m + (-1 : Int32) = dn m ∧ nI m - (1 : Int32) = dn m := by
  cases m with
  | zero => exact ⟨rfl, rfl⟩
  | succ k =>
    have h : nI (k + 1) - (1 : Int32) = nI k := nI_pred k
    exact ⟨by rw [show (-1 : Int32) = -(1 : Int32) from rfl, ← Int32.sub_eq_add_neg]; exact h, h⟩
theorem take_s {T : aT} {k : Nat} (hk : k < T.length) : T.take (k + 1) = T.take k ++ [T[k]] ∧ T.drop k = T[k] :: T.drop (k + 1) := ⟨by rw [List.take_succ_eq_append_getElem hk], List.drop_eq_getElem_cons hk⟩
theorem tg_get {T : aT} {k c : Nat} (hk : k < T.length) : (T[k]).getD c 0 = tg T k c := by
  unfold tg
  rw [List.getD_eq_getElem?_getD (l := T), List.getElem?_eq_getElem hk]
  rfl
theorem p_drop {t r w : Nat} {σ : fS} {T : aT} (h : TV σ t w T) (hr : T.length ≤ r) (hrw : r * w < 2000) (hr5 : r < 2000) (hw : w < 50) (hw0 : 0 < w) {x : Nat} (hx : x < 2 ^ 31) (hb : ∀ k, k < T.length → tg T k 0 < 2 ^ 31) : ∃ s, f_X3_dropRowsOf t r w 0 (nI x) σ = some s ∧ (∀ q, q ≠ t → q ≠ t + 1 → s q = σ q) ∧ (∀ k, k ≠ 3 → s t k = σ t k) ∧ TV s t w (cutT x T) := by
  have key : ∀ m n s, m ≤ T.length → m < n → (∀ q, q ≠ t → q ≠ t + 1 → s q = σ q) → (∀ k, k ≠ 3 → s t k = σ t k) → TV s t w (T.take m ++ cutT x (T.drop m)) → ∃ s', f_X3_dropRowsOf_b7 t r w n 0 (nI x) (dn m) s = some s' ∧ (∀ q, q ≠ t → q ≠ t + 1 → s' q = σ q) ∧ (∀ k, k ≠ 3 → s' t k = σ t k) ∧ TV s' t w (cutT x T) := by
    intro m
    induction m with
    | zero =>
      intro n s _ hn h1 h2 h3
      obtain ⟨n, rfl⟩ : ∃ q, n = q + 1 := ⟨n - 1, by omega⟩
      rw [f_X3_dropRowsOf_b7, if_pos (show dn 0 < 0 from by decide)]
      exact ⟨s, rfl, h1, h2, h3⟩
    | succ k ih =>
      intro n s hk hn h1 h2 h3
      obtain ⟨n, rfl⟩ : ∃ q, n = q + 1 := ⟨n - 1, by omega⟩
      have hk' : k < T.length := by omega
      have hbk := hb k hk'
      obtain ⟨tk, dk⟩ := take_s hk'
      have hlen : (T.take k).length = k := by rw [List.length_take]; omega
      have hcl := cutT_len x (T.drop (k + 1))
      have hdl : (T.drop (k + 1)).length = T.length - (k + 1) := List.length_drop
      have hL : (T.take (k + 1) ++ cutT x (T.drop (k + 1))).length = k + 1 + (cutT x (T.drop (k + 1))).length := by rw [List.length_append, List.length_take]; omega
      have hrow : ∀ c, tg (T.take (k + 1) ++ cutT x (T.drop (k + 1))) k c = tg T k c := fun c => by
        rw [tg_app, if_pos (by rw [List.length_take]; omega), tg_take (by omega)]
      have tgt : T.take k ++ cutT x (T.drop k) = if tg T k 0 = x then T.take k ++ cutT x (T.drop (k + 1)) else T.take k ++ (adj x T[k] :: cutT x (T.drop (k + 1))) := by
        rw [dk]
        show T.take k ++ (if T[k].getD 0 0 = x then cutT x (T.drop (k + 1)) else adj x T[k] :: cutT x (T.drop (k + 1))) = _
        rw [tg_get hk']
        split <;> rfl
      have at0 := p_at (r := r) (x2 := 0) h3 (by rw [hL]; omega) (by omega) hw (x1 := nI k) (i := k) rfl (show (0 : Int32) = nI 0 from rfl) (by rw [hL]; omega) hw0
      rw [hrow] at at0
      show ∃ s', f_X3_dropRowsOf_b7 t r w (n + 1) 0 (nI x) (nI k) s = some s' ∧ _
      rw [f_X3_dropRowsOf_b7, if_neg (nI_pos (by omega)), at0, fcall_ok]
      unfold f_X3_dropRowsOf_b49
      -- rows of both lists
      have rows : ∀ (adjr : List Nat) (L : aT), L = T.take k ++ (adjr :: cutT x (T.drop (k + 1))) → L.length = k + 1 + (cutT x (T.drop (k + 1))).length ∧ ∀ q c, tg L q c = if q = k then adjr.getD c 0 else tg (T.take (k + 1) ++ cutT x (T.drop (k + 1))) q c := fun adjr L hLe => by
        subst hLe
        refine ⟨by rw [List.length_append, List.length_cons, hlen]; omega, fun q c => ?_⟩
        rw [tg_app, hlen, tg_app, List.length_take, Nat.min_eq_left (by omega)]
        by_cases hq : q < k
        · rw [if_pos hq, if_neg (by omega), if_pos (by omega), tg_take hq, tg_take (by omega)]
        · rw [if_neg hq]
          by_cases hqk : q = k
          · subst hqk
            rw [if_pos rfl, Nat.sub_self, tg_cons0]
          · rw [if_neg hqk, if_neg (by omega), show q - k = (q - (k + 1)) + 1 by omega, tg_consS]
      by_cases hx1 : tg T k 0 = x
      · rw [if_pos (by rw [hx1])]
        obtain ⟨s1, e1, f1, f2, f3⟩ := p_removeRow h3 (by rw [hL]; omega) hrw hr5 hw (i := k) (by rw [hL]; omega)
        rw [e1, fcallv_ok, (dn_pred k).1]
        refine ih n s1 (by omega) (by omega) (fun q a b => by rw [f1 q a b]; exact h1 q a b) (fun j hj => by rw [f2 j hj]; exact h2 j hj) ?_
        rw [tgt, if_pos hx1]
        have : rmT (T.take (k + 1) ++ cutT x (T.drop (k + 1))) k = T.take k ++ cutT x (T.drop (k + 1)) := by
          unfold rmT
          rw [List.take_append_of_le_length (by rw [List.length_take]; omega), List.take_take, Nat.min_eq_left (by omega)]
          congr 1
          rw [List.drop_append_of_le_length (by rw [List.length_take]; omega), List.drop_take]
          simp
        rw [this] at f3
        exact f3
      · rw [if_neg (fun e => hx1 (nI_inj hbk hx e))]
        obtain ⟨rl, rt⟩ := rows (adj x T[k]) _ rfl
        by_cases hx2 : x < tg T k 0
        · have ep : nI (tg T k 0) - (1 : Int32) = nI (tg T k 0 - 1) := nI_sub (b := 1) (by omega)
          rw [if_neg (nI_ge hx2 hbk), ep, p_put h3.1 (by rw [hL]; omega) (by omega) (by omega) (by omega) rfl (show (0 : Int32) = nI 0 from rfl) (by rw [hL]; omega) hw0, fcallv_ok, (dn_pred k).1]
          refine ih n _ (by omega) (by omega) (fun q a b => by rw [fu_cell b]; exact h1 q a b) (fun j hj => by rw [fu_cell (by omega)]; exact h2 j hj) ?_
          rw [tgt, if_neg hx1]
          refine ⟨by rw [fu_cell (by omega), rl, ← hL]; exact h3.1, fun q hq c hc => ?_⟩
          rw [rl] at hq
          rw [rt q c]
          by_cases hqk : q = k
          · subst hqk
            rw [if_pos rfl]
            cases c with
            | zero => rw [fu_self, adj_0, tg_get hk', if_pos hx2]
            | succ c =>
              rw [fu_slot (by omega), adj_S, tg_get hk', ← hrow]
              exact h3.2 q (by rw [hL]; omega) (c + 1) hc
          · rw [if_neg hqk, fu_slot (by
              intro e
              rcases Nat.lt_or_gt_of_ne hqk with hl | hl
              · have : (q + 1) * w ≤ k * w := Nat.mul_le_mul_right w hl
                rw [Nat.add_mul] at this
                omega
              · have : (k + 1) * w ≤ q * w := Nat.mul_le_mul_right w hl
                rw [Nat.add_mul] at this
                omega)]
            exact h3.2 q (by rw [hL]; omega) c hc
        · rw [if_pos (nI_le (by omega) hx), (dn_pred k).1]
          refine ih n s (by omega) (by omega) h1 h2 ?_
          rw [tgt, if_neg hx1]
          refine ⟨by rw [rl, ← hL]; exact h3.1, fun q hq c hc => ?_⟩
          rw [rl] at hq
          rw [rt q c]
          by_cases hqk : q = k
          · subst hqk
            rw [if_pos rfl]
            have : (adj x T[q]).getD c 0 = tg T q c := by
              cases c with
              | zero => rw [adj_0, tg_get hk', if_neg hx2]
              | succ c => rw [adj_S, tg_get hk']
            rw [this, ← hrow]
            exact h3.2 q (by rw [hL]; omega) c hc
          · rw [if_neg hqk]
            exact h3.2 q (by rw [hL]; omega) c hc
  unfold f_X3_dropRowsOf
  rw [p_size, fcall_ok, h.1, (dn_pred T.length).2]
  refine key T.length fN σ (Nat.le_refl _) (by unfold fN; omega) (fun _ _ _ => rfl) (fun _ _ => rfl) ?_
  rw [List.take_length, List.drop_length]
  show TV σ t w (T ++ [])
  rw [List.append_nil]
  exact h

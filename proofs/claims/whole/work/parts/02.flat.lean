/-! ===== the flat state: 189 cells; what may change is ints alone ===== -/
abbrev fS : Type := Nat → Nat → Int32
abbrev fGm : Type := (Nat → Nat) × (ClassId × ClassId × ClassId) × va_G
def fTab : List (Nat × Nat × Nat) := [(5, 0, 0), (3, 0, 0), (2, 4, 4), (1, 16, 0), (2, 3, 2), (1, 6, 0), (2, 12, 4), (1, 48, 0), (2, 24, 3), (1, 72, 0), (2, 8, 4), (1, 32, 0), (2, 49, 1), (1, 49, 0), (2, 48, 1), (1, 48, 0), (3, 0, 0), (2, 4, 4), (1, 16, 0), (2, 3, 2), (1, 6, 0), (2, 12, 4), (1, 48, 0), (2, 24, 3), (1, 72, 0), (2, 8, 4), (1, 32, 0), (2, 49, 1), (1, 49, 0), (2, 48, 1), (1, 48, 0), (3, 0, 0), (2, 4, 4), (1, 16, 0), (2, 3, 2), (1, 6, 0), (2, 12, 4), (1, 48, 0), (2, 24, 3), (1, 72, 0), (2, 8, 4), (1, 32, 0), (2, 49, 1), (1, 49, 0), (2, 48, 1), (1, 48, 0), (6, 0, 0), (7, 6, 0), (3, 0, 0), (2, 4, 4), (1, 16, 0), (2, 3, 2), (1, 6, 0), (2, 12, 4), (1, 48, 0), (2, 24, 3), (1, 72, 0), (2, 8, 4), (1, 32, 0), (2, 49, 1), (1, 49, 0), (2, 48, 1), (1, 48, 0), (3, 0, 0), (2, 4, 4), (1, 16, 0), (2, 3, 2), (1, 6, 0), (2, 12, 4), (1, 48, 0), (2, 24, 3), (1, 72, 0), (2, 8, 4), (1, 32, 0), (2, 49, 1), (1, 49, 0), (2, 48, 1), (1, 48, 0), (3, 0, 0), (2, 4, 4), (1, 16, 0), (2, 3, 2), (1, 6, 0), (2, 12, 4), (1, 48, 0), (2, 24, 3), (1, 72, 0), (2, 8, 4), (1, 32, 0), (2, 49, 1), (1, 49, 0), (2, 48, 1), (1, 48, 0), (3, 0, 0), (2, 4, 4), (1, 16, 0), (2, 3, 2), (1, 6, 0), (2, 12, 4), (1, 48, 0), (2, 24, 3), (1, 72, 0), (2, 8, 4), (1, 32, 0), (2, 49, 1), (1, 49, 0), (2, 48, 1), (1, 48, 0), (3, 0, 0), (2, 4, 4), (1, 16, 0), (2, 3, 2), (1, 6, 0), (2, 12, 4), (1, 48, 0), (2, 24, 3), (1, 72, 0), (2, 8, 4), (1, 32, 0), (2, 49, 1), (1, 49, 0), (2, 48, 1), (1, 48, 0), (3, 0, 0), (2, 4, 4), (1, 16, 0), (2, 3, 2), (1, 6, 0), (2, 12, 4), (1, 48, 0), (2, 24, 3), (1, 72, 0), (2, 8, 4), (1, 32, 0), (2, 49, 1), (1, 49, 0), (2, 48, 1), (1, 48, 0), (8, 0, 0), (1, 12, 0), (1, 12, 0), (1, 12, 0), (1, 12, 0), (1, 12, 0), (1, 8, 0), (9, 0, 0), (1, 12, 0), (1, 48, 0), (1, 24, 0), (1, 288, 0), (1, 48, 0), (1, 48, 0), (1, 24, 0), (1, 24, 0), (1, 24, 0), (1, 24, 0), (1, 4, 0), (10, 0, 0), (4, 60, 0), (2, 12, 6), (1, 72, 0), (11, 0, 0), (2, 9, 5), (1, 45, 0), (12, 0, 0), (1, 277, 0), (1, 277, 0), (1, 1662, 0), (1, 277, 0), (4, 60, 0), (1, 4, 0), (1, 12, 0), (1, 12, 0), (1, 12, 0), (1, 12, 0), (1, 12, 0), (1, 288, 0), (1, 12, 0), (1, 24, 0), (1, 24, 0), (1, 24, 0), (1, 24, 0), (1, 48, 0), (1, 1152, 0), (1, 48, 0), (1, 24, 0), (1, 4, 0), (1, 9, 0), (1, 36, 0)]
def fD (k : Nat) : Nat × Nat × Nat := fTab.getD k (0, 0, 0)
def fcell (Γ : fGm) (k : Nat) (f : Nat → Int32) : va_E :=
  match fD k with
  | (1, n, _) => .inl (Γ.2.1.1, n, .inl f)
  | (2, r, w) => .inr (5, [.int (Int32.ofNat r), .int (Int32.ofNat w), .ref (Γ.1 (k + 1)), .int (f 3)])
  | (3, _, _) => .inr (3, [.ref (Γ.1 (k + 1)), .ref (Γ.1 (k + 3)), .ref (Γ.1 (k + 5)), .ref (Γ.1 (k + 7)), .ref (Γ.1 (k + 9)), .ref (Γ.1 (k + 11)), .ref (Γ.1 (k + 13)), .int (f 7)])
  | (4, n, _) => .inl (Γ.2.1.2.1, n, .inl f)
  | (5, _, _) => .inr (7, [.ref (Γ.1 1), .ref (Γ.1 16), .ref (Γ.1 31), .ref (Γ.1 46), .ref (Γ.1 138), .ref (Γ.1 145), .ref (Γ.1 157), .ref (Γ.1 161), .int (f 8)])
  | (6, _, _) => .inr (1, [.ref (Γ.1 47), .int (f 1), .int (f 2)])
  | (7, n, _) => .inl (Γ.2.1.2.2, n, .inr (.inr (.inr (.inr (fun i => some (Γ.1 (48 + 15 * i)))))))
  | (8, _, _) => .inr (0, [.ref (Γ.1 139), .ref (Γ.1 140), .ref (Γ.1 141), .ref (Γ.1 142), .ref (Γ.1 143), .ref (Γ.1 144)])
  | (9, _, _) => .inr (2, [.ref (Γ.1 146), .ref (Γ.1 147), .ref (Γ.1 148), .ref (Γ.1 149), .ref (Γ.1 150), .ref (Γ.1 151), .ref (Γ.1 152), .ref (Γ.1 153), .ref (Γ.1 154), .ref (Γ.1 155), .ref (Γ.1 156)])
  | (10, _, _) => .inr (6, [.int (f 0), .int (f 1), .ref (Γ.1 158), .ref (Γ.1 159), .int (f 4)])
  | (11, _, _) => .inr (4, [.ref (Γ.1 162)])
  | (12, _, _) => .inr (8, [.ref (Γ.1 165), .ref (Γ.1 166), .ref (Γ.1 167), .int (f 3), .ref (Γ.1 168), .int (f 5), .ref (Γ.1 169), .int (f 7), .int (f 8), .int (f 9), .int (f 10), .ref (Γ.1 170), .ref (Γ.1 171), .ref (Γ.1 172), .ref (Γ.1 173), .ref (Γ.1 174), .ref (Γ.1 175), .ref (Γ.1 176), .ref (Γ.1 177), .ref (Γ.1 178), .ref (Γ.1 179), .ref (Γ.1 180), .ref (Γ.1 181), .ref (Γ.1 182), .ref (Γ.1 183), .ref (Γ.1 184), .ref (Γ.1 185), .int (f 27), .ref (Γ.1 186), .ref (Γ.1 187), .ref (Γ.1 188)])
  | _ => .inl (Γ.2.1.1, 0, .inl f)
theorem fe_A {Γ : fGm} {k n z : Nat} {f : Nat → Int32} (h : fD k = (1, n, z)) : fcell Γ k f = .inl (Γ.2.1.1, n, .inl f) := by simp only [fcell, h]
theorem fe_T {Γ : fGm} {k r w : Nat} {f : Nat → Int32} (h : fD k = (2, r, w)) : fcell Γ k f = .inr (5, [.int (Int32.ofNat r), .int (Int32.ofNat w), .ref (Γ.1 (k + 1)), .int (f 3)]) := by simp only [fcell, h]
theorem fe_P {Γ : fGm} {k y z : Nat} {f : Nat → Int32} (h : fD k = (3, y, z)) : fcell Γ k f = .inr (3, [.ref (Γ.1 (k + 1)), .ref (Γ.1 (k + 3)), .ref (Γ.1 (k + 5)), .ref (Γ.1 (k + 7)), .ref (Γ.1 (k + 9)), .ref (Γ.1 (k + 11)), .ref (Γ.1 (k + 13)), .int (f 7)]) := by simp only [fcell, h]
theorem fe_C {Γ : fGm} {k n z : Nat} {f : Nat → Int32} (h : fD k = (4, n, z)) : fcell Γ k f = .inl (Γ.2.1.2.1, n, .inl f) := by simp only [fcell, h]
theorem fD_lt {k a b c : Nat} (h : fD k = (a + 1, b, c)) : k < 189 := by
  rcases Nat.lt_or_ge k 189 with q | q
  · exact q
  · have h2 : fD k = (0, 0, 0) := by
      unfold fD
      rw [List.getD_eq_getElem?_getD, List.getElem?_eq_none (by exact q)]
      rfl
    rw [h2] at h
    cases h
theorem fD_tabB : (List.range 189).all (fun k => (fD k).1 != 2 || fD (k + 1) == (1, (fD k).2.1 * (fD k).2.2, 0)) = true := by decide +kernel
theorem fD_prtB : (List.range 189).all (fun k => (fD k).1 != 3 || (fD (k + 1) == (2, 4, 4) && fD (k + 3) == (2, 3, 2) && fD (k + 5) == (2, 12, 4) && fD (k + 7) == (2, 24, 3) && fD (k + 9) == (2, 8, 4) && fD (k + 11) == (2, 49, 1) && fD (k + 13) == (2, 48, 1))) = true := by decide +kernel
theorem fD_tab {k r w : Nat} (h : fD k = (2, r, w)) : fD (k + 1) = (1, r * w, 0) := by
  have h1 := List.all_eq_true.mp fD_tabB k (List.mem_range.mpr (fD_lt h))
  simpa [h] using h1
theorem fD_prt {k : Nat} (h : fD k = (3, 0, 0)) : fD (k + 1) = (2, 4, 4) ∧ fD (k + 3) = (2, 3, 2) ∧ fD (k + 5) = (2, 12, 4) ∧ fD (k + 7) = (2, 24, 3) ∧ fD (k + 9) = (2, 8, 4) ∧ fD (k + 11) = (2, 49, 1) ∧ fD (k + 13) = (2, 48, 1) := by
  have h1 := List.all_eq_true.mp fD_prtB k (List.mem_range.mpr (fD_lt h))
  simp only [h, bne_self_eq_false, Bool.false_or, Bool.and_eq_true, beq_iff_eq] at h1
  exact ⟨h1.1.1.1.1.1.1, h1.1.1.1.1.1.2, h1.1.1.1.1.2, h1.1.1.1.2, h1.1.1.2, h1.1.2, h1.2⟩
def fws (Γ : fGm) (σ : fS) : va_W := (List.range 189).map (fun k => (Γ.1 k, fcell Γ k (σ k)))
theorem fws_get {Γ : fGm} {σ : fS} {k : Nat} (h : k < 189) : (fws Γ σ)[k]? = some (Γ.1 k, fcell Γ k (σ k)) := by
  unfold fws
  rw [List.getElem?_map, List.getElem?_range h]
  rfl
theorem fws_inv {Γ : fGm} {σ : fS} {k : Nat} {q : Nat × va_E} (h : (fws Γ σ)[k]? = some q) : k < 189 ∧ q = (Γ.1 k, fcell Γ k (σ k)) := by
  have hl : k < 189 := by
    have := (List.getElem?_eq_some_iff.mp h).1
    unfold fws at this
    simpa using this
  rw [fws_get hl] at h
  exact ⟨hl, (Option.some.inj h).symm⟩
theorem fws_set {Γ : fGm} {σ : fS} {k : Nat} {f : Nat → Int32} (h : k < 189) : (fws Γ σ).set k (Γ.1 k, fcell Γ k f) = fws Γ (va_up σ k f) := by
  apply List.ext_getElem?
  intro i
  by_cases hi : i < 189
  · by_cases hik : i = k
    · subst hik
      rw [List.getElem?_set_self (by unfold fws; simpa using h), fws_get h]
      simp [va_up]
    · rw [List.getElem?_set_ne (Ne.symm hik), fws_get hi, fws_get hi]
      simp [va_up, hik]
  · rw [List.getElem?_eq_none (by unfold fws; simp; omega), List.getElem?_eq_none (by unfold fws; simp; omega)]
def ftys (Γ : fGm) : List (ClassId × FieldType) := [(Γ.2.1.1, .int), (Γ.2.1.2.1, .char), (Γ.2.1.2.2, .object "FerryTimetable$Port")]
def fAd (Γ : fGm) : Nat → Prop := fun q => ∃ k, k < 189 ∧ Γ.1 k = q
def fI (Γ : fGm) : Prop := ∀ i j, i < 189 → j < 189 → Γ.1 i = Γ.1 j → i = j
def fH (Γ : fGm) (σ : fS) (H : Heap) : Prop := va_P Γ.2.2 vwCl (fws Γ σ) H
theorem fws_D {Γ : fGm} (hI : fI Γ) (σ : fS) : va_D (fAd Γ) (fws Γ σ) := by
  refine ⟨fun i j p q hi hj h => ?_, fun k q hk => ?_⟩
  · obtain ⟨h1, rfl⟩ := fws_inv hi
    obtain ⟨h2, rfl⟩ := fws_inv hj
    exact hI i j h1 h2 h
  · obtain ⟨h1, rfl⟩ := fws_inv hk
    exact ⟨k, h1, rfl⟩
def fu (σ : fS) (c k : Nat) (v : Int32) : fS := va_up σ c (upd (σ c) k v)
def lw_g : List Cond := lw_tbl.filter goodWord
def fn1 : Cond := .methodLinkNest RX3 46 yX7_isOutside RX7
def fn2 : Cond := .methodLinkNest RX6 34 yX7_isOutside RX7
def fn3 : Cond := .methodLinkNest RX6 49 yX7_isError RX7
def fK (Γ : fGm) (U : State) : Prop := va_K Γ.2.2 vwCl (ftys Γ) U ∧ va_Nw fn1 U ∧ va_Nw fn2 U ∧ va_Nw fn3 U
theorem fK.warm {Γ : fGm} {s U : State} (h : fK Γ s) (hW : s.WarmedH U.vm) : fK Γ U := ⟨va_K.moved hW.alike h.1, va_Nw.warmM hW h.2.1, va_Nw.warmM hW h.2.2.1, va_Nw.warmM hW h.2.2.2⟩
def fC (Γ : fGm) (p : Program) (s : State) (m : MethodId) (args : Array Value) (meth : Method) (c : Code) (cc : ByteArray) (ret : Option FieldType) (own : String) (nL : Nat) : Prop :=
  p.tables.exec = Jvm.exec ∧ c.code = cc ∧ meth.sig.returnType = ret ∧ c.maxLocals = nL ∧ s.vm.findClass own = some m.cls ∧ (∀ w ∈ lw_g, w.before args s = true) ∧ meth.locks = false ∧ fK Γ s ∧ fI Γ
def fPre (Γ : fGm) (av : List Value) (σ : fS) : Array Value → State → Prop := va_Pc av (fun U => fH Γ σ U.heap ∧ fK Γ U)
def fB (Γ : fGm) (σ : fS) (t : State) : Prop := fH Γ σ t.heap
def fQi (Γ : fGm) (r : Int32) (σ' : fS) : Array Value → State → Outcome → State → Prop := va_Qi (fun (r2 : Int32) (σ2 : fS) => r2 = r ∧ σ2 = σ') (fB Γ) (fAd Γ)
def fQf (Γ : fGm) (r : UInt32) (σ' : fS) : Array Value → State → Outcome → State → Prop := va_Qf (fun (r2 : UInt32) (σ2 : fS) => r2 = r ∧ σ2 = σ') (fB Γ) (fAd Γ)
def fQv (Γ : fGm) (σ' : fS) : Array Value → State → Outcome → State → Prop := va_Qv (fun (σ2 : fS) => σ2 = σ') (fB Γ) (fAd Γ)
theorem fPre_blind (Γ : fGm) (av : List Value) (σ : fS) : FrameBlind (fPre Γ av σ) := fun a U g mk q => by
  obtain ⟨q0, qP, qK, n1, n2, n3⟩ := q
  exact ⟨q0, qP, va_K.moved (u := U) (U := U.calling g mk a) (Vm.Alike.refl U.vm) qK, va_Nw.same (u := U) (U := U.calling g mk a) rfl rfl n1, va_Nw.same (u := U) (U := U.calling g mk a) rfl rfl n2, va_Nw.same (u := U) (U := U.calling g mk a) rfl rfl n3⟩
theorem fw_g {w : Cond} (h : w ∈ lw_tbl) (hg : goodWord w = true) : w ∈ lw_g := List.mem_filter.mpr ⟨h, hg⟩
theorem goodIn_sub0 {ws : List Cond} (hm : ∀ w ∈ ws, w ∈ lw_g) : GoodIn lw_g ws := fun w hw => ⟨hm w hw, good_of_word (List.mem_filter.mp (hm w hw)).2⟩
theorem fgV {own C : String} {index : Nat} {y : MethodName} {b : ByteArray} {n : Nat} {rt : Option FieldType} (h1 : Cond.methodLink own index y ∈ lw_g) (h2 : Cond.instanceMethod y ∈ lw_g) (h3 : Cond.selects C y y ∈ lw_g) (h4 : Cond.initialized C ∈ lw_g) (h5 : Cond.code y b n rt ∈ lw_g) : GoodIn lw_g (wsV own index C y (.code y b n rt :: lw_g)) := by
  refine goodIn_sub0 ?_
  intro w hw
  rcases List.mem_append.mp hw with h | h
  · simp only [List.mem_cons, List.not_mem_nil, or_false] at h
    rcases h with rfl | rfl | rfl | rfl <;> assumption
  · rcases List.mem_cons.mp h with rfl | h
    · exact h5
    · exact h
theorem fgS {own : String} {index : Nat} {y : MethodName} {b : ByteArray} {n : Nat} {rt : Option FieldType} (h1 : Cond.methodLink own index y ∈ lw_g) (h2 : Cond.static y ∈ lw_g) (h4 : Cond.initialized y.cls ∈ lw_g) (h5 : Cond.code y b n rt ∈ lw_g) : GoodIn lw_g (va_wsS own index y (.code y b n rt :: lw_g)) := by
  refine goodIn_sub0 ?_
  intro w hw
  rcases List.mem_append.mp hw with h | h
  · simp only [List.mem_cons, List.not_mem_nil, or_false] at h
    rcases h with rfl | rfl | rfl <;> assumption
  · rcases List.mem_cons.mp h with rfl | h
    · exact h5
    · exact h
theorem fgN {y : MethodName} {b : ByteArray} {n : Nat} {rt : Option FieldType} (h5 : Cond.code y b n rt ∈ lw_g) : GoodIn lw_g (.code y b n rt :: lw_g) := by
  refine goodIn_sub0 ?_
  intro w hw
  rcases List.mem_cons.mp hw with rfl | h
  · exact h5
  · exact h


theorem tw_79 : Cond.classLink "FerryTimetableLaw" 7 "FerryTimetable" ∈ lw_g := fw_g (List.mem_of_getElem? (i := 79) (by decide +kernel)) (by decide +kernel)
theorem tw_80 : Cond.instantiable "FerryTimetable" 9 ∈ lw_g := fw_g (List.mem_of_getElem? (i := 80) (by decide +kernel)) (by decide +kernel)
theorem tw_81 : Cond.methodLink "FerryTimetableLaw" 9 (⟨"FerryTimetable", "<init>", "()V"⟩ : MethodName) ∈ lw_g := fw_g (List.mem_of_getElem? (i := 81) (by decide +kernel)) (by decide +kernel)
theorem tw_82 : Cond.instanceMethod (⟨"FerryTimetable", "<init>", "()V"⟩ : MethodName) ∈ lw_g := fw_g (List.mem_of_getElem? (i := 82) (by decide +kernel)) (by decide +kernel)
theorem tw_83 : Cond.code (⟨"FerryTimetable", "<init>", "()V"⟩ : MethodName) prog_1_method_1_code 1 none ∈ lw_g := fw_g (List.mem_of_getElem? (i := 83) (by decide +kernel)) (by decide +kernel)
theorem tw_856 : Cond.classLink "FerryTimetableLaw" 10 "FerryTimetableModel" ∈ lw_g := fw_g (List.mem_of_getElem? (i := 856) (by decide +kernel)) (by decide +kernel)
theorem tw_857 : Cond.instantiable "FerryTimetableModel" 31 ∈ lw_g := fw_g (List.mem_of_getElem? (i := 857) (by decide +kernel)) (by decide +kernel)
theorem tw_858 : Cond.methodLink "FerryTimetableLaw" 12 (⟨"FerryTimetableModel", "<init>", "()V"⟩ : MethodName) ∈ lw_g := fw_g (List.mem_of_getElem? (i := 858) (by decide +kernel)) (by decide +kernel)
theorem tw_859 : Cond.instanceMethod (⟨"FerryTimetableModel", "<init>", "()V"⟩ : MethodName) ∈ lw_g := fw_g (List.mem_of_getElem? (i := 859) (by decide +kernel)) (by decide +kernel)
theorem tw_860 : Cond.code (⟨"FerryTimetableModel", "<init>", "()V"⟩ : MethodName) prog_10_method_1_code 1 none ∈ lw_g := fw_g (List.mem_of_getElem? (i := 860) (by decide +kernel)) (by decide +kernel)
def fini (k : Nat) : Nat → Int32 := match fD k with
  | (2, 49, 1) => fun _ => 49
  | (2, 48, 1) => fun _ => 48
  | (2, 9, 5) => fun _ => 9
  | (3, _, _) => fun _ => 50
  | (10, _, _) => fun j => if j = 1 then -10004 else 0
  | (12, _, _) => fun j => if j = 8 then -10004 else 0
  | (1, 45, 0) => xSh0
  | (1, 9, 0) => xKi0
  | _ => if k = 165 then upd (fun _ => 0) 97 50 else fun _ => 0
def lad (u v : Nat → Nat) (k : Nat) : Nat := if k < 164 then u k else v (k - 164)
def lwd (Γ : fGm) (u v : Nat → Nat) : va_W := (([] : va_W) ++ xFT Γ 0 u) ++ xMo Γ 0 v
def lGm (Γ : fGm) (u v : Nat → Nat) : fGm := (lad u v, Γ.2)
def lfn (Γ : fGm) (u v : Nat → Nat) (k : Nat) : Nat × va_E := if k = 47 then (u 47, .inl (Γ.2.1.2.2, 6, .inr (.inr (.inr (.inr (va_up (va_up (va_up (va_up (va_up (va_up (fun _ => none) 0 (some (u 48))) 1 (some (u 63))) 2 (some (u 78))) 3 (some (u 93))) 4 (some (u 108))) 5 (some (u 123)))))))) else (lad u v k, fcell (lGm Γ u v) k (fini k))
def lbk (f : Nat → Nat × va_E) (A : va_W) (i n : Nat) : Prop := A.length = n ∧ ∀ j, j < n → A[j]? = some (f (i + j))
theorem lbk_app {f : Nat → Nat × va_E} {A B : va_W} {i n m k : Nat} (hA : lbk f A i n) (hB : lbk f B (i + n) m) (hk : n + m = k) : lbk f (A ++ B) i k := by
  subst hk
  refine ⟨by rw [List.length_append, hA.1, hB.1], fun j hj => ?_⟩
  by_cases h : j < n
  · rw [List.getElem?_append_left (by rw [hA.1]; exact h)]
    exact hA.2 j h
  · rw [List.getElem?_append_right (by rw [hA.1]; omega), hA.1, hB.2 (j - n) (by omega)]
    congr 2
    omega
theorem lbk_cons {f : Nat → Nat × va_E} {c : Nat × va_E} {B : va_W} {i m k : Nat} (hc : c = f i) (hB : lbk f B (i + 1) m) (hk : m + 1 = k) : lbk f (c :: B) i k := by
  subst hk
  refine ⟨by rw [List.length_cons, hB.1], fun j hj => ?_⟩
  cases j with
  | zero => rw [List.getElem?_cons_zero, hc]; rfl
  | succ j => rw [List.getElem?_cons_succ, hB.2 j (by omega)]; congr 2; omega
theorem lb_1 (Γ : fGm) (u v : Nat → Nat) : lbk (lfn Γ u v) (xP Γ 1 u) 1 15 := by
  refine ⟨rfl, ?_⟩
  intro j hj
  match j, hj with
  | 0, _ => rfl
  | 1, _ => rfl
  | 2, _ => rfl
  | 3, _ => rfl
  | 4, _ => rfl
  | 5, _ => rfl
  | 6, _ => rfl
  | 7, _ => rfl
  | 8, _ => rfl
  | 9, _ => rfl
  | 10, _ => rfl
  | 11, _ => rfl
  | 12, _ => rfl
  | 13, _ => rfl
  | 14, _ => rfl
theorem lb_16 (Γ : fGm) (u v : Nat → Nat) : lbk (lfn Γ u v) (xP Γ 16 u) 16 15 := by
  refine ⟨rfl, ?_⟩
  intro j hj
  match j, hj with
  | 0, _ => rfl
  | 1, _ => rfl
  | 2, _ => rfl
  | 3, _ => rfl
  | 4, _ => rfl
  | 5, _ => rfl
  | 6, _ => rfl
  | 7, _ => rfl
  | 8, _ => rfl
  | 9, _ => rfl
  | 10, _ => rfl
  | 11, _ => rfl
  | 12, _ => rfl
  | 13, _ => rfl
  | 14, _ => rfl
theorem lb_31 (Γ : fGm) (u v : Nat → Nat) : lbk (lfn Γ u v) (xP Γ 31 u) 31 15 := by
  refine ⟨rfl, ?_⟩
  intro j hj
  match j, hj with
  | 0, _ => rfl
  | 1, _ => rfl
  | 2, _ => rfl
  | 3, _ => rfl
  | 4, _ => rfl
  | 5, _ => rfl
  | 6, _ => rfl
  | 7, _ => rfl
  | 8, _ => rfl
  | 9, _ => rfl
  | 10, _ => rfl
  | 11, _ => rfl
  | 12, _ => rfl
  | 13, _ => rfl
  | 14, _ => rfl
theorem lb_48 (Γ : fGm) (u v : Nat → Nat) : lbk (lfn Γ u v) (xP Γ 48 u) 48 15 := by
  refine ⟨rfl, ?_⟩
  intro j hj
  match j, hj with
  | 0, _ => rfl
  | 1, _ => rfl
  | 2, _ => rfl
  | 3, _ => rfl
  | 4, _ => rfl
  | 5, _ => rfl
  | 6, _ => rfl
  | 7, _ => rfl
  | 8, _ => rfl
  | 9, _ => rfl
  | 10, _ => rfl
  | 11, _ => rfl
  | 12, _ => rfl
  | 13, _ => rfl
  | 14, _ => rfl
theorem lb_63 (Γ : fGm) (u v : Nat → Nat) : lbk (lfn Γ u v) (xP Γ 63 u) 63 15 := by
  refine ⟨rfl, ?_⟩
  intro j hj
  match j, hj with
  | 0, _ => rfl
  | 1, _ => rfl
  | 2, _ => rfl
  | 3, _ => rfl
  | 4, _ => rfl
  | 5, _ => rfl
  | 6, _ => rfl
  | 7, _ => rfl
  | 8, _ => rfl
  | 9, _ => rfl
  | 10, _ => rfl
  | 11, _ => rfl
  | 12, _ => rfl
  | 13, _ => rfl
  | 14, _ => rfl
theorem lb_78 (Γ : fGm) (u v : Nat → Nat) : lbk (lfn Γ u v) (xP Γ 78 u) 78 15 := by
  refine ⟨rfl, ?_⟩
  intro j hj
  match j, hj with
  | 0, _ => rfl
  | 1, _ => rfl
  | 2, _ => rfl
  | 3, _ => rfl
  | 4, _ => rfl
  | 5, _ => rfl
  | 6, _ => rfl
  | 7, _ => rfl
  | 8, _ => rfl
  | 9, _ => rfl
  | 10, _ => rfl
  | 11, _ => rfl
  | 12, _ => rfl
  | 13, _ => rfl
  | 14, _ => rfl
theorem lb_93 (Γ : fGm) (u v : Nat → Nat) : lbk (lfn Γ u v) (xP Γ 93 u) 93 15 := by
  refine ⟨rfl, ?_⟩
  intro j hj
  match j, hj with
  | 0, _ => rfl
  | 1, _ => rfl
  | 2, _ => rfl
  | 3, _ => rfl
  | 4, _ => rfl
  | 5, _ => rfl
  | 6, _ => rfl
  | 7, _ => rfl
  | 8, _ => rfl
  | 9, _ => rfl
  | 10, _ => rfl
  | 11, _ => rfl
  | 12, _ => rfl
  | 13, _ => rfl
  | 14, _ => rfl
theorem lb_108 (Γ : fGm) (u v : Nat → Nat) : lbk (lfn Γ u v) (xP Γ 108 u) 108 15 := by
  refine ⟨rfl, ?_⟩
  intro j hj
  match j, hj with
  | 0, _ => rfl
  | 1, _ => rfl
  | 2, _ => rfl
  | 3, _ => rfl
  | 4, _ => rfl
  | 5, _ => rfl
  | 6, _ => rfl
  | 7, _ => rfl
  | 8, _ => rfl
  | 9, _ => rfl
  | 10, _ => rfl
  | 11, _ => rfl
  | 12, _ => rfl
  | 13, _ => rfl
  | 14, _ => rfl
theorem lb_123 (Γ : fGm) (u v : Nat → Nat) : lbk (lfn Γ u v) (xP Γ 123 u) 123 15 := by
  refine ⟨rfl, ?_⟩
  intro j hj
  match j, hj with
  | 0, _ => rfl
  | 1, _ => rfl
  | 2, _ => rfl
  | 3, _ => rfl
  | 4, _ => rfl
  | 5, _ => rfl
  | 6, _ => rfl
  | 7, _ => rfl
  | 8, _ => rfl
  | 9, _ => rfl
  | 10, _ => rfl
  | 11, _ => rfl
  | 12, _ => rfl
  | 13, _ => rfl
  | 14, _ => rfl
theorem lb_47 (Γ : fGm) (u v : Nat → Nat) : lbk (lfn Γ u v) ([(u 47, .inl (Γ.2.1.2.2, 6, .inr (.inr (.inr (.inr (va_up (va_up (va_up (va_up (va_up (va_up (fun _ => none) 0 (some (u 48))) 1 (some (u 63))) 2 (some (u 78))) 3 (some (u 93))) 4 (some (u 108))) 5 (some (u 123))))))))]) 47 1 := by
  refine ⟨rfl, ?_⟩
  intro j hj
  match j, hj with
  | 0, _ => rfl
theorem lb_138 (Γ : fGm) (u v : Nat → Nat) : lbk (lfn Γ u v) (xDe Γ 138 u) 138 7 := by
  unfold xDe
  simp only [List.cons_append, List.nil_append]
  refine ⟨rfl, ?_⟩
  intro j hj
  match j, hj with
  | 0, _ => rfl
  | 1, _ => rfl
  | 2, _ => rfl
  | 3, _ => rfl
  | 4, _ => rfl
  | 5, _ => rfl
  | 6, _ => rfl
theorem lb_145 (Γ : fGm) (u v : Nat → Nat) : lbk (lfn Γ u v) (xLo Γ 145 u) 145 12 := by
  unfold xLo
  simp only [List.cons_append, List.nil_append]
  refine ⟨rfl, ?_⟩
  intro j hj
  match j, hj with
  | 0, _ => rfl
  | 1, _ => rfl
  | 2, _ => rfl
  | 3, _ => rfl
  | 4, _ => rfl
  | 5, _ => rfl
  | 6, _ => rfl
  | 7, _ => rfl
  | 8, _ => rfl
  | 9, _ => rfl
  | 10, _ => rfl
  | 11, _ => rfl
theorem lb_157 (Γ : fGm) (u v : Nat → Nat) : lbk (lfn Γ u v) (xTx Γ 157 u) 157 4 := by
  refine ⟨rfl, ?_⟩
  intro j hj
  match j, hj with
  | 0, _ => rfl
  | 1, _ => rfl
  | 2, _ => rfl
  | 3, _ => rfl
theorem lb_161 (Γ : fGm) (u v : Nat → Nat) : lbk (lfn Γ u v) (xSh Γ 161 u) 161 3 := by
  refine ⟨rfl, ?_⟩
  intro j hj
  match j, hj with
  | 0, _ => rfl
  | 1, _ => rfl
  | 2, _ => rfl
theorem lb_164 (Γ : fGm) (u v : Nat → Nat) : lbk (lfn Γ u v) (xMo Γ 0 v) 164 25 := by
  unfold xMo
  simp only [List.cons_append, List.nil_append]
  refine ⟨rfl, ?_⟩
  intro j hj
  match j, hj with
  | 0, _ => rfl
  | 1, _ => rfl
  | 2, _ => rfl
  | 3, _ => rfl
  | 4, _ => rfl
  | 5, _ => rfl
  | 6, _ => rfl
  | 7, _ => rfl
  | 8, _ => rfl
  | 9, _ => rfl
  | 10, _ => rfl
  | 11, _ => rfl
  | 12, _ => rfl
  | 13, _ => rfl
  | 14, _ => rfl
  | 15, _ => rfl
  | 16, _ => rfl
  | 17, _ => rfl
  | 18, _ => rfl
  | 19, _ => rfl
  | 20, _ => rfl
  | 21, _ => rfl
  | 22, _ => rfl
  | 23, _ => rfl
  | 24, _ => rfl
  | j + 25, hj => exact absurd hj (by omega)
theorem lb_46 (Γ : fGm) (u v : Nat → Nat) : lbk (lfn Γ u v) (xHi Γ 46 u) 46 92 :=
  lbk_cons rfl (lbk_app (lbk_app (lbk_app (lbk_app (lbk_app (lbk_app (lb_47 Γ u v) (lb_48 Γ u v) rfl) (lb_63 Γ u v) rfl) (lb_78 Γ u v) rfl) (lb_93 Γ u v) rfl) (lb_108 Γ u v) rfl) (lb_123 Γ u v) rfl) rfl
theorem lb_0 (Γ : fGm) (u v : Nat → Nat) : lbk (lfn Γ u v) (xFT Γ 0 u) 0 164 :=
  lbk_cons rfl (lbk_app (lbk_app (lbk_app (lbk_app (lbk_app (lbk_app (lbk_app (lb_1 Γ u v) (lb_16 Γ u v) rfl) (lb_31 Γ u v) rfl) (lb_46 Γ u v) rfl) (lb_138 Γ u v) rfl) (lb_145 Γ u v) rfl) (lb_157 Γ u v) rfl) (lb_161 Γ u v) rfl) rfl
theorem lb_all (Γ : fGm) (u v : Nat → Nat) : lbk (lfn Γ u v) (lwd Γ u v) 0 189 := lbk_app (by rw [List.nil_append]; exact lb_0 Γ u v) (lb_164 Γ u v) rfl
theorem lwd_get {Γ : fGm} {u v : Nat → Nat} {k : Nat} (hk : k < 189) (h : k ≠ 47) : (lwd Γ u v)[k]? = some (lad u v k, fcell (lGm Γ u v) k (fini k)) := by
  rw [(lb_all Γ u v).2 k hk, Nat.zero_add]
  unfold lfn
  rw [if_neg h]
theorem lwd_47 {Γ : fGm} {u v : Nat → Nat} : ∃ e, (lwd Γ u v)[47]? = some (lad u v 47, .inl (Γ.2.1.2.2, 6, .inr (.inr (.inr (.inr e))))) ∧ ∀ j, j < 6 → e j = some (lad u v (48 + 15 * j)) := by
  refine ⟨_, (lb_all Γ u v).2 47 (by decide), ?_⟩
  intro j hj
  match j, hj with
  | 0, _ => rfl
  | 1, _ => rfl
  | 2, _ => rfl
  | 3, _ => rfl
  | 4, _ => rfl
  | 5, _ => rfl
theorem larr {c : ClassId} {n : Nat} {f g : Nat → Value} (h : ∀ j, j < n → f j = g j) : arrV c n f = arrV c n g := by
  unfold arrV
  congr 2
  funext j
  exact h j.1 j.2
theorem lwd_P {Γ : fGm} {u v : Nat → Nat} {H : Heap} (h : va_P Γ.2.2 vwCl (lwd Γ u v) H) : fH (lGm Γ u v) fini H := by
  intro k q hq
  obtain ⟨hk, rfl⟩ := fws_inv hq
  by_cases h47 : k = 47
  · subst h47
    obtain ⟨e, he, hj⟩ := lwd_47 (Γ := Γ) (u := u) (v := v)
    have h1 : H[lad u v 47]? = some (vp_cell Γ.2.1.2.2 (6, .inr (.inr (.inr (.inr e))))) := h 47 _ he
    show H[lad u v 47]? = some (vp_cell Γ.2.1.2.2 (6, .inr (.inr (.inr (.inr (fun i => some (lad u v (48 + 15 * i))))))))
    rw [h1, vp_cell_q, vp_cell_q]
    rw [larr (fun j hj6 => by rw [hj j hj6])]
  · exact h k _ (lwd_get hk h47)
theorem lwd_at {Γ : fGm} {u v : Nat → Nat} {k : Nat} (hk : k < 189) : ∃ e, (lwd Γ u v)[k]? = some (lad u v k, e) := by
  by_cases h47 : k = 47
  · subst h47
    obtain ⟨e, he, _⟩ := lwd_47 (Γ := Γ) (u := u) (v := v)
    exact ⟨_, he⟩
  · exact ⟨_, lwd_get hk h47⟩
theorem lwd_I {Γ : fGm} {u v : Nat → Nat} {A : Nat → Prop} (h : va_D A (lwd Γ u v)) : fI (lGm Γ u v) ∧ ∀ q, fAd (lGm Γ u v) q → A q := by
  refine ⟨fun i j hi hj hij => ?_, fun q hq => ?_⟩
  · obtain ⟨e1, h1⟩ := lwd_at (Γ := Γ) (u := u) (v := v) hi
    obtain ⟨e2, h2⟩ := lwd_at (Γ := Γ) (u := u) (v := v) hj
    exact h.1 i j _ _ h1 h2 hij
  · obtain ⟨k, hk, rfl⟩ := hq
    obtain ⟨e1, h1⟩ := lwd_at (Γ := Γ) (u := u) (v := v) hk
    exact h.2 k _ h1

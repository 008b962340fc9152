/-! ===== rows for constructors: the world is ws ++ B, B the block under way ===== -/
theorem xa_get {α : Type} (ws B : List α) (j : Nat) : (ws ++ B)[ws.length + j]? = B[j]? := by
  rw [List.getElem?_append_right (Nat.le_add_right _ _), Nat.add_sub_cancel_left]
theorem xa_set {α : Type} (ws B : List α) (j : Nat) (c : α) : (ws ++ B).set (ws.length + j) c = ws ++ B.set j c := by
  rw [List.set_append_right _ _ (Nat.le_add_right _ _), Nat.add_sub_cancel_left]
def xK (Γ : fGm) (U : State) : Prop := va_K Γ.2.2 vwCl (ftys Γ) U ∧ va_AO "FerryTimetable$Port" U
theorem xK.moved {Γ : fGm} {s U : State} (h : xK Γ s) (hW : s.vm.Alike U.vm) : xK Γ U := ⟨va_K.moved hW h.1, va_AO.moved hW h.2⟩
def xC (Γ : fGm) (p : Program) (s : State) (m : MethodId) (args : Array Value) (meth : Method) (c : Code) (cc : ByteArray) (own : String) (nL : Nat) : Prop :=
  p.tables.exec = Jvm.exec ∧ c.code = cc ∧ meth.sig.returnType = none ∧ c.maxLocals = nL ∧ s.vm.findClass own = some m.cls ∧ (∀ w ∈ lw_g, w.before args s = true) ∧ meth.locks = false ∧ xK Γ s ∧ meth.name = "<init>"
def xPre (Γ : fGm) (W0 : va_W) (sz : Nat) (U : State) : Prop := U.heap.size = sz ∧ va_P Γ.2.2 vwCl W0 U.heap ∧ xK Γ U ∧ va_D (fun _ => True) W0
def xB (Γ : fGm) (A : Nat → Prop) (W1 : (Nat → Nat) → va_W) (u : Nat → Nat) (t : State) : Prop := va_P Γ.2.2 vwCl (W1 u) t.heap ∧ va_D A (W1 u)
def xM (l : Launch) (Γ : fGm) (y : MethodName) (bytes : ByteArray) (maxL : Nat) (rm : Room) (e0 : va_E) (av : List Value) (blk : (Nat → Nat) → va_W) : Prop :=
  ∀ (ws : va_W) (a sz : Nat), Met l y (.code y bytes maxL none :: lw_g) rm (va_Pc (.ref a :: av) (xPre Γ (ws ++ [(a, e0)]) sz)) (va_Qv (fun (u : Nat → Nat) => u 0 = a) (xB Γ (va_A (ws ++ [(a, e0)]) sz) (fun u => ws ++ blk u)) (va_A (ws ++ [(a, e0)]) sz)) rm.cells rm.slots (va_A (ws ++ [(a, e0)]) sz)
theorem xPre_blind (Γ : fGm) (av : List Value) (W0 : va_W) (sz : Nat) : FrameBlind (va_Pc av (xPre Γ W0 sz)) := fun a U g mk q => by
  obtain ⟨q0, q1, qP, qK, qD⟩ := q
  exact ⟨q0, q1, qP, qK.moved (U := U.calling g mk a) (Vm.Alike.refl U.vm), qD⟩
section XR
variable {p : Program} {l : Launch} {e : Env} {R : Room} {s : State} {m : MethodId} {args : Array Value} {below : List Frame} {meth : Method} {c : Code} {H : Heap} {locs : List Loc} {Q : State → Prop}
variable {Γ : fGm} {cc : ByteArray} {own : String} {nL pc cells slots : Nat} {ls : Array Slot} {rest : List Value} {ws B : va_W} {A : Nat → Prop}
theorem xr_obj (C : xC Γ p s m args meth c cc own nL) (hsz : ls.size = nL) {idx a : Nat} (h1 : Cond.methodLink own idx Lib.objectInit ∈ lw_g) (h2 : Cond.instanceMethod Lib.objectInit ∈ lw_g) (h3 : Cond.code Lib.objectInit ⟨#[0xb1]⟩ 1 none ∈ lw_g) (hdg : decode cc pc = .ok (.invokespecial idx, 3)) (hframes : 1 ≤ R.frames) (hlocals : (rest.map fun v => v.category).sum + 12 ≤ R.locals) (kk : W p l e R s m args below meth c H locs cells slots Q (F0 m (pc + 3) ls rest)) : W p l e R s m args below meth c H locs cells slots Q (F0 m pc ls (.ref a :: rest)) :=
  W.objInit C.1 C.2.1 C.2.2.2.2.1 (C.2.2.2.2.2.1 _ h1) (C.2.2.2.2.2.1 _ h2) (C.2.2.2.2.2.1 _ h3) rfl (hsz.trans C.2.2.2.1.symm) rfl hdg hframes (by show 2 * 0 + _ + 12 ≤ _; omega) kk
theorem xr_new (C : xC Γ p s m args meth c cc own nL) (hP : va_P Γ.2.2 vwCl (ws ++ B) H) (hD : va_D A (ws ++ B)) (hS : va_S A s.heap H locs) (hA : ∀ q, s.heap.size ≤ q → A q) {ci N index : Nat} {Cn : String} {T : u_T} (hc : vwCl[ci]? = some (Cn, T, N)) (hin : ∀ w ∈ u_ws Cn T N, w ∈ lw_g) (ty : Nat → FieldType) (hty : ∀ k, k < N → parseFieldDescriptor (T k).2.2.1 = some (ty k)) (h1 : Cond.classLink own index Cn ∈ lw_g) (h2 : Cond.instantiable Cn N ∈ lw_g) (h3 : Cond.initialized Cn ∈ lw_g) {fs : List Value} (hfs : ∀ j, j < N → defaultValue (ty j) = vp_V fs j) {c' s' : Nat} (hc' : cells + 1 = c') (hs' : slots + N = s') (hcR : c' ≤ R.cells) (hsR : s' ≤ R.slots) (hdg : decode cc pc = .ok (.new index, 3))
    (kk : ∀ (q : Nat) (H1 : Heap), va_P Γ.2.2 vwCl ((ws ++ B) ++ [(q, .inr (ci, fs))]) H1 → va_D A ((ws ++ B) ++ [(q, .inr (ci, fs))]) → va_S A s.heap H1 locs → W p l e R s m args below meth c H1 locs c' s' Q (F0 m (pc + 3) ls (.ref q :: rest))) : W p l e R s m args below meth c H locs cells slots Q (F0 m pc ls rest) := by
  subst hc'
  subst hs'
  exact va_new C.1 C.2.1 C.2.2.2.2.2.1 hin ty hty C.2.2.2.2.1 (C.2.2.2.2.2.1 _ h1) (C.2.2.2.2.2.1 _ h2) (C.2.2.2.2.2.1 _ h3) C.2.2.2.2.2.2.2.1.1 hP hD hS hA hc hfs hcR hsR hdg (fun q H1 hP hD hS => kk q H1 hP hD hS)
theorem xr_newi (C : xC Γ p s m args meth c cc own nL) (hP : va_P Γ.2.2 vwCl (ws ++ B) H) (hD : va_D A (ws ++ B)) (hS : va_S A s.heap H locs) (hA : ∀ q, s.heap.size ≤ q → A q) (h1 : Cond.arrayClass .int ∈ lw_g) {n : Int32} {N : Nat} (hn : ¬ n < 0) (hN : n.toNatClampNeg = N) (hb : N * 4 ≤ 536870912) {c' s' : Nat} (hc' : cells + 1 = c') (hs' : slots + N = s') (hcR : c' ≤ R.cells) (hsR : s' ≤ R.slots) (hdg : decode cc pc = .ok (.newarray .int, 2))
    (kk : ∀ (q : Nat) (H1 : Heap), va_P Γ.2.2 vwCl (ws ++ (B ++ [(q, .inl (Γ.2.1.1, N, .inl (fun _ => 0)))])) H1 → va_D A (ws ++ (B ++ [(q, .inl (Γ.2.1.1, N, .inl (fun _ => 0)))])) → va_S A s.heap H1 locs → W p l e R s m args below meth c H1 locs c' s' Q (F0 m (pc + 2) ls (.ref q :: rest))) : W p l e R s m args below meth c H locs cells slots Q (F0 m pc ls (.int n :: rest)) := by
  subst hc'
  subst hs'
  refine va_newa (atype := .int) (ty := .int) (a0 := (N, .inl (fun _ => 0))) C.1 C.2.1 (C.2.2.2.2.2.1 _ h1) rfl C.2.2.2.2.2.2.2.1.1 hP hD hS hA (fun cA => vp_cell_i cA N _) hn hN hb hcR hsR hdg (fun q cA H1 hK hP hD hS => ?_)
  have e1 : s.vm.findClass ("[" ++ (FieldType.int).toString) = some cA := (hK.2 3 (cA, .int) rfl).2
  have e2 : s.vm.findClass ("[" ++ (FieldType.int).toString) = some Γ.2.1.1 := (C.2.2.2.2.2.2.2.1.1.2 0 (Γ.2.1.1, .int) rfl).2
  have e3 : cA = Γ.2.1.1 := Option.some.inj (e1.symm.trans e2)
  subst e3
  rw [List.append_assoc] at hP hD
  exact kk q H1 hP hD hS
theorem xr_newc (C : xC Γ p s m args meth c cc own nL) (hP : va_P Γ.2.2 vwCl (ws ++ B) H) (hD : va_D A (ws ++ B)) (hS : va_S A s.heap H locs) (hA : ∀ q, s.heap.size ≤ q → A q) (h1 : Cond.arrayClass .char ∈ lw_g) {n : Int32} {N : Nat} (hn : ¬ n < 0) (hN : n.toNatClampNeg = N) (hb : N * 2 ≤ 536870912) {c' s' : Nat} (hc' : cells + 1 = c') (hs' : slots + N = s') (hcR : c' ≤ R.cells) (hsR : s' ≤ R.slots) (hdg : decode cc pc = .ok (.newarray .char, 2))
    (kk : ∀ (q : Nat) (H1 : Heap), va_P Γ.2.2 vwCl (ws ++ (B ++ [(q, .inl (Γ.2.1.2.1, N, .inl (fun _ => 0)))])) H1 → va_D A (ws ++ (B ++ [(q, .inl (Γ.2.1.2.1, N, .inl (fun _ => 0)))])) → va_S A s.heap H1 locs → W p l e R s m args below meth c H1 locs c' s' Q (F0 m (pc + 2) ls (.ref q :: rest))) : W p l e R s m args below meth c H locs cells slots Q (F0 m pc ls (.int n :: rest)) := by
  subst hc'
  subst hs'
  refine va_newa (atype := .char) (ty := .char) (a0 := (N, .inl (fun _ => 0))) C.1 C.2.1 (C.2.2.2.2.2.1 _ h1) rfl C.2.2.2.2.2.2.2.1.1 hP hD hS hA (fun cA => vp_cell_i cA N _) hn hN hb hcR hsR hdg (fun q cA H1 hK hP hD hS => ?_)
  have e1 : s.vm.findClass ("[" ++ (FieldType.char).toString) = some cA := (hK.2 3 (cA, .char) rfl).2
  have e2 : s.vm.findClass ("[" ++ (FieldType.char).toString) = some Γ.2.1.2.1 := (C.2.2.2.2.2.2.2.1.1.2 1 (Γ.2.1.2.1, .char) rfl).2
  have e3 : cA = Γ.2.1.2.1 := Option.some.inj (e1.symm.trans e2)
  subst e3
  rw [List.append_assoc] at hP hD
  exact kk q H1 hP hD hS
theorem xr_newp (C : xC Γ p s m args meth c cc own nL) (hP : va_P Γ.2.2 vwCl (ws ++ B) H) (hD : va_D A (ws ++ B)) (hS : va_S A s.heap H locs) (hA : ∀ q, s.heap.size ≤ q → A q) {index : Nat} (h1 : Cond.classLink own index "FerryTimetable$Port" ∈ lw_g) {n : Int32} {N : Nat} (hn : ¬ n < 0) (hN : n.toNatClampNeg = N) (hb : N * 4 ≤ 536870912) {c' s' : Nat} (hc' : cells + 1 = c') (hs' : slots + N = s') (hcR : c' ≤ R.cells) (hsR : s' ≤ R.slots) (hdg : decode cc pc = .ok (.anewarray index, 3))
    (kk : ∀ (q : Nat) (H1 : Heap), va_P Γ.2.2 vwCl (ws ++ (B ++ [(q, .inl (Γ.2.1.2.2, N, .inr (.inr (.inr (.inr (fun _ => none))))))])) H1 → va_D A (ws ++ (B ++ [(q, .inl (Γ.2.1.2.2, N, .inr (.inr (.inr (.inr (fun _ => none))))))])) → va_S A s.heap H1 locs → W p l e R s m args below meth c H1 locs c' s' Q (F0 m (pc + 3) ls (.ref q :: rest))) : W p l e R s m args below meth c H locs cells slots Q (F0 m pc ls (.int n :: rest)) := by
  subst hc'
  subst hs'
  refine va_newq (C := "FerryTimetable$Port") C.1 C.2.1 C.2.2.2.2.1 (C.2.2.2.2.2.1 _ h1) C.2.2.2.2.2.2.2.1.2 C.2.2.2.2.2.2.2.1.1 hP hD hS hA hn hN hb hcR hsR hdg (fun q cA H1 hK hP hD hS => ?_)
  obtain ⟨_, _, _, _, _, e1⟩ := (hK.2 3 (cA, .object "FerryTimetable$Port") rfl).2
  obtain ⟨_, _, _, _, _, e2⟩ := (C.2.2.2.2.2.2.2.1.1.2 2 (Γ.2.1.2.2, .object "FerryTimetable$Port") rfl).2
  have e3 : cA = Γ.2.1.2.2 := Option.some.inj (e1.symm.trans e2)
  subst e3
  rw [List.append_assoc] at hP hD
  exact kk q H1 hP hD hS
theorem xr_putF (C : xC Γ p s m args meth c cc own nL) (hP : va_P Γ.2.2 vwCl (ws ++ B) H) (hD : va_D A (ws ++ B)) (hS : va_S A s.heap H locs) (j : Nat) {ci i N index a : Nat} {fs : List Value} {Cn : String} {T : u_T} {v : Value} (he : B[j]? = some (a, .inr (ci, fs))) {B' : va_W} (he2 : B.set j (a, .inr (ci, fs.set i v)) = B') (hc : vwCl[ci]? = some (Cn, T, N)) (hin : ∀ w ∈ u_ws Cn T N, w ∈ lw_g) (ty0 : Nat → FieldType) (hty : ∀ k, k < N → parseFieldDescriptor (T k).2.2.1 = some (ty0 k)) (hnm : ∀ a, a < N → ∀ b, b < N → a ≠ b → (T a).2.1 ≠ (T b).2.1) (hi : i < N) (hlink : Cond.fieldLink own index (T i).1 (T i).2.1 (T i).2.2.1 ∈ lw_g) (hfin : (T i).2.2.2 = true) (hdecl : (T i).1 = own) (hn : narrow (ty0 i) v = v) (hfit : fits (ty0 i) v = true) (hl : i < fs.length) (hdg : decode cc pc = .ok (.putfield index, 3))
    (kk : ∀ (H1 : Heap) (locs1 : List Loc), va_P Γ.2.2 vwCl (ws ++ B') H1 → va_D A (ws ++ B') → va_S A s.heap H1 locs1 → W p l e R s m args below meth c H1 locs1 cells slots Q (F0 m (pc + 3) ls rest)) : W p l e R s m args below meth c H locs cells slots Q (F0 m pc ls (v :: .ref a :: rest)) := by
  subst he2
  refine va_putF (D := Γ.2.2) C.1 C.2.1 C.2.2.2.2.2.1 hin ty0 hty hnm C.2.2.2.2.1 C.2.2.2.2.2.2.2.1.1 hP hD hS (ws.length + j) (by rw [xa_get, he]) hc i hi (C.2.2.2.2.2.1 _ hlink) (fun _ h => h) hfin C.2.2.2.2.2.2.2.2 hdecl (hty i hi) hn hfit hl hdg (fun H1 locs1 hP1 hD1 hS1 => ?_)
  rw [xa_set] at hP1 hD1
  exact kk H1 locs1 hP1 hD1 hS1
theorem xr_put (C : xC Γ p s m args meth c cc own nL) (hP : va_P Γ.2.2 vwCl (ws ++ B) H) (hD : va_D A (ws ++ B)) (hS : va_S A s.heap H locs) (j : Nat) {ci i N index a : Nat} {fs : List Value} {Cn : String} {T : u_T} {v : Value} (he : B[j]? = some (a, .inr (ci, fs))) {B' : va_W} (he2 : B.set j (a, .inr (ci, fs.set i v)) = B') (hc : vwCl[ci]? = some (Cn, T, N)) (hin : ∀ w ∈ u_ws Cn T N, w ∈ lw_g) (ty0 : Nat → FieldType) (hty : ∀ k, k < N → parseFieldDescriptor (T k).2.2.1 = some (ty0 k)) (hnm : ∀ a, a < N → ∀ b, b < N → a ≠ b → (T a).2.1 ≠ (T b).2.1) (hi : i < N) (hlink : Cond.fieldLink own index (T i).1 (T i).2.1 (T i).2.2.1 ∈ lw_g) (hfin : (T i).2.2.2 = false) (hn : narrow (ty0 i) v = v) (hfit : fits (ty0 i) v = true) (hl : i < fs.length) (hdg : decode cc pc = .ok (.putfield index, 3))
    (kk : ∀ (H1 : Heap) (locs1 : List Loc), va_P Γ.2.2 vwCl (ws ++ B') H1 → va_D A (ws ++ B') → va_S A s.heap H1 locs1 → W p l e R s m args below meth c H1 locs1 cells slots Q (F0 m (pc + 3) ls rest)) : W p l e R s m args below meth c H locs cells slots Q (F0 m pc ls (v :: .ref a :: rest)) := by
  subst he2
  refine va_put (D := Γ.2.2) C.1 C.2.1 C.2.2.2.2.2.1 hin ty0 hty hnm C.2.2.2.2.1 C.2.2.2.2.2.2.2.1.1 hP hD hS (ws.length + j) (by rw [xa_get, he]) hc i hi (C.2.2.2.2.2.1 _ hlink) (fun _ h => h) hfin (hty i hi) hn hfit hl hdg (fun H1 locs1 hP1 hD1 hS1 => ?_)
  rw [xa_set] at hP1 hD1
  exact kk H1 locs1 hP1 hD1 hS1
theorem xr_get (C : xC Γ p s m args meth c cc own nL) (hP : va_P Γ.2.2 vwCl (ws ++ B) H) (j : Nat) {ci i N index a : Nat} {fs : List Value} {Cn : String} {T : u_T} {v : Value} (he : B[j]? = some (a, .inr (ci, fs))) (hc : vwCl[ci]? = some (Cn, T, N)) (hin : ∀ w ∈ u_ws Cn T N, w ∈ lw_g) (hi : i < N) (hlink : Cond.fieldLink own index (T i).1 (T i).2.1 (T i).2.2.1 ∈ lw_g) (hv : fs[i]? = some v) (hdg : decode cc pc = .ok (.getfield index, 3)) (kk : W p l e R s m args below meth c H locs cells slots Q (F0 m (pc + 3) ls (v :: rest))) : W p l e R s m args below meth c H locs cells slots Q (F0 m pc ls (.ref a :: rest)) :=
  va_get (D := Γ.2.2) C.1 C.2.1 C.2.2.2.2.2.1 hin C.2.2.2.2.1 C.2.2.2.2.2.2.2.1.1 hP (ws.length + j) (by rw [xa_get, he]) hc i hi (C.2.2.2.2.2.1 _ hlink) (fun _ h => h) hv hdg kk
theorem xr_iast (C : xC Γ p s m args meth c cc own nL) (hP : va_P Γ.2.2 vwCl (ws ++ B) H) (hD : va_D A (ws ++ B)) (hS : va_S A s.heap H locs) (j : Nat) {a n : Nat} {f : Nat → Int32} {i x : Int32} (he : B[j]? = some (a, .inl (Γ.2.1.1, n, .inl f))) {B' : va_W} (he2 : B.set j (a, .inl (Γ.2.1.1, n, .inl (upd f i.toNatClampNeg x))) = B') (hin : vp_in i n) (hdg : decode cc pc = .ok (.iastore, 1))
    (kk : ∀ (H1 : Heap) (locs1 : List Loc), va_P Γ.2.2 vwCl (ws ++ B') H1 → va_D A (ws ++ B') → va_S A s.heap H1 locs1 → W p l e R s m args below meth c H1 locs1 cells slots Q (F0 m (pc + 1) ls rest)) : W p l e R s m args below meth c H locs cells slots Q (F0 m pc ls (.int x :: .int i :: .ref a :: rest)) := by
  subst he2
  refine va_iast (D := Γ.2.2) C.1 C.2.1 C.2.2.2.2.2.2.2.1.1 hP hD hS (ws.length + j) 0 (by rw [xa_get, he]) rfl hin hdg (fun H1 locs1 hP1 hD1 hS1 => ?_)
  rw [xa_set] at hP1 hD1
  exact kk H1 locs1 hP1 hD1 hS1
theorem xr_aast (C : xC Γ p s m args meth c cc own nL) (hP : va_P Γ.2.2 vwCl (ws ++ B) H) (hD : va_D A (ws ++ B)) (hS : va_S A s.heap H locs) (j jv : Nat) {a n v : Nat} {vs : List Value} {f : Nat → Option Nat} {i : Int32} (he : B[j]? = some (a, .inl (Γ.2.1.2.2, n, .inr (.inr (.inr (.inr f)))))) (hv : B[jv]? = some (v, .inr (3, vs))) {B' : va_W} (he2 : B.set j (a, .inl (Γ.2.1.2.2, n, .inr (.inr (.inr (.inr (va_up f i.toNatClampNeg (some v))))))) = B') (hin : vp_in i n) (hdg : decode cc pc = .ok (.aastore, 1))
    (kk : ∀ (H1 : Heap) (locs1 : List Loc), va_P Γ.2.2 vwCl (ws ++ B') H1 → va_D A (ws ++ B') → va_S A s.heap H1 locs1 → W p l e R s m args below meth c H1 locs1 cells slots Q (F0 m (pc + 1) ls rest)) : W p l e R s m args below meth c H locs cells slots Q (F0 m pc ls (.ref v :: .int i :: .ref a :: rest)) := by
  subst he2
  refine va_astq (D := Γ.2.2) (r := (RX3, TX3, 8)) C.1 C.2.1 C.2.2.2.2.2.2.2.1.1 hP hD hS (ws.length + j) 2 (ws.length + jv) 3 (by rw [xa_get, he]) rfl (by rw [xa_get, hv]) rfl hin hdg (fun H1 locs1 hP1 hD1 hS1 => ?_)
  rw [xa_set] at hP1 hD1
  exact kk H1 locs1 hP1 hD1 hS1
theorem xr_call (C : xC Γ p s m args meth c cc own nL) (hsz : ls.size = nL) {q : Nat} {e0 : va_E} (hP : va_P Γ.2.2 vwCl ((ws ++ B) ++ [(q, e0)]) H) (hD : va_D A ((ws ++ B) ++ [(q, e0)])) (hS : va_S A s.heap H locs) (hA : ∀ q, s.heap.size ≤ q → A q) {y : MethodName} {bytes : ByteArray} {maxL index n : Nat} {rm : Room} {av : List Value} {blk : (Nat → Nat) → va_W} (hM : xM l Γ y bytes maxL rm e0 av blk) (h1 : Cond.methodLink own index y ∈ lw_g) (h2 : Cond.instanceMethod y ∈ lw_g) (h3 : Cond.initialized y.cls ∈ lw_g) (h4 : Cond.code y bytes maxL none ∈ lw_g) (hy : y.name = "<init>") (hd : y.cls ≠ "java/lang/invoke/MethodHandle" ∧ y.cls ≠ "java/lang/invoke/VarHandle" ∧ (parseMethodDescriptor y.desc).map (fun d => d.parameters.length) = some n) (hR : rm.frames + 1 ≤ R.frames ∧ 8 + (maxL + 11) + rm.locals ≤ R.locals) (hn : av.length = n) {c' s' : Nat} (hc' : cells + rm.cells = c') (hs' : slots + rm.slots = s') (hcR : c' ≤ R.cells) (hsR : s' ≤ R.slots) {st0 : List Value} (hstack : st0 = av.reverse ++ .ref q :: rest) (hrest : (rest.map fun v => v.category).sum ≤ 8) (hdg : decode cc pc = .ok (.invokespecial index, 3))
    (kk : ∀ (u : Nat → Nat) (H1 : Heap) (locs1 : List Loc), u 0 = q → va_P Γ.2.2 vwCl (ws ++ (B ++ blk u)) H1 → va_D A (ws ++ (B ++ blk u)) → va_S A s.heap H1 locs1 → W p l e R s m args below meth c H1 locs1 c' s' Q (F0 m (pc + 3) ls rest)) : W p l e R s m args below meth c H locs cells slots Q (F0 m pc ls st0) := by
  subst hstack
  subst hc'
  subst hs'
  have hF : ∀ x, va_A ((ws ++ B) ++ [(q, e0)]) H.size x → A x := by
    intro x h
    rcases h with ⟨k, e1, h⟩ | h
    · exact hD.2 k _ h
    · exact hA x (Nat.le_trans hS.1 h)
  refine va_callv (va_runI (Ts := lw_g) (own := own) (n := n) ⟨C.1, C.2.1, C.2.2.2.1, C.2.2.2.2.1, C.2.2.2.2.2.1⟩ (hM (ws ++ B) q H.size) (cwI n C.2.2.2.2.2.1 (fgN h4) rfl rfl rfl (C.2.2.2.2.2.1 _ h3) (C.2.2.2.2.2.1 _ h1) (C.2.2.2.2.2.1 _ h2) hy hd hR) ⟨xPre_blind Γ _ _ _, fun U hU hW => ⟨rfl, by rw [hU], by rw [hU]; exact hP, C.2.2.2.2.2.2.2.1.moved hW.alike, hD.weaken (fun _ _ _ _ => trivial)⟩⟩ rfl hn hsz rfl (lv_room hrest) hdg ⟨hcR, hsR⟩) hS (fun x _ h => hF x h) hF (fun u t H1 locs1 ht _ hw hB _ _ hS1 => ?_)
  obtain ⟨hP1, hD1⟩ := hB
  rw [ht] at hP1
  have hD2 : va_D A (ws ++ B ++ blk u) := va_D.weaken hD1 (fun k x _ h => hF x.1 h)
  have hP2 : va_P Γ.2.2 vwCl (ws ++ B ++ blk u) H1 := hP1
  rw [List.append_assoc] at hP2 hD2
  exact kk u H1 locs1 hw hP2 hD2 hS1
theorem xr_ret {mc ms : Nat} {W0 : va_W} {sz : Nat} {blk : (Nat → Nat) → va_W} {a : Nat} (C : xC Γ p s m args meth c cc own nL) (u : Nat → Nat) (hu : u 0 = a) (hB : B = blk u) (hP : va_P Γ.2.2 vwCl (ws ++ B) H) (hD : va_D (va_A W0 sz) (ws ++ B)) (hS : va_S (va_A W0 sz) s.heap H locs) (hc : cells ≤ mc) (hs : slots ≤ ms) (hdg : decode cc pc = .ok (.return_, 1)) : W p l e R s m args below meth c H locs cells slots (MQ below (va_Qv (fun (u : Nat → Nat) => u 0 = a) (xB Γ (va_A W0 sz) (fun u => ws ++ blk u)) (va_A W0 sz)) args s mc ms (va_A W0 sz)) (F0 m pc ls []) := by
  subst hB
  refine W.widen hc hs ?_
  exact W.vret C.1 C.2.1 C.2.2.1 (fun t ht _ => ⟨⟨u, rfl, hu, by rw [ht]; exact hP, hD⟩, hS.F ht⟩) hS.2.2 hdg C.2.2.2.2.2.2.1
end XR
theorem xr_enter {Γ : fGm} {l : Launch} {y : MethodName} {cc : ByteArray} {maxL : Nat} {rm : Room} {e0 : va_E} {av : List Value} {blk : (Nat → Nat) → va_W} {own : String} (hy : plainName y.cls = true) (hown : y.cls = own) (hyn : y.name = "<init>") (hn : ∀ a, (lg_sl (.ref a :: av)).length ≤ maxL)
    (body : ∀ (ws : va_W) (a sz : Nat) (p : Program) (e : Env) (s : State) (m : MethodId) (args : Array Value) (below : List Frame) (meth : Method) (c : Code) (ls : Array Slot) (H : Heap) (locs : List Loc), xC Γ p s m args meth c cc own maxL → lv_has ls maxL (lv_args 0 (.ref a :: av)) → va_P Γ.2.2 vwCl (ws ++ [(a, e0)]) H → va_D (va_A (ws ++ [(a, e0)]) sz) (ws ++ [(a, e0)]) → va_S (va_A (ws ++ [(a, e0)]) sz) s.heap H locs → (∀ q, s.heap.size ≤ q → (va_A (ws ++ [(a, e0)]) sz) q) → W p l e rm s m args below meth c H locs 0 0 (MQ below (va_Qv (fun (u : Nat → Nat) => u 0 = a) (xB Γ (va_A (ws ++ [(a, e0)]) sz) (fun u => ws ++ blk u)) (va_A (ws ++ [(a, e0)]) sz)) args s rm.cells rm.slots (va_A (ws ++ [(a, e0)]) sz)) (F0 m 0 ls [])) : xM l Γ y cc maxL rm e0 av blk := by
  intro ws a sz
  refine Met.ofW (cc := cc) (maxL := maxL) (ret := none) hy rfl ?_
  intro p e s m args below meth c s₁ B hml hv
  obtain ⟨rfl, hsz, hP, hK, hD0⟩ := hv
  have hts := atoms_spec (ws := Cond.code y cc maxL none :: lw_g) B.pre
  have hl := lv_entry (.ref a :: av) (n := maxL) (hn a)
  rw [lg_entry_eq]
  subst hsz
  exact body ws a s.heap.size p e s m _ below meth c _ s.heap [] ⟨B.exec, B.bytes, B.returns, hml, by rw [← hown]; exact findClass_of_methodNamed B.named, fun w h => hts w (List.mem_cons_of_mem _ h), B.notSynchronized, hK, (name_of_methodNamed B.named B.method).1.trans hyn⟩ hl hP hD0.self va_S.rf (fun q h => Or.inr h)

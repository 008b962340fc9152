/-! ===== rows over the flat state ===== -/
section FL
variable {p : Program} {l : Launch} {e : Env} {R : Room} {s : State} {m : MethodId} {args : Array Value} {below : List Frame} {meth : Method} {c : Code} {H : Heap} {locs : List Loc} {Q : State → Prop}
variable {Γ : fGm} {cc : ByteArray} {ret : Option FieldType} {own : String} {nL pc : Nat} {ls : Array Slot} {rest : List Value} {σ : fS}
theorem fl_get (C : fC Γ p s m args meth c cc ret own nL) (hP : fH Γ σ H) {k ci j N index : Nat} {fs : List Value} {Cn : String} {T : u_T} {v : Value} (he : fcell Γ k (σ k) = .inr (ci, fs)) (hk : k < 189) (hc : vwCl[ci]? = some (Cn, T, N)) (hin : ∀ w ∈ u_ws Cn T N, w ∈ lw_g) (hj : j < N) (hlink : Cond.fieldLink own index (T j).1 (T j).2.1 (T j).2.2.1 ∈ lw_g) (hv : fs[j]? = some v) (hdg : decode cc pc = .ok (.getfield index, 3)) (kk : W p l e R s m args below meth c H locs 0 0 Q (F0 m (pc + 3) ls (v :: rest))) : W p l e R s m args below meth c H locs 0 0 Q (F0 m pc ls (.ref (Γ.1 k) :: rest)) :=
  va_get (D := Γ.2.2) C.1 C.2.1 C.2.2.2.2.2.1 hin C.2.2.2.2.1 C.2.2.2.2.2.2.2.1.1 hP k (by rw [fws_get hk, he]) hc j hj (C.2.2.2.2.2.1 _ hlink) (fun _ h => h) hv hdg kk
theorem fl_put (C : fC Γ p s m args meth c cc ret own nL) (hP : fH Γ σ H) (hS : va_S (fAd Γ) s.heap H locs) {k ci j N index : Nat} {fs : List Value} {Cn : String} {T : u_T} {x : Int32} (he : fcell Γ k (σ k) = .inr (ci, fs)) (he2 : fcell Γ k (upd (σ k) j x) = .inr (ci, fs.set j (.int x))) (hk : k < 189) (hc : vwCl[ci]? = some (Cn, T, N)) (hin : ∀ w ∈ u_ws Cn T N, w ∈ lw_g) (ty0 : Nat → FieldType) (hty : ∀ k, k < N → parseFieldDescriptor (T k).2.2.1 = some (ty0 k)) (hnm : ∀ a, a < N → ∀ b, b < N → a ≠ b → (T a).2.1 ≠ (T b).2.1) (hj : j < N) (hlink : Cond.fieldLink own index (T j).1 (T j).2.1 (T j).2.2.1 ∈ lw_g) (hfin : (T j).2.2.2 = false) (hn : narrow (ty0 j) (.int x) = .int x) (hfit : fits (ty0 j) (.int x) = true) (hl : j < fs.length) (hdg : decode cc pc = .ok (.putfield index, 3))
    (kk : ∀ (H1 : Heap) (locs1 : List Loc), fH Γ (fu σ k j x) H1 → va_S (fAd Γ) s.heap H1 locs1 → W p l e R s m args below meth c H1 locs1 0 0 Q (F0 m (pc + 3) ls rest)) : W p l e R s m args below meth c H locs 0 0 Q (F0 m pc ls (.int x :: .ref (Γ.1 k) :: rest)) := by
  refine va_put (D := Γ.2.2) C.1 C.2.1 C.2.2.2.2.2.1 hin ty0 hty hnm C.2.2.2.2.1 C.2.2.2.2.2.2.2.1.1 hP (fws_D C.2.2.2.2.2.2.2.2 σ) hS k (by rw [fws_get hk, he]) hc j hj (C.2.2.2.2.2.1 _ hlink) (fun _ h => h) hfin (hty j hj) hn hfit hl hdg (fun H1 locs1 hP1 _ hS1 => kk H1 locs1 ?_ hS1)
  rw [← he2, fws_set hk] at hP1
  exact hP1
theorem fl_iald (C : fC Γ p s m args meth c cc ret own nL) (hP : fH Γ σ H) {k n z : Nat} (ha : fD k = (1, n, z)) {i : Int32} (hin : vp_in i n) (hdg : decode cc pc = .ok (.iaload, 1)) (kk : W p l e R s m args below meth c H locs 0 0 Q (F0 m (pc + 1) ls (.int (σ k i.toNatClampNeg) :: rest))) : W p l e R s m args below meth c H locs 0 0 Q (F0 m pc ls (.int i :: .ref (Γ.1 k) :: rest)) :=
  va_iald (D := Γ.2.2) C.1 C.2.1 C.2.2.2.2.2.2.2.1.1 hP k 0 (by rw [fws_get (fD_lt ha), fe_A ha]) rfl hin hdg kk
theorem fl_cald (C : fC Γ p s m args meth c cc ret own nL) (hP : fH Γ σ H) {k n z : Nat} (ha : fD k = (4, n, z)) {i : Int32} (hin : vp_in i n) (hdg : decode cc pc = .ok (.caload, 1)) (kk : W p l e R s m args below meth c H locs 0 0 Q (F0 m (pc + 1) ls (.int (σ k i.toNatClampNeg) :: rest))) : W p l e R s m args below meth c H locs 0 0 Q (F0 m pc ls (.int i :: .ref (Γ.1 k) :: rest)) :=
  va_cald (D := Γ.2.2) C.1 C.2.1 C.2.2.2.2.2.2.2.1.1 hP k 1 (by rw [fws_get (fD_lt ha), fe_C ha]) rfl hin hdg kk
theorem fl_iast (C : fC Γ p s m args meth c cc ret own nL) (hP : fH Γ σ H) (hS : va_S (fAd Γ) s.heap H locs) {k n z : Nat} (ha : fD k = (1, n, z)) {i x : Int32} (hin : vp_in i n) (hdg : decode cc pc = .ok (.iastore, 1)) (kk : ∀ (H1 : Heap) (locs1 : List Loc), fH Γ (fu σ k i.toNatClampNeg x) H1 → va_S (fAd Γ) s.heap H1 locs1 → W p l e R s m args below meth c H1 locs1 0 0 Q (F0 m (pc + 1) ls rest)) : W p l e R s m args below meth c H locs 0 0 Q (F0 m pc ls (.int x :: .int i :: .ref (Γ.1 k) :: rest)) := by
  refine va_iast (D := Γ.2.2) C.1 C.2.1 C.2.2.2.2.2.2.2.1.1 hP (fws_D C.2.2.2.2.2.2.2.2 σ) hS k 0 (by rw [fws_get (fD_lt ha), fe_A ha]) rfl hin hdg (fun H1 locs1 hP1 _ hS1 => kk H1 locs1 ?_ hS1)
  rw [← fe_A (Γ := Γ) (f := upd (σ k) i.toNatClampNeg x) ha, fws_set (fD_lt ha)] at hP1
  exact hP1
theorem fl_cast (C : fC Γ p s m args meth c cc ret own nL) (hP : fH Γ σ H) (hS : va_S (fAd Γ) s.heap H locs) {k n z : Nat} (ha : fD k = (4, n, z)) {i x : Int32} (hin : vp_in i n) (hdg : decode cc pc = .ok (.castore, 1)) (kk : ∀ (H1 : Heap) (locs1 : List Loc), fH Γ (fu σ k i.toNatClampNeg (vp_nar .char x)) H1 → va_S (fAd Γ) s.heap H1 locs1 → W p l e R s m args below meth c H1 locs1 0 0 Q (F0 m (pc + 1) ls rest)) : W p l e R s m args below meth c H locs 0 0 Q (F0 m pc ls (.int x :: .int i :: .ref (Γ.1 k) :: rest)) := by
  refine va_cast (D := Γ.2.2) C.1 C.2.1 C.2.2.2.2.2.2.2.1.1 hP (fws_D C.2.2.2.2.2.2.2.2 σ) hS k 1 (by rw [fws_get (fD_lt ha), fe_C ha]) rfl hin hdg (fun H1 locs1 hP1 _ hS1 => kk H1 locs1 ?_ hS1)
  rw [← fe_C (Γ := Γ) (f := upd (σ k) i.toNatClampNeg (vp_nar .char x)) ha, fws_set (fD_lt ha)] at hP1
  exact hP1
theorem fl_aald (C : fC Γ p s m args meth c cc ret own nL) (hP : fH Γ σ H) {i : Int32} (hin : vp_in i 6) (hdg : decode cc pc = .ok (.aaload, 1)) (kk : W p l e R s m args below meth c H locs 0 0 Q (F0 m (pc + 1) ls (.ref (Γ.1 (48 + 15 * i.toNatClampNeg)) :: rest))) : W p l e R s m args below meth c H locs 0 0 Q (F0 m pc ls (.int i :: .ref (Γ.1 47) :: rest)) :=
  va_aldq (D := Γ.2.2) (f := fun i => some (Γ.1 (48 + 15 * i))) C.1 C.2.1 C.2.2.2.2.2.2.2.1.1 hP 47 2 (by rw [fws_get (Nat.le_of_ble_eq_true rfl)]; rfl) rfl hin hdg kk
theorem fl_alen (C : fC Γ p s m args meth c cc ret own nL) (hP : fH Γ σ H) {k n z : Nat} (ha : fD k = (1, n, z)) (hdg : decode cc pc = .ok (.arraylength, 1)) (kk : W p l e R s m args below meth c H locs 0 0 Q (F0 m (pc + 1) ls (.int (Int32.ofNat n) :: rest))) : W p l e R s m args below meth c H locs 0 0 Q (F0 m pc ls (.ref (Γ.1 k) :: rest)) :=
  va_alen (D := Γ.2.2) C.1 C.2.1 C.2.2.2.2.2.2.2.1.1 hP k 0 (by rw [fws_get (fD_lt ha), fe_A ha]) rfl rfl hdg kk
def fcp (σ : fS) (a b : Nat) (sp dp n : Int32) : fS := va_up σ b (va_cpy (σ a) (σ b) sp.toNatClampNeg dp.toNatClampNeg n.toNatClampNeg)
abbrev fcpOK (n0 n1 : Nat) (sp dp n : Int32) : Prop := ¬ sp < 0 ∧ ¬ dp < 0 ∧ ¬ n < 0 ∧ sp.toNatClampNeg + n.toNatClampNeg ≤ n0 ∧ dp.toNatClampNeg + n.toNatClampNeg ≤ n1
theorem fl_copy (C : fC Γ p s m args meth c cc ret own nL) (hP : fH Γ σ H) (hS : va_S (fAd Γ) s.heap H locs) (hsz : ls.size = nL) {index k0 k1 n0 n1 z0 z1 : Nat} (ha0 : fD k0 = (1, n0, z0)) (ha1 : fD k1 = (1, n1, z1)) (hlink : Cond.methodLink own index arraycopyName ∈ lw_g) (hnat : Cond.native arraycopyName ∈ lw_g) (hstat : Cond.static arraycopyName ∈ lw_g) (hini : Cond.initialized "java/lang/System" ∈ lw_g) {sp dp n : Int32} (hok : fcpOK n0 n1 sp dp n) (hframes : 1 ≤ R.frames) (hlocals : (rest.map fun v => v.category).sum + (nativeFrameWords "java/lang/System" "arraycopy" 5 + 11) ≤ R.locals) (hdg : decode cc pc = .ok (.invokestatic index, 3))
    (kk : ∀ (H1 : Heap) (locs1 : List Loc), fH Γ (fcp σ k0 k1 sp dp n) H1 → va_S (fAd Γ) s.heap H1 locs1 → W p l e R s m args below meth c H1 locs1 0 0 Q (F0 m (pc + 3) ls rest)) : W p l e R s m args below meth c H locs 0 0 Q (F0 m pc ls (.int n :: .int dp :: .ref (Γ.1 k1) :: .int sp :: .ref (Γ.1 k0) :: rest)) := by
  obtain ⟨h1, h2, h3, h4, h5⟩ := hok
  refine va_copyi (D := Γ.2.2) (ty := .int) C.1 C.2.1 (C.2.2.2.1.trans hsz.symm) C.2.2.2.2.1 (C.2.2.2.2.2.1 _ hlink) (C.2.2.2.2.2.1 _ hnat) (C.2.2.2.2.2.1 _ hstat) (C.2.2.2.2.2.1 _ hini) C.2.2.2.2.2.2.2.1.1 hP (fws_D C.2.2.2.2.2.2.2.2 σ) hS k0 k1 0 0 (by rw [fws_get (fD_lt ha0), fe_A ha0]) (by rw [fws_get (fD_lt ha1), fe_A ha1]) rfl rfl rfl h1 h2 h3 h4 h5 (fun _ _ => rfl) hframes hlocals hdg (fun H1 locs1 hP1 _ hS1 => kk H1 locs1 ?_ hS1)
  rw [← fe_A (Γ := Γ) (f := va_cpy (σ k0) (σ k1) sp.toNatClampNeg dp.toNatClampNeg n.toNatClampNeg) ha1, fws_set (fD_lt ha1)] at hP1
  exact hP1
theorem fl_max (C : fC Γ p s m args meth c cc ret own nL) (hsz : ls.size = nL) {index : Nat} (hlink : Cond.methodLink own index Lib.Math.max.name ∈ lw_g) (hstat : Cond.static Lib.Math.max.name ∈ lw_g) (hini : Cond.initialized "java/lang/Math" ∈ lw_g) (hcode : Cond.code Lib.Math.max.name Lib.Math.max.code 2 (some .int) ∈ lw_g) (hframes : 1 ≤ R.frames) (hlocals : (rest.map fun v => v.category).sum + 13 ≤ R.locals) {x y : Int32} (hdg : decode cc pc = .ok (.invokestatic index, 3)) (kk : W p l e R s m args below meth c H locs 0 0 Q (F0 m (pc + 3) ls (.int (if x < y then y else x) :: rest))) : W p l e R s m args below meth c H locs 0 0 Q (F0 m pc ls (.int y :: .int x :: rest)) :=
  va_mmax C.1 C.2.1 (C.2.2.2.1.trans hsz.symm) C.2.2.2.2.1 (C.2.2.2.2.2.1 _ hlink) (C.2.2.2.2.2.1 _ hstat) (C.2.2.2.2.2.1 _ hini) (C.2.2.2.2.2.1 _ hcode) hframes hlocals (Nat.zero_le _) (Nat.zero_le _) hdg kk
theorem fl_min (C : fC Γ p s m args meth c cc ret own nL) (hsz : ls.size = nL) {index : Nat} (hlink : Cond.methodLink own index Lib.Math.min.name ∈ lw_g) (hstat : Cond.static Lib.Math.min.name ∈ lw_g) (hini : Cond.initialized "java/lang/Math" ∈ lw_g) (hcode : Cond.code Lib.Math.min.name Lib.Math.min.code 2 (some .int) ∈ lw_g) (hframes : 1 ≤ R.frames) (hlocals : (rest.map fun v => v.category).sum + 13 ≤ R.locals) {x y : Int32} (hdg : decode cc pc = .ok (.invokestatic index, 3)) (kk : W p l e R s m args below meth c H locs 0 0 Q (F0 m (pc + 3) ls (.int (if y < x then y else x) :: rest))) : W p l e R s m args below meth c H locs 0 0 Q (F0 m pc ls (.int y :: .int x :: rest)) :=
  va_mmin C.1 C.2.1 (C.2.2.2.1.trans hsz.symm) C.2.2.2.2.1 (C.2.2.2.2.2.1 _ hlink) (C.2.2.2.2.2.1 _ hstat) (C.2.2.2.2.2.1 _ hini) (C.2.2.2.2.2.1 _ hcode) hframes hlocals (Nat.zero_le _) (Nat.zero_le _) hdg kk
variable {y : MethodName} {bytes : ByteArray} {maxL index n : Nat} {rt : Option FieldType} {rm : Room} {As : List Value} {σ' : fS} {st0 : List Value}
theorem fl_runV {Qc : Array Value → State → Outcome → State → Prop} (C : fC Γ p s m args meth c cc ret own nL) (hP : fH Γ σ H) {k ci N : Nat} {fs : List Value} {Cn : String} {T : u_T} (he : fcell Γ k (σ k) = .inr (ci, fs)) (hk : k < 189) (hc : vwCl[ci]? = some (Cn, T, N)) (hM : Met l y (.code y bytes maxL rt :: lw_g) rm (fPre Γ (.ref (Γ.1 k) :: As) σ) Qc 0 0 (fAd Γ)) (hG : GoodIn lw_g (wsV own index Cn y (.code y bytes maxL rt :: lw_g))) (hd : y.cls = Cn ∧ y.cls ≠ "java/lang/invoke/MethodHandle" ∧ y.cls ≠ "java/lang/invoke/VarHandle" ∧ (parseMethodDescriptor y.desc).map (fun d => d.parameters.length) = some n) (hR : rm.cells = 0 ∧ rm.slots = 0 ∧ rm.frames + 1 ≤ R.frames ∧ 8 + (maxL + 11) + rm.locals ≤ R.locals) (hn : As.length = n) (hsz : ls.size = nL) (hstack : st0 = As.reverse ++ .ref (Γ.1 k) :: rest) (hrest : (rest.map fun v => v.category).sum ≤ 8) (hdg : decode cc pc = .ok (.invokevirtual index, 3)) :
    va_Run p l e R s m args below meth c H locs 0 0 0 0 (F0 m pc ls st0) rest (Qc (Value.ref (Γ.1 k) :: As).toArray) (fAd Γ) := by
  subst hstack
  exact va_runV (Ts := lw_g) (own := own) (C := Cn) (n := n) ⟨C.1, C.2.1, C.2.2.2.1, C.2.2.2.2.1, C.2.2.2.2.2.1⟩ hM (cwV n C.2.2.2.2.2.1 hG rfl hR.1 hR.2.1 hd hR.2.2) ⟨fPre_blind Γ _ σ, va_recv C.2.2.2.2.2.2.2.1.1 hP (q0 := k) hc (by rw [fws_get hk, he]), fun U hU hW => ⟨rfl, by rw [hU]; exact hP, C.2.2.2.2.2.2.2.1.warm hW⟩⟩ rfl hn hsz rfl (lv_room hrest) hdg ⟨Nat.zero_le _, Nat.zero_le _⟩
theorem fl_runS {Qc : Array Value → State → Outcome → State → Prop} (C : fC Γ p s m args meth c cc ret own nL) (hP : fH Γ σ H) (hM : Met l y (.code y bytes maxL rt :: lw_g) rm (fPre Γ As σ) Qc 0 0 (fAd Γ)) (hG : GoodIn lw_g (va_wsS own index y (.code y bytes maxL rt :: lw_g))) (hd : y.cls ≠ "java/lang/invoke/MethodHandle" ∧ y.cls ≠ "java/lang/invoke/VarHandle" ∧ (parseMethodDescriptor y.desc).map (fun d => d.parameters.length) = some n) (hR : rm.cells = 0 ∧ rm.slots = 0 ∧ rm.frames + 1 ≤ R.frames ∧ 8 + (maxL + 11) + rm.locals ≤ R.locals) (hn : As.length = n) (hsz : ls.size = nL) (hstack : st0 = As.reverse ++ rest) (hrest : (rest.map fun v => v.category).sum ≤ 8) (hdg : decode cc pc = .ok (.invokestatic index, 3)) :
    va_Run p l e R s m args below meth c H locs 0 0 0 0 (F0 m pc ls st0) rest (Qc As.toArray) (fAd Γ) := by
  subst hstack
  exact va_runS (Ts := lw_g) (own := own) (n := n) ⟨C.1, C.2.1, C.2.2.2.1, C.2.2.2.2.1, C.2.2.2.2.2.1⟩ hM (va_cwS n C.2.2.2.2.2.1 hG rfl hR.1 hR.2.1 hd hR.2.2) ⟨fPre_blind Γ _ σ, fun U hU hW => ⟨rfl, by rw [hU]; exact hP, C.2.2.2.2.2.2.2.1.warm hW⟩⟩ rfl hn hsz rfl (lv_room hrest) hdg ⟨Nat.zero_le _, Nat.zero_le _⟩
theorem fl_runN {Qc : Array Value → State → Outcome → State → Prop} {host : String} (C : fC Γ p s m args meth c cc ret own nL) (hP : fH Γ σ H) (hM : Met l y (.code y bytes maxL rt :: lw_g) rm (fPre Γ As σ) Qc 0 0 (fAd Γ)) (hG : GoodIn lw_g (.code y bytes maxL rt :: lw_g)) (hl : va_Nw (.methodLinkNest own index y host) s) (hini : Cond.initialized y.cls ∈ lw_g) (hst : Cond.static y ∈ lw_g) (hd : y.cls ≠ "java/lang/invoke/MethodHandle" ∧ y.cls ≠ "java/lang/invoke/VarHandle" ∧ (parseMethodDescriptor y.desc).map (fun d => d.parameters.length) = some n) (hR : rm.cells = 0 ∧ rm.slots = 0 ∧ rm.frames + 1 ≤ R.frames ∧ 8 + (maxL + 11) + rm.locals ≤ R.locals) (hn : As.length = n) (hsz : ls.size = nL) (hstack : st0 = As.reverse ++ rest) (hrest : (rest.map fun v => v.category).sum ≤ 8) (hdg : decode cc pc = .ok (.invokestatic index, 3)) :
    va_Run p l e R s m args below meth c H locs 0 0 0 0 (F0 m pc ls st0) rest (Qc As.toArray) (fAd Γ) := by
  subst hstack
  exact va_runSN (Ts := lw_g) (own := own) (n := n) ⟨C.1, C.2.1, C.2.2.2.1, C.2.2.2.2.1, C.2.2.2.2.2.1⟩ hM ⟨va_cnB n C.2.2.2.2.2.1 hG rfl hR.1 hR.2.1 hl (C.2.2.2.2.2.1 _ hini) hd hR.2.2, C.2.2.2.2.2.1 _ hst, trivial⟩ ⟨fPre_blind Γ _ σ, fun U hU hW => ⟨rfl, by rw [hU]; exact hP, C.2.2.2.2.2.2.2.1.warm hW⟩⟩ rfl hn hsz rfl (lv_room hrest) hdg ⟨Nat.zero_le _, Nat.zero_le _⟩
theorem fl_i {a : Array Value} {r : Int32} (hS : va_S (fAd Γ) s.heap H locs) (hr : va_Run p l e R s m args below meth c H locs 0 0 0 0 (F0 m pc ls st0) rest (fQi Γ r σ' a) (fAd Γ)) (kk : ∀ (H1 : Heap) (locs1 : List Loc), fH Γ σ' H1 → va_S (fAd Γ) s.heap H1 locs1 → W p l e R s m args below meth c H1 locs1 0 0 Q (F0 m (pc + 3) ls (.int r :: rest))) : W p l e R s m args below meth c H locs 0 0 Q (F0 m pc ls st0) := by
  refine va_calli hr hS (fun q _ h => h) (fun q h => h) (fun r2 u t H1 locs1 ht _ hw hB _ _ hS1 => ?_)
  obtain ⟨rfl, rfl⟩ := hw
  have hB : fH Γ u t.heap := hB
  rw [ht] at hB
  exact kk H1 locs1 hB hS1
theorem fl_f {a : Array Value} {r : UInt32} (hS : va_S (fAd Γ) s.heap H locs) (hr : va_Run p l e R s m args below meth c H locs 0 0 0 0 (F0 m pc ls st0) rest (fQf Γ r σ' a) (fAd Γ)) (kk : ∀ (H1 : Heap) (locs1 : List Loc), fH Γ σ' H1 → va_S (fAd Γ) s.heap H1 locs1 → W p l e R s m args below meth c H1 locs1 0 0 Q (F0 m (pc + 3) ls (.float r :: rest))) : W p l e R s m args below meth c H locs 0 0 Q (F0 m pc ls st0) := by
  refine va_callf hr hS (fun q _ h => h) (fun q h => h) (fun r2 u t H1 locs1 ht _ hw hB _ _ hS1 => ?_)
  obtain ⟨rfl, rfl⟩ := hw
  have hB : fH Γ u t.heap := hB
  rw [ht] at hB
  exact kk H1 locs1 hB hS1
theorem fl_v {a : Array Value} (hS : va_S (fAd Γ) s.heap H locs) (hr : va_Run p l e R s m args below meth c H locs 0 0 0 0 (F0 m pc ls st0) rest (fQv Γ σ' a) (fAd Γ)) (kk : ∀ (H1 : Heap) (locs1 : List Loc), fH Γ σ' H1 → va_S (fAd Γ) s.heap H1 locs1 → W p l e R s m args below meth c H1 locs1 0 0 Q (F0 m (pc + 3) ls rest)) : W p l e R s m args below meth c H locs 0 0 Q (F0 m pc ls st0) := by
  refine va_callv hr hS (fun q _ h => h) (fun q h => h) (fun u t H1 locs1 ht _ hw hB _ _ hS1 => ?_)
  obtain rfl := hw
  have hB : fH Γ u t.heap := hB
  rw [ht] at hB
  exact kk H1 locs1 hB hS1
theorem fl_iret {v r : Int32} (C : fC Γ p s m args meth c cc (some .int) own nL) (hP : fH Γ σ H) (hS : va_S (fAd Γ) s.heap H locs) (hf : some (v, σ) = some (r, σ')) (hdg : decode cc pc = .ok (.ireturn, 1)) : W p l e R s m args below meth c H locs 0 0 (MQ below (fQi Γ r σ') args s 0 0 (fAd Γ)) (F0 m pc ls [.int v]) := by
  cases hf
  exact W.iret C.1 C.2.1 C.2.2.1 (fun t ht _ => ⟨⟨_, _, rfl, ⟨rfl, rfl⟩, by show fH Γ σ t.heap; rw [ht]; exact hP⟩, hS.F ht⟩) hS.2.2 hdg C.2.2.2.2.2.2.1
theorem fl_zret {v r : Int32} (C : fC Γ p s m args meth c cc (some .boolean) own nL) (hP : fH Γ σ H) (hS : va_S (fAd Γ) s.heap H locs) (hz : narrow .boolean (.int v) = .int v) (hf : some (v, σ) = some (r, σ')) (hdg : decode cc pc = .ok (.ireturn, 1)) : W p l e R s m args below meth c H locs 0 0 (MQ below (fQi Γ r σ') args s 0 0 (fAd Γ)) (F0 m pc ls [.int v]) := by
  cases hf
  exact W.zret C.1 C.2.1 C.2.2.1 hz (fun t ht _ => ⟨⟨_, _, rfl, ⟨rfl, rfl⟩, by show fH Γ σ t.heap; rw [ht]; exact hP⟩, hS.F ht⟩) hS.2.2 hdg C.2.2.2.2.2.2.1
theorem fl_fret {v r : UInt32} (C : fC Γ p s m args meth c cc (some .float) own nL) (hP : fH Γ σ H) (hS : va_S (fAd Γ) s.heap H locs) (hf : some (v, σ) = some (r, σ')) (hdg : decode cc pc = .ok (.freturn, 1)) : W p l e R s m args below meth c H locs 0 0 (MQ below (fQf Γ r σ') args s 0 0 (fAd Γ)) (F0 m pc ls [.float v]) := by
  cases hf
  exact W.fret C.1 C.2.1 C.2.2.1 (fun t ht _ => ⟨⟨_, _, rfl, ⟨rfl, rfl⟩, by show fH Γ σ t.heap; rw [ht]; exact hP⟩, hS.F ht⟩) hS.2.2 hdg C.2.2.2.2.2.2.1
theorem fl_vret (C : fC Γ p s m args meth c cc none own nL) (hP : fH Γ σ H) (hS : va_S (fAd Γ) s.heap H locs) (hf : some σ = some σ') (hdg : decode cc pc = .ok (.return_, 1)) : W p l e R s m args below meth c H locs 0 0 (MQ below (fQv Γ σ') args s 0 0 (fAd Γ)) (F0 m pc ls []) := by
  cases hf
  exact W.vret C.1 C.2.1 C.2.2.1 (fun t ht _ => ⟨⟨_, rfl, rfl, by show fH Γ σ t.heap; rw [ht]; exact hP⟩, hS.F ht⟩) hS.2.2 hdg C.2.2.2.2.2.2.1
end FL
theorem fl_enter {Γ : fGm} (hI : fI Γ) {l : Launch} {y : MethodName} {cc : ByteArray} {maxL : Nat} {ret : Option FieldType} {rm : Room} {av : List Value} {σ : fS} {Qc : Array Value → State → Outcome → State → Prop} {own : String} (hy : plainName y.cls = true) (hown : y.cls = own) (hn : (lg_sl av).length ≤ maxL)
    (body : ∀ (p : Program) (e : Env) (s : State) (m : MethodId) (args : Array Value) (below : List Frame) (meth : Method) (c : Code) (ls : Array Slot), fC Γ p s m args meth c cc ret own maxL → lv_has ls maxL (lv_args 0 av) → fH Γ σ s.heap → va_S (fAd Γ) s.heap s.heap [] → W p l e rm s m args below meth c s.heap [] 0 0 (MQ below Qc args s 0 0 (fAd Γ)) (F0 m 0 ls [])) : Met l y (.code y cc maxL ret :: lw_g) rm (fPre Γ av σ) Qc 0 0 (fAd Γ) := by
  refine Met.ofW (cc := cc) (maxL := maxL) (ret := ret) hy rfl ?_
  intro p e s m args below meth c s₁ B hml hv
  obtain ⟨rfl, hP, hK⟩ := hv
  have hts := atoms_spec (ws := Cond.code y cc maxL ret :: lw_g) B.pre
  have hl := lv_entry av (n := maxL) hn
  rw [lg_entry_eq]
  exact body p e s m av.toArray below meth c _ ⟨B.exec, B.bytes, B.returns, hml, by rw [← hown]; exact findClass_of_methodNamed B.named, fun w h => hts w (List.mem_cons_of_mem _ h), B.notSynchronized, hK, hI⟩ hl hP va_S.rf
/-! ===== the pure side's words ===== -/
def fb {α : Type} (i : Int32) (n : Nat) (k : Option α) : Option α := if i < 0 ∨ n ≤ i.toNatClampNeg then none else k
theorem fb_some {α : Type} {i : Int32} {n : Nat} {k : Option α} {x : α} (h : fb i n k = some x) : vp_in i n ∧ k = some x := by
  unfold fb at h
  split at h
  · cases h
  · exact ⟨by assumption, h⟩
def fg {α : Type} (c : Prop) [Decidable c] (k : Option α) : Option α := if c then k else none
theorem fg_some {α : Type} {c : Prop} [Decidable c] {k : Option α} {x : α} (h : fg c k = some x) : c ∧ k = some x := by
  unfold fg at h
  split at h
  · exact ⟨by assumption, h⟩
  · cases h
theorem fbind {α β : Type} {o : Option α} {k : α → Option β} {x : β} (h : o.bind k = some x) : ∃ a, o = some a ∧ k a = some x := by
  cases o with
  | none => cases h
  | some a => exact ⟨a, rfl, h⟩
def fL {α β : Type} (a : α) (k : α → β) : β := k a

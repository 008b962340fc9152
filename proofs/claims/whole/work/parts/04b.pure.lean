def fN : Nat := 3000
def fcall {α β : Type} (o : Option (α × fS)) (k : α → fS → Option β) : Option β := match o with
  | none => none
  | some (a, s) => k a s
theorem fcall_some {α β : Type} {o : Option (α × fS)} {k : α → fS → Option β} {x : β} (h : fcall o k = some x) : ∃ a s, o = some (a, s) ∧ k a s = some x := by
  cases o with
  | none => cases h
  | some q => exact ⟨q.1, q.2, rfl, h⟩
def fcallv {β : Type} (o : Option fS) (k : fS → Option β) : Option β := match o with
  | none => none
  | some s => k s
theorem fcallv_some {β : Type} {o : Option fS} {k : fS → Option β} {x : β} (h : fcallv o k = some x) : ∃ s, o = some s ∧ k s = some x := by
  cases o with
  | none => cases h
  | some q => exact ⟨q, rfl, h⟩
theorem fL_some {α β : Type} {a : α} {k : α → Option β} {x : β} (h : fL a k = some x) : ∃ z, z = a ∧ k z = some x := ⟨a, rfl, h⟩
theorem fif_pos {c : Prop} [Decidable c] {α : Type} {a b : Option α} {x : α} (hc : c) (h : (if c then a else b) = some x) : a = some x := by rw [if_pos hc] at h; exact h
theorem fif_neg {c : Prop} [Decidable c] {α : Type} {a b : Option α} {x : α} (hc : ¬ c) (h : (if c then a else b) = some x) : b = some x := by rw [if_neg hc] at h; exact h
theorem fz {v : Int32} (h : v = 0 ∨ v = 1) : narrow .boolean (.int v) = .int v := by
  rcases h with rfl | rfl <;> rfl
theorem fi_ne {x y : Int32} {n : Int} (h : ¬ x = y) (hn : y.toInt = n) : ¬ x.toInt = n := fun z => h (Int32.toInt_inj.mp (z.trans hn.symm))
theorem fD_ear {i : Int32} (h : vp_in i 6) : fD (48 + 15 * i.toNatClampNeg) = (3, 0, 0) := by
  have hlt : i.toNatClampNeg < 6 := Nat.not_le.mp fun q => h (Or.inr q)
  generalize i.toNatClampNeg = n at hlt
  match n, hlt with
  | 0, _ => rfl
  | 1, _ => rfl
  | 2, _ => rfl
  | 3, _ => rfl
  | 4, _ => rfl
  | 5, _ => rfl
theorem lv_ldcfw {p : Program} {l : Launch} {e : Env} {R : Room} {s : State} {m : MethodId} {args : Array Value} {below : List Frame} {meth : Method} {c : Code} {H : Heap} {locs : List Loc} {cells slots : Nat} {Q : State → Prop} {cc : ByteArray} {pc : Nat} {ls : Array Slot} {rest : List Value} (hexec : p.tables.exec = Jvm.exec) (hb : c.code = cc) {own : String} {index : Nat} {v : UInt32} (hown : s.vm.findClass own = some m.cls) (hconst : (Jvm.Cond.constantFloat own index v).before args s = true) (hdg : decode cc pc = .ok (.ldc_w index, 3)) (k : W p l e R s m args below meth c H locs cells slots Q (F0 m (pc + 3) ls (.float v :: rest))) : W p l e R s m args below meth c H locs cells slots Q (F0 m pc ls rest) := by
  intro T hT X
  obtain ⟨t, a, b⟩ := k T hT X
  refine ⟨t, ?_, b⟩
  obtain ⟨k0, cf, hk, hcf, hcp⟩ := Cond.constantFloat_spec hown hconst
  obtain ⟨k', hk', he⟩ := X.warmed.alike.2.2 _ _ hk
  jvm_step X.here [hexec, hb, hdg, ldc_w.wp_float (s := T) (f := F0 m pc ls rest) X.here.top hk' (by rw [he]; exact hcf) hcp]
  exact a
theorem fl_ofWF {l : Launch} {y : MethodName} {ws ws' : List Cond} {rm : Room} {Pc : Array Value → State → Prop} {Qc : Array Value → State → Outcome → State → Prop} {mc ms : Nat} {free : Addr → Prop} {cc : ByteArray} {maxL : Nat} {ret : Option FieldType}
    (hy : plainFor y = true) (hw : ws = Cond.code y cc maxL ret :: ws')
    (body : ∀ p e s m args below meth c s₁, BodyLoose p l y (headSpec ws rm) cc maxL ret e s m args below meth c s₁ → c.maxLocals = maxL → Pc args s →
      W p l e (headSpec ws rm).room s m args below meth c s.heap [] 0 0 (MQ below Qc args s mc ms free) (entryFrame m args maxL)) : Met l y ws rm Pc Qc mc ms free := by
  refine MetFree.of_bodySF (code := cc) (maxLocals := maxL) (ret := ret) hy ?_ ?_
  · intro args s m h hn
    obtain ⟨meth, c, h1, h2, h3, h4, h5, h6, -, -⟩ := Cond.code_spec hn (atoms_spec (ws := ws) h _ (by rw [hw]; exact List.mem_cons_self))
    exact ⟨meth, c, h1, h2, h3, h4, h5, h6⟩
  · intro p e s m args below meth c s₁ B hml hP _
    have hh0 : s₁.heap = s.heap := by rw [B.state]; rfl
    obtain ⟨t, a1, o, b1, b2, b3⟩ := body p e s m args below meth c s₁ B hml hP s₁ hh0 (Stand.of_body B)
    exact ⟨t, o, a1, b1, b2, ⟨b3.1, b3.2⟩⟩
theorem fl_enterF {Γ : fGm} (hI : fI Γ) {l : Launch} {y : MethodName} {cc : ByteArray} {maxL : Nat} {ret : Option FieldType} {rm : Room} {av : List Value} {σ : fS} {Qc : Array Value → State → Outcome → State → Prop} {own : String} (hy : plainFor y = true) (hown : y.cls = own) (hn : (lg_sl av).length ≤ maxL)
    (body : ∀ (p : Program) (e : Env) (s : State) (m : MethodId) (args : Array Value) (below : List Frame) (meth : Method) (c : Code) (ls : Array Slot), fC Γ p s m args meth c cc ret own maxL → lv_has ls maxL (lv_args 0 av) → fH Γ σ s.heap → va_S (fAd Γ) s.heap s.heap [] → W p l e rm s m args below meth c s.heap [] 0 0 (MQ below Qc args s 0 0 (fAd Γ)) (F0 m 0 ls [])) : Met l y (.code y cc maxL ret :: lw_g) rm (fPre Γ av σ) Qc 0 0 (fAd Γ) := by
  refine fl_ofWF (cc := cc) (maxL := maxL) (ret := ret) hy rfl ?_
  intro p e s m args below meth c s₁ B hml hv
  obtain ⟨rfl, hP, hK⟩ := hv
  have hts := atoms_spec (ws := Cond.code y cc maxL ret :: lw_g) B.pre
  have hl := lv_entry av (n := maxL) hn
  rw [lg_entry_eq]
  exact body p e s m av.toArray below meth c _ ⟨B.exec, B.bytes, B.returns, hml, by rw [← hown]; exact findClass_of_methodNamed B.named, fun w h => hts w (List.mem_cons_of_mem _ h), B.notSynchronized, hK, hI⟩ hl hP va_S.rf

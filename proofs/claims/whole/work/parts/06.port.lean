section GM
variable {p : Program} {l : Launch} {e : Env} {s : State} {m : MethodId} {args : Array Value} {below : List Frame} {meth : Method} {c : Code} {Γ : fGm}
def f_X3_windAt (b0 : Nat) (x1 : Int32) (σ : fS) : Option (Int32 × fS) := fcall (f_X5_at (b0 + 13) 48 1 (x1 / (60 : Int32)) (0 : Int32) σ) (fun r1_ σ1 => some (r1_, σ1))
set_option maxRecDepth 100000 in
set_option maxHeartbeats 4000000 in
theorem m_X3_windAt {Γ : fGm} (hI : fI Γ) (l : Launch) {b0 : Nat} {x1 : Int32} (h0 : fD b0 = (3, 0, 0)) {σ : fS} {r : Int32} {σ' : fS} (hf : f_X3_windAt b0 x1 σ = some (r, σ')) : Met l yX3_windAt (.code yX3_windAt cX3_windAt 2 (some .int) :: lw_g) ({ frames := 1, cells := 0, slots := 0, locals := 22 } : Room) (fPre Γ [.ref (Γ.1 b0), .int x1] σ) (fQi Γ r σ') 0 0 (fAd Γ) := by
  refine fl_enter (own := RX3) hI (by decide +kernel) rfl (Nat.le_of_ble_eq_true rfl) ?_
  intro p e s m args below meth c ls C hl hP hS
  have hl : lv_has ls 2 [(0, .ref (Γ.1 b0)), (1, .int x1)] := hl
  obtain ⟨H, hH⟩ : ∃ H, H = s.heap := ⟨_, rfl⟩
  obtain ⟨locs, hL⟩ : ∃ L : List Loc, L = [] := ⟨_, rfl⟩
  have hP : fH Γ σ H := by rw [hH]; exact hP
  have hS : va_S (fAd Γ) s.heap H locs := by rw [hH, hL]; exact hS
  suffices hw : W p l e ({ frames := 1, cells := 0, slots := 0, locals := 22 } : Room) s m args below meth c H locs 0 0 (MQ below (fQi Γ r σ') args s 0 0 (fAd Γ)) (F0 m 0 ls []) by rw [hH, hL] at hw; exact hw
  unfold f_X3_windAt at hf
  refine lv_aload_n C.1 C.2.1 (kd kX3_windAt_0 0 rfl) rfl (lv_at hl 0 rfl) ?_
  refine fl_get (j := 6) (v := .ref (Γ.1 (b0 + 13))) C hP (fe_P h0) (fD_lt h0) rfl inX3 (Nat.le_of_ble_eq_true rfl) tw_129 rfl (kd kX3_windAt_0 1 rfl) ?_
  refine lv_iload_n C.1 C.2.1 (kd kX3_windAt_0 2 rfl) rfl (lv_at hl 1 rfl) ?_
  refine lv_bipush (v := (60 : Int32)) C.1 C.2.1 (kd kX3_windAt_0 3 rfl) (by decide) ?_
  refine lv_idiv C.1 C.2.1 (kd kX3_windAt_0 4 rfl) (by decide) ?_
  refine lv_iconst (v := (0 : Int32)) C.1 C.2.1 (kd kX3_windAt_0 5 rfl) (by decide) ?_
  obtain ⟨r1_, σ1, hσ1, hf⟩ := fcall_some hf
  refine fl_i hS (fl_runV (As := [.int (x1 / (60 : Int32)), .int (0 : Int32)]) (rest := []) C hP (fe_T (fD_prt h0).2.2.2.2.2.2) (fD_lt (fD_prt h0).2.2.2.2.2.2) rfl (m_X5_at C.2.2.2.2.2.2.2.2 l (fD_prt h0).2.2.2.2.2.2 hσ1) (fgV tw_417 tw_418 tw_419 tw_69 tw_420) hd_X5_at ⟨rfl, rfl, Nat.le_of_ble_eq_true rfl, Nat.le_of_ble_eq_true rfl⟩ rfl hl.1 rfl (Nat.le_of_ble_eq_true rfl) (kd kX3_windAt_0 6 rfl)) (fun H locs hP hS => ?_)
  exact fl_iret C hP hS hf (kd kX3_windAt_0 7 rfl)
def f_X3_windLimitOf (b0 : Nat) (x1 : Int32) (σ : fS) : Option (Int32 × fS) := fcall (f_X5_at (b0 + 5) 12 4 x1 (0 : Int32) σ) (fun r1_ σ1 => fcall (f_X5_at (b0 + 1) 4 4 r1_ (3 : Int32) σ1) (fun r2_ σ2 => some (r2_, σ2)))
set_option maxRecDepth 100000 in
set_option maxHeartbeats 4000000 in
theorem m_X3_windLimitOf {Γ : fGm} (hI : fI Γ) (l : Launch) {b0 : Nat} {x1 : Int32} (h0 : fD b0 = (3, 0, 0)) {σ : fS} {r : Int32} {σ' : fS} (hf : f_X3_windLimitOf b0 x1 σ = some (r, σ')) : Met l yX3_windLimitOf (.code yX3_windLimitOf cX3_windLimitOf 2 (some .int) :: lw_g) ({ frames := 1, cells := 0, slots := 0, locals := 22 } : Room) (fPre Γ [.ref (Γ.1 b0), .int x1] σ) (fQi Γ r σ') 0 0 (fAd Γ) := by
  refine fl_enter (own := RX3) hI (by decide +kernel) rfl (Nat.le_of_ble_eq_true rfl) ?_
  intro p e s m args below meth c ls C hl hP hS
  have hl : lv_has ls 2 [(0, .ref (Γ.1 b0)), (1, .int x1)] := hl
  obtain ⟨H, hH⟩ : ∃ H, H = s.heap := ⟨_, rfl⟩
  obtain ⟨locs, hL⟩ : ∃ L : List Loc, L = [] := ⟨_, rfl⟩
  have hP : fH Γ σ H := by rw [hH]; exact hP
  have hS : va_S (fAd Γ) s.heap H locs := by rw [hH, hL]; exact hS
  suffices hw : W p l e ({ frames := 1, cells := 0, slots := 0, locals := 22 } : Room) s m args below meth c H locs 0 0 (MQ below (fQi Γ r σ') args s 0 0 (fAd Γ)) (F0 m 0 ls []) by rw [hH, hL] at hw; exact hw
  unfold f_X3_windLimitOf at hf
  refine lv_aload_n C.1 C.2.1 (kd kX3_windLimitOf_0 0 rfl) rfl (lv_at hl 0 rfl) ?_
  refine fl_get (j := 0) (v := .ref (Γ.1 (b0 + 1))) C hP (fe_P h0) (fD_lt h0) rfl inX3 (Nat.le_of_ble_eq_true rfl) tw_113 rfl (kd kX3_windLimitOf_0 1 rfl) ?_
  refine lv_aload_n C.1 C.2.1 (kd kX3_windLimitOf_0 2 rfl) rfl (lv_at hl 0 rfl) ?_
  refine fl_get (j := 2) (v := .ref (Γ.1 (b0 + 5))) C hP (fe_P h0) (fD_lt h0) rfl inX3 (Nat.le_of_ble_eq_true rfl) tw_117 rfl (kd kX3_windLimitOf_0 3 rfl) ?_
  refine lv_iload_n C.1 C.2.1 (kd kX3_windLimitOf_0 4 rfl) rfl (lv_at hl 1 rfl) ?_
  refine lv_iconst (v := (0 : Int32)) C.1 C.2.1 (kd kX3_windLimitOf_0 5 rfl) (by decide) ?_
  obtain ⟨r1_, σ1, hσ1, hf⟩ := fcall_some hf
  refine fl_i hS (fl_runV (As := [.int x1, .int (0 : Int32)]) (rest := [.ref (Γ.1 (b0 + 1))]) C hP (fe_T (fD_prt h0).2.2.1) (fD_lt (fD_prt h0).2.2.1) rfl (m_X5_at C.2.2.2.2.2.2.2.2 l (fD_prt h0).2.2.1 hσ1) (fgV tw_417 tw_418 tw_419 tw_69 tw_420) hd_X5_at ⟨rfl, rfl, Nat.le_of_ble_eq_true rfl, Nat.le_of_ble_eq_true rfl⟩ rfl hl.1 rfl (Nat.le_of_ble_eq_true rfl) (kd kX3_windLimitOf_0 6 rfl)) (fun H locs hP hS => ?_)
  refine lv_iconst (v := (3 : Int32)) C.1 C.2.1 (kd kX3_windLimitOf_0 7 rfl) (by decide) ?_
  obtain ⟨r2_, σ2, hσ2, hf⟩ := fcall_some hf
  refine fl_i hS (fl_runV (As := [.int r1_, .int (3 : Int32)]) (rest := []) C hP (fe_T (fD_prt h0).1) (fD_lt (fD_prt h0).1) rfl (m_X5_at C.2.2.2.2.2.2.2.2 l (fD_prt h0).1 hσ2) (fgV tw_417 tw_418 tw_419 tw_69 tw_420) hd_X5_at ⟨rfl, rfl, Nat.le_of_ble_eq_true rfl, Nat.le_of_ble_eq_true rfl⟩ rfl hl.1 rfl (Nat.le_of_ble_eq_true rfl) (kd kX3_windLimitOf_0 8 rfl)) (fun H locs hP hS => ?_)
  exact fl_iret C hP hS hf (kd kX3_windLimitOf_0 9 rfl)
def f_X3_floatHeightAt (b0 : Nat) (x1 : Int32) (σ : fS) : Option (UInt32 × fS) := fcall (f_X5_at (b0 + 11) 49 1 (x1 / (60 : Int32)) (0 : Int32) σ) (fun r1_ σ1 => fcall (f_X5_at (b0 + 11) 49 1 ((x1 / (60 : Int32)) + (1 : Int32)) (0 : Int32) σ1) (fun r2_ σ2 => fg ((FP.fsub (FP.i2f r2_) (FP.i2f r1_)) &&& 0x7fffffff ≤ 0x7f800000) (fg ((FP.fdiv (FP.i2f (x1 - ((60 : Int32) * (x1 / (60 : Int32))))) (1114636288 : UInt32)) &&& 0x7fffffff ≤ 0x7f800000) (fg ((FP.fmul (FP.fsub (FP.i2f r2_) (FP.i2f r1_)) (FP.fdiv (FP.i2f (x1 - ((60 : Int32) * (x1 / (60 : Int32))))) (1114636288 : UInt32))) &&& 0x7fffffff ≤ 0x7f800000) (fg ((FP.fadd (FP.i2f r1_) (FP.fmul (FP.fsub (FP.i2f r2_) (FP.i2f r1_)) (FP.fdiv (FP.i2f (x1 - ((60 : Int32) * (x1 / (60 : Int32))))) (1114636288 : UInt32)))) &&& 0x7fffffff ≤ 0x7f800000) (some ((FP.fadd (FP.i2f r1_) (FP.fmul (FP.fsub (FP.i2f r2_) (FP.i2f r1_)) (FP.fdiv (FP.i2f (x1 - ((60 : Int32) * (x1 / (60 : Int32))))) (1114636288 : UInt32)))), σ2)))))))
set_option maxRecDepth 100000 in
set_option maxHeartbeats 4000000 in
theorem m_X3_floatHeightAt {Γ : fGm} (hI : fI Γ) (l : Launch) {b0 : Nat} {x1 : Int32} (h0 : fD b0 = (3, 0, 0)) {σ : fS} {r : UInt32} {σ' : fS} (hf : f_X3_floatHeightAt b0 x1 σ = some (r, σ')) : Met l yX3_floatHeightAt (.code yX3_floatHeightAt cX3_floatHeightAt 5 (some .float) :: lw_g) ({ frames := 1, cells := 0, slots := 0, locals := 22 } : Room) (fPre Γ [.ref (Γ.1 b0), .int x1] σ) (fQf Γ r σ') 0 0 (fAd Γ) := by
  refine fl_enter (own := RX3) hI (by decide +kernel) rfl (Nat.le_of_ble_eq_true rfl) ?_
  intro p e s m args below meth c ls C hl hP hS
  have hl : lv_has ls 5 [(0, .ref (Γ.1 b0)), (1, .int x1)] := hl
  obtain ⟨H, hH⟩ : ∃ H, H = s.heap := ⟨_, rfl⟩
  obtain ⟨locs, hL⟩ : ∃ L : List Loc, L = [] := ⟨_, rfl⟩
  have hP : fH Γ σ H := by rw [hH]; exact hP
  have hS : va_S (fAd Γ) s.heap H locs := by rw [hH, hL]; exact hS
  suffices hw : W p l e ({ frames := 1, cells := 0, slots := 0, locals := 22 } : Room) s m args below meth c H locs 0 0 (MQ below (fQf Γ r σ') args s 0 0 (fAd Γ)) (F0 m 0 ls []) by rw [hH, hL] at hw; exact hw
  unfold f_X3_floatHeightAt at hf
  refine lv_iload_n C.1 C.2.1 (kd kX3_floatHeightAt_0 0 rfl) rfl (lv_at hl 1 rfl) ?_
  refine lv_bipush (v := (60 : Int32)) C.1 C.2.1 (kd kX3_floatHeightAt_0 1 rfl) (by decide) ?_
  refine lv_idiv C.1 C.2.1 (kd kX3_floatHeightAt_0 2 rfl) (by decide) ?_
  refine lv_istore_n (lv' := [(2, .int (x1 / (60 : Int32))), (0, .ref (Γ.1 b0)), (1, .int x1)]) C.1 C.2.1 (kd kX3_floatHeightAt_0 3 rfl) rfl hl (Nat.le_of_ble_eq_true rfl) rfl (fun ls hl => ?_)
  refine lv_aload_n C.1 C.2.1 (kd kX3_floatHeightAt_0 4 rfl) rfl (lv_at hl 1 rfl) ?_
  refine fl_get (j := 5) (v := .ref (Γ.1 (b0 + 11))) C hP (fe_P h0) (fD_lt h0) rfl inX3 (Nat.le_of_ble_eq_true rfl) tw_127 rfl (kd kX3_floatHeightAt_0 5 rfl) ?_
  refine lv_iload_n C.1 C.2.1 (kd kX3_floatHeightAt_0 6 rfl) rfl (lv_at hl 0 rfl) ?_
  refine lv_iconst (v := (0 : Int32)) C.1 C.2.1 (kd kX3_floatHeightAt_0 7 rfl) (by decide) ?_
  obtain ⟨r1_, σ1, hσ1, hf⟩ := fcall_some hf
  refine fl_i hS (fl_runV (As := [.int (x1 / (60 : Int32)), .int (0 : Int32)]) (rest := []) C hP (fe_T (fD_prt h0).2.2.2.2.2.1) (fD_lt (fD_prt h0).2.2.2.2.2.1) rfl (m_X5_at C.2.2.2.2.2.2.2.2 l (fD_prt h0).2.2.2.2.2.1 hσ1) (fgV tw_417 tw_418 tw_419 tw_69 tw_420) hd_X5_at ⟨rfl, rfl, Nat.le_of_ble_eq_true rfl, Nat.le_of_ble_eq_true rfl⟩ rfl hl.1 rfl (Nat.le_of_ble_eq_true rfl) (kd kX3_floatHeightAt_0 8 rfl)) (fun H locs hP hS => ?_)
  refine lv_i2f C.1 C.2.1 (kd kX3_floatHeightAt_0 9 rfl) ?_
  refine lv_fstore_n (lv' := [(3, .float (FP.i2f r1_)), (2, .int (x1 / (60 : Int32))), (0, .ref (Γ.1 b0)), (1, .int x1)]) C.1 C.2.1 (kd kX3_floatHeightAt_0 10 rfl) rfl hl (Nat.le_of_ble_eq_true rfl) rfl (fun ls hl => ?_)
  refine lv_aload_n C.1 C.2.1 (kd kX3_floatHeightAt_0 11 rfl) rfl (lv_at hl 2 rfl) ?_
  refine fl_get (j := 5) (v := .ref (Γ.1 (b0 + 11))) C hP (fe_P h0) (fD_lt h0) rfl inX3 (Nat.le_of_ble_eq_true rfl) tw_127 rfl (kd kX3_floatHeightAt_0 12 rfl) ?_
  refine lv_iload_n C.1 C.2.1 (kd kX3_floatHeightAt_0 13 rfl) rfl (lv_at hl 1 rfl) ?_
  refine lv_iconst (v := (1 : Int32)) C.1 C.2.1 (kd kX3_floatHeightAt_0 14 rfl) (by decide) ?_
  refine lv_iadd C.1 C.2.1 (kd kX3_floatHeightAt_0 15 rfl) ?_
  refine lv_iconst (v := (0 : Int32)) C.1 C.2.1 (kd kX3_floatHeightAt_0 16 rfl) (by decide) ?_
  obtain ⟨r2_, σ2, hσ2, hf⟩ := fcall_some hf
  refine fl_i hS (fl_runV (As := [.int ((x1 / (60 : Int32)) + (1 : Int32)), .int (0 : Int32)]) (rest := []) C hP (fe_T (fD_prt h0).2.2.2.2.2.1) (fD_lt (fD_prt h0).2.2.2.2.2.1) rfl (m_X5_at C.2.2.2.2.2.2.2.2 l (fD_prt h0).2.2.2.2.2.1 hσ2) (fgV tw_417 tw_418 tw_419 tw_69 tw_420) hd_X5_at ⟨rfl, rfl, Nat.le_of_ble_eq_true rfl, Nat.le_of_ble_eq_true rfl⟩ rfl hl.1 rfl (Nat.le_of_ble_eq_true rfl) (kd kX3_floatHeightAt_0 17 rfl)) (fun H locs hP hS => ?_)
  refine lv_i2f C.1 C.2.1 (kd kX3_floatHeightAt_0 18 rfl) ?_
  refine lv_fstore (lv' := [(4, .float (FP.i2f r2_)), (3, .float (FP.i2f r1_)), (2, .int (x1 / (60 : Int32))), (0, .ref (Γ.1 b0)), (1, .int x1)]) C.1 C.2.1 (kd kX3_floatHeightAt_0 19 rfl) hl (Nat.le_of_ble_eq_true rfl) rfl (fun ls hl => ?_)
  refine lv_fload_n C.1 C.2.1 (kd kX3_floatHeightAt_0 20 rfl) rfl (lv_at hl 1 rfl) ?_
  refine lv_fload C.1 C.2.1 (kd kX3_floatHeightAt_0 21 rfl) (lv_at hl 0 rfl) ?_
  refine lv_fload_n C.1 C.2.1 (kd kX3_floatHeightAt_0 22 rfl) rfl (lv_at hl 1 rfl) ?_
  obtain ⟨hq, hf⟩ := fg_some hf
  refine lv_fsub C.1 C.2.1 (kd kX3_floatHeightAt_0 23 rfl) hq ?_
  refine lv_iload_n C.1 C.2.1 (kd kX3_floatHeightAt_0 24 rfl) rfl (lv_at hl 4 rfl) ?_
  refine lv_bipush (v := (60 : Int32)) C.1 C.2.1 (kd kX3_floatHeightAt_0 25 rfl) (by decide) ?_
  refine lv_iload_n C.1 C.2.1 (kd kX3_floatHeightAt_0 26 rfl) rfl (lv_at hl 2 rfl) ?_
  refine lv_imul C.1 C.2.1 (kd kX3_floatHeightAt_0 27 rfl) ?_
  refine lv_isub C.1 C.2.1 (kd kX3_floatHeightAt_0 28 rfl) ?_
  refine lv_i2f C.1 C.2.1 (kd kX3_floatHeightAt_0 29 rfl) ?_
  refine lv_ldcf (v := 1114636288) C.1 C.2.1 C.2.2.2.2.1 (C.2.2.2.2.2.1 _ tw_574) (kd kX3_floatHeightAt_0 30 rfl) ?_
  obtain ⟨hq, hf⟩ := fg_some hf
  refine lv_fdiv C.1 C.2.1 (kd kX3_floatHeightAt_0 31 rfl) hq ?_
  obtain ⟨hq, hf⟩ := fg_some hf
  refine lv_fmul C.1 C.2.1 (kd kX3_floatHeightAt_0 32 rfl) hq ?_
  obtain ⟨hq, hf⟩ := fg_some hf
  refine lv_fadd C.1 C.2.1 (kd kX3_floatHeightAt_0 33 rfl) hq ?_
  exact fl_fret C hP hS hf (kd kX3_floatHeightAt_0 34 rfl)
def f_X3_waterAt (b0 : Nat) (x1 : Int32) (x2 : Int32) (σ : fS) : Option (Int32 × fS) := fcall (f_X5_at (b0 + 3) 3 2 x1 (0 : Int32) σ) (fun r1_ σ1 => fcall (f_X3_floatHeightAt b0 x2 σ1) (fun r2_ σ2 => some ((r1_ + (FP.f2i r2_)), σ2)))
set_option maxRecDepth 100000 in
set_option maxHeartbeats 4000000 in
theorem m_X3_waterAt {Γ : fGm} (hI : fI Γ) (l : Launch) {b0 : Nat} {x1 : Int32} {x2 : Int32} (h0 : fD b0 = (3, 0, 0)) {σ : fS} {r : Int32} {σ' : fS} (hf : f_X3_waterAt b0 x1 x2 σ = some (r, σ')) : Met l yX3_waterAt (.code yX3_waterAt cX3_waterAt 3 (some .int) :: lw_g) ({ frames := 2, cells := 0, slots := 0, locals := 46 } : Room) (fPre Γ [.ref (Γ.1 b0), .int x1, .int x2] σ) (fQi Γ r σ') 0 0 (fAd Γ) := by
  refine fl_enter (own := RX3) hI (by decide +kernel) rfl (Nat.le_of_ble_eq_true rfl) ?_
  intro p e s m args below meth c ls C hl hP hS
  have hl : lv_has ls 3 [(0, .ref (Γ.1 b0)), (1, .int x1), (2, .int x2)] := hl
  obtain ⟨H, hH⟩ : ∃ H, H = s.heap := ⟨_, rfl⟩
  obtain ⟨locs, hL⟩ : ∃ L : List Loc, L = [] := ⟨_, rfl⟩
  have hP : fH Γ σ H := by rw [hH]; exact hP
  have hS : va_S (fAd Γ) s.heap H locs := by rw [hH, hL]; exact hS
  suffices hw : W p l e ({ frames := 2, cells := 0, slots := 0, locals := 46 } : Room) s m args below meth c H locs 0 0 (MQ below (fQi Γ r σ') args s 0 0 (fAd Γ)) (F0 m 0 ls []) by rw [hH, hL] at hw; exact hw
  unfold f_X3_waterAt at hf
  refine lv_aload_n C.1 C.2.1 (kd kX3_waterAt_0 0 rfl) rfl (lv_at hl 0 rfl) ?_
  refine fl_get (j := 1) (v := .ref (Γ.1 (b0 + 3))) C hP (fe_P h0) (fD_lt h0) rfl inX3 (Nat.le_of_ble_eq_true rfl) tw_115 rfl (kd kX3_waterAt_0 1 rfl) ?_
  refine lv_iload_n C.1 C.2.1 (kd kX3_waterAt_0 2 rfl) rfl (lv_at hl 1 rfl) ?_
  refine lv_iconst (v := (0 : Int32)) C.1 C.2.1 (kd kX3_waterAt_0 3 rfl) (by decide) ?_
  obtain ⟨r1_, σ1, hσ1, hf⟩ := fcall_some hf
  refine fl_i hS (fl_runV (As := [.int x1, .int (0 : Int32)]) (rest := []) C hP (fe_T (fD_prt h0).2.1) (fD_lt (fD_prt h0).2.1) rfl (m_X5_at C.2.2.2.2.2.2.2.2 l (fD_prt h0).2.1 hσ1) (fgV tw_417 tw_418 tw_419 tw_69 tw_420) hd_X5_at ⟨rfl, rfl, Nat.le_of_ble_eq_true rfl, Nat.le_of_ble_eq_true rfl⟩ rfl hl.1 rfl (Nat.le_of_ble_eq_true rfl) (kd kX3_waterAt_0 4 rfl)) (fun H locs hP hS => ?_)
  refine lv_aload_n C.1 C.2.1 (kd kX3_waterAt_0 5 rfl) rfl (lv_at hl 0 rfl) ?_
  refine lv_iload_n C.1 C.2.1 (kd kX3_waterAt_0 6 rfl) rfl (lv_at hl 2 rfl) ?_
  obtain ⟨r2_, σ2, hσ2, hf⟩ := fcall_some hf
  refine fl_f hS (fl_runV (As := [.int x2]) (rest := [.int r1_]) C hP (fe_P h0) (fD_lt h0) rfl (m_X3_floatHeightAt C.2.2.2.2.2.2.2.2 l h0 hσ2) (fgV tw_570 tw_571 tw_572 tw_68 tw_573) hd_X3_floatHeightAt ⟨rfl, rfl, Nat.le_of_ble_eq_true rfl, Nat.le_of_ble_eq_true rfl⟩ rfl hl.1 rfl (Nat.le_of_ble_eq_true rfl) (kd kX3_waterAt_0 7 rfl)) (fun H locs hP hS => ?_)
  refine lv_f2i C.1 C.2.1 (kd kX3_waterAt_0 8 rfl) ?_
  refine lv_iadd C.1 C.2.1 (kd kX3_waterAt_0 9 rfl) ?_
  exact fl_iret C hP hS hf (kd kX3_waterAt_0 10 rfl)
def f_X3_isDeepEnough (b0 : Nat) (x1 : Int32) (x2 : Int32) (x3 : Int32) (σ : fS) : Option (Int32 × fS) := fcall (f_X3_waterAt b0 x1 x3 σ) (fun r1_ σ1 => fcall (f_X5_at (b0 + 1) 4 4 x2 (0 : Int32) σ1) (fun r2_ σ2 => (if r1_ < (r2_ + (σ2 b0 7)) then some ((0 : Int32), σ2) else some ((1 : Int32), σ2))))
set_option maxRecDepth 100000 in
set_option maxHeartbeats 4000000 in
theorem m_X3_isDeepEnough {Γ : fGm} (hI : fI Γ) (l : Launch) {b0 : Nat} {x1 : Int32} {x2 : Int32} {x3 : Int32} (h0 : fD b0 = (3, 0, 0)) {σ : fS} {r : Int32} {σ' : fS} (hf : f_X3_isDeepEnough b0 x1 x2 x3 σ = some (r, σ')) : Met l yX3_isDeepEnough (.code yX3_isDeepEnough cX3_isDeepEnough 4 (some .boolean) :: lw_g) ({ frames := 3, cells := 0, slots := 0, locals := 68 } : Room) (fPre Γ [.ref (Γ.1 b0), .int x1, .int x2, .int x3] σ) (fQi Γ r σ') 0 0 (fAd Γ) := by
  refine fl_enter (own := RX3) hI (by decide +kernel) rfl (Nat.le_of_ble_eq_true rfl) ?_
  intro p e s m args below meth c ls C hl hP hS
  have hl : lv_has ls 4 [(0, .ref (Γ.1 b0)), (1, .int x1), (2, .int x2), (3, .int x3)] := hl
  obtain ⟨H, hH⟩ : ∃ H, H = s.heap := ⟨_, rfl⟩
  obtain ⟨locs, hL⟩ : ∃ L : List Loc, L = [] := ⟨_, rfl⟩
  have hP : fH Γ σ H := by rw [hH]; exact hP
  have hS : va_S (fAd Γ) s.heap H locs := by rw [hH, hL]; exact hS
  suffices hw : W p l e ({ frames := 3, cells := 0, slots := 0, locals := 68 } : Room) s m args below meth c H locs 0 0 (MQ below (fQi Γ r σ') args s 0 0 (fAd Γ)) (F0 m 0 ls []) by rw [hH, hL] at hw; exact hw
  unfold f_X3_isDeepEnough at hf
  refine lv_aload_n C.1 C.2.1 (kd kX3_isDeepEnough_0 0 rfl) rfl (lv_at hl 0 rfl) ?_
  refine lv_iload_n C.1 C.2.1 (kd kX3_isDeepEnough_0 1 rfl) rfl (lv_at hl 1 rfl) ?_
  refine lv_iload_n C.1 C.2.1 (kd kX3_isDeepEnough_0 2 rfl) rfl (lv_at hl 3 rfl) ?_
  obtain ⟨r1_, σ1, hσ1, hf⟩ := fcall_some hf
  refine fl_i hS (fl_runV (As := [.int x1, .int x3]) (rest := []) C hP (fe_P h0) (fD_lt h0) rfl (m_X3_waterAt C.2.2.2.2.2.2.2.2 l h0 hσ1) (fgV tw_566 tw_567 tw_568 tw_68 tw_569) hd_X3_waterAt ⟨rfl, rfl, Nat.le_of_ble_eq_true rfl, Nat.le_of_ble_eq_true rfl⟩ rfl hl.1 rfl (Nat.le_of_ble_eq_true rfl) (kd kX3_isDeepEnough_0 3 rfl)) (fun H locs hP hS => ?_)
  refine lv_aload_n C.1 C.2.1 (kd kX3_isDeepEnough_0 4 rfl) rfl (lv_at hl 0 rfl) ?_
  refine fl_get (j := 0) (v := .ref (Γ.1 (b0 + 1))) C hP (fe_P h0) (fD_lt h0) rfl inX3 (Nat.le_of_ble_eq_true rfl) tw_113 rfl (kd kX3_isDeepEnough_0 5 rfl) ?_
  refine lv_iload_n C.1 C.2.1 (kd kX3_isDeepEnough_0 6 rfl) rfl (lv_at hl 2 rfl) ?_
  refine lv_iconst (v := (0 : Int32)) C.1 C.2.1 (kd kX3_isDeepEnough_0 7 rfl) (by decide) ?_
  obtain ⟨r2_, σ2, hσ2, hf⟩ := fcall_some hf
  refine fl_i hS (fl_runV (As := [.int x2, .int (0 : Int32)]) (rest := [.int r1_]) C hP (fe_T (fD_prt h0).1) (fD_lt (fD_prt h0).1) rfl (m_X5_at C.2.2.2.2.2.2.2.2 l (fD_prt h0).1 hσ2) (fgV tw_417 tw_418 tw_419 tw_69 tw_420) hd_X5_at ⟨rfl, rfl, Nat.le_of_ble_eq_true rfl, Nat.le_of_ble_eq_true rfl⟩ rfl hl.1 rfl (Nat.le_of_ble_eq_true rfl) (kd kX3_isDeepEnough_0 8 rfl)) (fun H locs hP hS => ?_)
  refine lv_aload_n C.1 C.2.1 (kd kX3_isDeepEnough_0 9 rfl) rfl (lv_at hl 0 rfl) ?_
  refine fl_get (j := 7) (v := .int (σ2 b0 7)) C hP (fe_P h0) (fD_lt h0) rfl inX3 (Nat.le_of_ble_eq_true rfl) tw_131 rfl (kd kX3_isDeepEnough_0 10 rfl) ?_
  refine lv_iadd C.1 C.2.1 (kd kX3_isDeepEnough_0 11 rfl) ?_
  refine lv_icmp_lt (tgt := 27) C.1 C.2.1 (kd kX3_isDeepEnough_0 12 rfl) (by decide) (fun q => ?_) (fun q => ?_)
  · have hf := fif_pos q hf
    refine lv_iconst (v := (0 : Int32)) C.1 C.2.1 (kd kX3_isDeepEnough_0 15 rfl) (by decide) ?_
    exact fl_zret C hP hS rfl hf (kd kX3_isDeepEnough_0 16 rfl)
  have hf := fif_neg q hf
  refine lv_iconst (v := (1 : Int32)) C.1 C.2.1 (kd kX3_isDeepEnough_0 13 rfl) (by decide) ?_
  refine lv_goto (tgt := 28) C.1 C.2.1 (kd kX3_isDeepEnough_0 14 rfl) (by decide) ?_
  exact fl_zret C hP hS rfl hf (kd kX3_isDeepEnough_0 16 rfl)
def f_X3_lanesOf (b0 : Nat) (x1 : Int32) (σ : fS) : Option (Int32 × fS) := fcall (f_X5_at (b0 + 5) 12 4 x1 (0 : Int32) σ) (fun r1_ σ1 => fcall (f_X5_at (b0 + 1) 4 4 r1_ (1 : Int32) σ1) (fun r2_ σ2 => some (r2_, σ2)))
set_option maxRecDepth 100000 in
set_option maxHeartbeats 4000000 in
theorem m_X3_lanesOf {Γ : fGm} (hI : fI Γ) (l : Launch) {b0 : Nat} {x1 : Int32} (h0 : fD b0 = (3, 0, 0)) {σ : fS} {r : Int32} {σ' : fS} (hf : f_X3_lanesOf b0 x1 σ = some (r, σ')) : Met l yX3_lanesOf (.code yX3_lanesOf cX3_lanesOf 2 (some .int) :: lw_g) ({ frames := 1, cells := 0, slots := 0, locals := 22 } : Room) (fPre Γ [.ref (Γ.1 b0), .int x1] σ) (fQi Γ r σ') 0 0 (fAd Γ) := by
  refine fl_enter (own := RX3) hI (by decide +kernel) rfl (Nat.le_of_ble_eq_true rfl) ?_
  intro p e s m args below meth c ls C hl hP hS
  have hl : lv_has ls 2 [(0, .ref (Γ.1 b0)), (1, .int x1)] := hl
  obtain ⟨H, hH⟩ : ∃ H, H = s.heap := ⟨_, rfl⟩
  obtain ⟨locs, hL⟩ : ∃ L : List Loc, L = [] := ⟨_, rfl⟩
  have hP : fH Γ σ H := by rw [hH]; exact hP
  have hS : va_S (fAd Γ) s.heap H locs := by rw [hH, hL]; exact hS
  suffices hw : W p l e ({ frames := 1, cells := 0, slots := 0, locals := 22 } : Room) s m args below meth c H locs 0 0 (MQ below (fQi Γ r σ') args s 0 0 (fAd Γ)) (F0 m 0 ls []) by rw [hH, hL] at hw; exact hw
  unfold f_X3_lanesOf at hf
  refine lv_aload_n C.1 C.2.1 (kd kX3_lanesOf_0 0 rfl) rfl (lv_at hl 0 rfl) ?_
  refine fl_get (j := 0) (v := .ref (Γ.1 (b0 + 1))) C hP (fe_P h0) (fD_lt h0) rfl inX3 (Nat.le_of_ble_eq_true rfl) tw_113 rfl (kd kX3_lanesOf_0 1 rfl) ?_
  refine lv_aload_n C.1 C.2.1 (kd kX3_lanesOf_0 2 rfl) rfl (lv_at hl 0 rfl) ?_
  refine fl_get (j := 2) (v := .ref (Γ.1 (b0 + 5))) C hP (fe_P h0) (fD_lt h0) rfl inX3 (Nat.le_of_ble_eq_true rfl) tw_117 rfl (kd kX3_lanesOf_0 3 rfl) ?_
  refine lv_iload_n C.1 C.2.1 (kd kX3_lanesOf_0 4 rfl) rfl (lv_at hl 1 rfl) ?_
  refine lv_iconst (v := (0 : Int32)) C.1 C.2.1 (kd kX3_lanesOf_0 5 rfl) (by decide) ?_
  obtain ⟨r1_, σ1, hσ1, hf⟩ := fcall_some hf
  refine fl_i hS (fl_runV (As := [.int x1, .int (0 : Int32)]) (rest := [.ref (Γ.1 (b0 + 1))]) C hP (fe_T (fD_prt h0).2.2.1) (fD_lt (fD_prt h0).2.2.1) rfl (m_X5_at C.2.2.2.2.2.2.2.2 l (fD_prt h0).2.2.1 hσ1) (fgV tw_417 tw_418 tw_419 tw_69 tw_420) hd_X5_at ⟨rfl, rfl, Nat.le_of_ble_eq_true rfl, Nat.le_of_ble_eq_true rfl⟩ rfl hl.1 rfl (Nat.le_of_ble_eq_true rfl) (kd kX3_lanesOf_0 6 rfl)) (fun H locs hP hS => ?_)
  refine lv_iconst (v := (1 : Int32)) C.1 C.2.1 (kd kX3_lanesOf_0 7 rfl) (by decide) ?_
  obtain ⟨r2_, σ2, hσ2, hf⟩ := fcall_some hf
  refine fl_i hS (fl_runV (As := [.int r1_, .int (1 : Int32)]) (rest := []) C hP (fe_T (fD_prt h0).1) (fD_lt (fD_prt h0).1) rfl (m_X5_at C.2.2.2.2.2.2.2.2 l (fD_prt h0).1 hσ2) (fgV tw_417 tw_418 tw_419 tw_69 tw_420) hd_X5_at ⟨rfl, rfl, Nat.le_of_ble_eq_true rfl, Nat.le_of_ble_eq_true rfl⟩ rfl hl.1 rfl (Nat.le_of_ble_eq_true rfl) (kd kX3_lanesOf_0 8 rfl)) (fun H locs hP hS => ?_)
  exact fl_iret C hP hS hf (kd kX3_lanesOf_0 9 rfl)
def f_X3_laneLengthOf (b0 : Nat) (x1 : Int32) (σ : fS) : Option (Int32 × fS) := fcall (f_X5_at (b0 + 5) 12 4 x1 (0 : Int32) σ) (fun r1_ σ1 => fcall (f_X5_at (b0 + 1) 4 4 r1_ (2 : Int32) σ1) (fun r2_ σ2 => some (r2_, σ2)))
set_option maxRecDepth 100000 in
set_option maxHeartbeats 4000000 in
theorem m_X3_laneLengthOf {Γ : fGm} (hI : fI Γ) (l : Launch) {b0 : Nat} {x1 : Int32} (h0 : fD b0 = (3, 0, 0)) {σ : fS} {r : Int32} {σ' : fS} (hf : f_X3_laneLengthOf b0 x1 σ = some (r, σ')) : Met l yX3_laneLengthOf (.code yX3_laneLengthOf cX3_laneLengthOf 2 (some .int) :: lw_g) ({ frames := 1, cells := 0, slots := 0, locals := 22 } : Room) (fPre Γ [.ref (Γ.1 b0), .int x1] σ) (fQi Γ r σ') 0 0 (fAd Γ) := by
  refine fl_enter (own := RX3) hI (by decide +kernel) rfl (Nat.le_of_ble_eq_true rfl) ?_
  intro p e s m args below meth c ls C hl hP hS
  have hl : lv_has ls 2 [(0, .ref (Γ.1 b0)), (1, .int x1)] := hl
  obtain ⟨H, hH⟩ : ∃ H, H = s.heap := ⟨_, rfl⟩
  obtain ⟨locs, hL⟩ : ∃ L : List Loc, L = [] := ⟨_, rfl⟩
  have hP : fH Γ σ H := by rw [hH]; exact hP
  have hS : va_S (fAd Γ) s.heap H locs := by rw [hH, hL]; exact hS
  suffices hw : W p l e ({ frames := 1, cells := 0, slots := 0, locals := 22 } : Room) s m args below meth c H locs 0 0 (MQ below (fQi Γ r σ') args s 0 0 (fAd Γ)) (F0 m 0 ls []) by rw [hH, hL] at hw; exact hw
  unfold f_X3_laneLengthOf at hf
  refine lv_aload_n C.1 C.2.1 (kd kX3_laneLengthOf_0 0 rfl) rfl (lv_at hl 0 rfl) ?_
  refine fl_get (j := 0) (v := .ref (Γ.1 (b0 + 1))) C hP (fe_P h0) (fD_lt h0) rfl inX3 (Nat.le_of_ble_eq_true rfl) tw_113 rfl (kd kX3_laneLengthOf_0 1 rfl) ?_
  refine lv_aload_n C.1 C.2.1 (kd kX3_laneLengthOf_0 2 rfl) rfl (lv_at hl 0 rfl) ?_
  refine fl_get (j := 2) (v := .ref (Γ.1 (b0 + 5))) C hP (fe_P h0) (fD_lt h0) rfl inX3 (Nat.le_of_ble_eq_true rfl) tw_117 rfl (kd kX3_laneLengthOf_0 3 rfl) ?_
  refine lv_iload_n C.1 C.2.1 (kd kX3_laneLengthOf_0 4 rfl) rfl (lv_at hl 1 rfl) ?_
  refine lv_iconst (v := (0 : Int32)) C.1 C.2.1 (kd kX3_laneLengthOf_0 5 rfl) (by decide) ?_
  obtain ⟨r1_, σ1, hσ1, hf⟩ := fcall_some hf
  refine fl_i hS (fl_runV (As := [.int x1, .int (0 : Int32)]) (rest := [.ref (Γ.1 (b0 + 1))]) C hP (fe_T (fD_prt h0).2.2.1) (fD_lt (fD_prt h0).2.2.1) rfl (m_X5_at C.2.2.2.2.2.2.2.2 l (fD_prt h0).2.2.1 hσ1) (fgV tw_417 tw_418 tw_419 tw_69 tw_420) hd_X5_at ⟨rfl, rfl, Nat.le_of_ble_eq_true rfl, Nat.le_of_ble_eq_true rfl⟩ rfl hl.1 rfl (Nat.le_of_ble_eq_true rfl) (kd kX3_laneLengthOf_0 6 rfl)) (fun H locs hP hS => ?_)
  refine lv_iconst (v := (2 : Int32)) C.1 C.2.1 (kd kX3_laneLengthOf_0 7 rfl) (by decide) ?_
  obtain ⟨r2_, σ2, hσ2, hf⟩ := fcall_some hf
  refine fl_i hS (fl_runV (As := [.int r1_, .int (2 : Int32)]) (rest := []) C hP (fe_T (fD_prt h0).1) (fD_lt (fD_prt h0).1) rfl (m_X5_at C.2.2.2.2.2.2.2.2 l (fD_prt h0).1 hσ2) (fgV tw_417 tw_418 tw_419 tw_69 tw_420) hd_X5_at ⟨rfl, rfl, Nat.le_of_ble_eq_true rfl, Nat.le_of_ble_eq_true rfl⟩ rfl hl.1 rfl (Nat.le_of_ble_eq_true rfl) (kd kX3_laneLengthOf_0 8 rfl)) (fun H locs hP hS => ?_)
  exact fl_iret C hP hS hf (kd kX3_laneLengthOf_0 9 rfl)
def f_X3_copyFrom (b0 : Nat) (b1 : Nat) (σ : fS) : Option (fS) := fcallv (f_X5_copyFrom (b0 + 1) 4 4 (b1 + 1) 4 4 σ) (fun σ1 => fcallv (f_X5_copyFrom (b0 + 3) 3 2 (b1 + 3) 3 2 σ1) (fun σ2 => fcallv (f_X5_copyFrom (b0 + 5) 12 4 (b1 + 5) 12 4 σ2) (fun σ3 => fcallv (f_X5_copyFrom (b0 + 7) 24 3 (b1 + 7) 24 3 σ3) (fun σ4 => fcallv (f_X5_copyFrom (b0 + 9) 8 4 (b1 + 9) 8 4 σ4) (fun σ5 => fcallv (f_X5_copyFrom (b0 + 11) 49 1 (b1 + 11) 49 1 σ5) (fun σ6 => fcallv (f_X5_copyFrom (b0 + 13) 48 1 (b1 + 13) 48 1 σ6) (fun σ7 => fL (fu σ7 b0 7 (σ7 b1 7)) (fun σ8 => some σ8))))))))
set_option maxRecDepth 100000 in
set_option maxHeartbeats 4000000 in
theorem m_X3_copyFrom {Γ : fGm} (hI : fI Γ) (l : Launch) {b0 : Nat} {b1 : Nat} (h0 : fD b0 = (3, 0, 0)) (h1 : fD b1 = (3, 0, 0)) {σ : fS} {σ' : fS} (hf : f_X3_copyFrom b0 b1 σ = some σ') : Met l yX3_copyFrom (.code yX3_copyFrom cX3_copyFrom 2 none :: lw_g) ({ frames := 2, cells := 0, slots := 0, locals := 61 } : Room) (fPre Γ [.ref (Γ.1 b0), .ref (Γ.1 b1)] σ) (fQv Γ σ') 0 0 (fAd Γ) := by
  refine fl_enter (own := RX3) hI (by decide +kernel) rfl (Nat.le_of_ble_eq_true rfl) ?_
  intro p e s m args below meth c ls C hl hP hS
  have hl : lv_has ls 2 [(0, .ref (Γ.1 b0)), (1, .ref (Γ.1 b1))] := hl
  obtain ⟨H, hH⟩ : ∃ H, H = s.heap := ⟨_, rfl⟩
  obtain ⟨locs, hL⟩ : ∃ L : List Loc, L = [] := ⟨_, rfl⟩
  have hP : fH Γ σ H := by rw [hH]; exact hP
  have hS : va_S (fAd Γ) s.heap H locs := by rw [hH, hL]; exact hS
  suffices hw : W p l e ({ frames := 2, cells := 0, slots := 0, locals := 61 } : Room) s m args below meth c H locs 0 0 (MQ below (fQv Γ σ') args s 0 0 (fAd Γ)) (F0 m 0 ls []) by rw [hH, hL] at hw; exact hw
  unfold f_X3_copyFrom at hf
  refine lv_aload_n C.1 C.2.1 (kd kX3_copyFrom_0 0 rfl) rfl (lv_at hl 0 rfl) ?_
  refine fl_get (j := 0) (v := .ref (Γ.1 (b0 + 1))) C hP (fe_P h0) (fD_lt h0) rfl inX3 (Nat.le_of_ble_eq_true rfl) tw_113 rfl (kd kX3_copyFrom_0 1 rfl) ?_
  refine lv_aload_n C.1 C.2.1 (kd kX3_copyFrom_0 2 rfl) rfl (lv_at hl 1 rfl) ?_
  refine fl_get (j := 0) (v := .ref (Γ.1 (b1 + 1))) C hP (fe_P h1) (fD_lt h1) rfl inX3 (Nat.le_of_ble_eq_true rfl) tw_113 rfl (kd kX3_copyFrom_0 3 rfl) ?_
  obtain ⟨σ1, hσ1, hf⟩ := fcallv_some hf
  refine fl_v hS (fl_runV (As := [.ref (Γ.1 (b1 + 1))]) (rest := []) C hP (fe_T (fD_prt h0).1) (fD_lt (fD_prt h0).1) rfl (m_X5_copyFrom C.2.2.2.2.2.2.2.2 l (fD_prt h0).1 (fD_prt h1).1 hσ1) (fgV tw_319 tw_320 tw_321 tw_69 tw_322) hd_X5_copyFrom ⟨rfl, rfl, Nat.le_of_ble_eq_true rfl, Nat.le_of_ble_eq_true rfl⟩ rfl hl.1 rfl (Nat.le_of_ble_eq_true rfl) (kd kX3_copyFrom_0 4 rfl)) (fun H locs hP hS => ?_)
  refine lv_aload_n C.1 C.2.1 (kd kX3_copyFrom_0 5 rfl) rfl (lv_at hl 0 rfl) ?_
  refine fl_get (j := 1) (v := .ref (Γ.1 (b0 + 3))) C hP (fe_P h0) (fD_lt h0) rfl inX3 (Nat.le_of_ble_eq_true rfl) tw_115 rfl (kd kX3_copyFrom_0 6 rfl) ?_
  refine lv_aload_n C.1 C.2.1 (kd kX3_copyFrom_0 7 rfl) rfl (lv_at hl 1 rfl) ?_
  refine fl_get (j := 1) (v := .ref (Γ.1 (b1 + 3))) C hP (fe_P h1) (fD_lt h1) rfl inX3 (Nat.le_of_ble_eq_true rfl) tw_115 rfl (kd kX3_copyFrom_0 8 rfl) ?_
  obtain ⟨σ2, hσ2, hf⟩ := fcallv_some hf
  refine fl_v hS (fl_runV (As := [.ref (Γ.1 (b1 + 3))]) (rest := []) C hP (fe_T (fD_prt h0).2.1) (fD_lt (fD_prt h0).2.1) rfl (m_X5_copyFrom C.2.2.2.2.2.2.2.2 l (fD_prt h0).2.1 (fD_prt h1).2.1 hσ2) (fgV tw_319 tw_320 tw_321 tw_69 tw_322) hd_X5_copyFrom ⟨rfl, rfl, Nat.le_of_ble_eq_true rfl, Nat.le_of_ble_eq_true rfl⟩ rfl hl.1 rfl (Nat.le_of_ble_eq_true rfl) (kd kX3_copyFrom_0 9 rfl)) (fun H locs hP hS => ?_)
  refine lv_aload_n C.1 C.2.1 (kd kX3_copyFrom_0 10 rfl) rfl (lv_at hl 0 rfl) ?_
  refine fl_get (j := 2) (v := .ref (Γ.1 (b0 + 5))) C hP (fe_P h0) (fD_lt h0) rfl inX3 (Nat.le_of_ble_eq_true rfl) tw_117 rfl (kd kX3_copyFrom_0 11 rfl) ?_
  refine lv_aload_n C.1 C.2.1 (kd kX3_copyFrom_0 12 rfl) rfl (lv_at hl 1 rfl) ?_
  refine fl_get (j := 2) (v := .ref (Γ.1 (b1 + 5))) C hP (fe_P h1) (fD_lt h1) rfl inX3 (Nat.le_of_ble_eq_true rfl) tw_117 rfl (kd kX3_copyFrom_0 13 rfl) ?_
  obtain ⟨σ3, hσ3, hf⟩ := fcallv_some hf
  refine fl_v hS (fl_runV (As := [.ref (Γ.1 (b1 + 5))]) (rest := []) C hP (fe_T (fD_prt h0).2.2.1) (fD_lt (fD_prt h0).2.2.1) rfl (m_X5_copyFrom C.2.2.2.2.2.2.2.2 l (fD_prt h0).2.2.1 (fD_prt h1).2.2.1 hσ3) (fgV tw_319 tw_320 tw_321 tw_69 tw_322) hd_X5_copyFrom ⟨rfl, rfl, Nat.le_of_ble_eq_true rfl, Nat.le_of_ble_eq_true rfl⟩ rfl hl.1 rfl (Nat.le_of_ble_eq_true rfl) (kd kX3_copyFrom_0 14 rfl)) (fun H locs hP hS => ?_)
  refine lv_aload_n C.1 C.2.1 (kd kX3_copyFrom_0 15 rfl) rfl (lv_at hl 0 rfl) ?_
  refine fl_get (j := 3) (v := .ref (Γ.1 (b0 + 7))) C hP (fe_P h0) (fD_lt h0) rfl inX3 (Nat.le_of_ble_eq_true rfl) tw_121 rfl (kd kX3_copyFrom_0 16 rfl) ?_
  refine lv_aload_n C.1 C.2.1 (kd kX3_copyFrom_0 17 rfl) rfl (lv_at hl 1 rfl) ?_
  refine fl_get (j := 3) (v := .ref (Γ.1 (b1 + 7))) C hP (fe_P h1) (fD_lt h1) rfl inX3 (Nat.le_of_ble_eq_true rfl) tw_121 rfl (kd kX3_copyFrom_0 18 rfl) ?_
  obtain ⟨σ4, hσ4, hf⟩ := fcallv_some hf
  refine fl_v hS (fl_runV (As := [.ref (Γ.1 (b1 + 7))]) (rest := []) C hP (fe_T (fD_prt h0).2.2.2.1) (fD_lt (fD_prt h0).2.2.2.1) rfl (m_X5_copyFrom C.2.2.2.2.2.2.2.2 l (fD_prt h0).2.2.2.1 (fD_prt h1).2.2.2.1 hσ4) (fgV tw_319 tw_320 tw_321 tw_69 tw_322) hd_X5_copyFrom ⟨rfl, rfl, Nat.le_of_ble_eq_true rfl, Nat.le_of_ble_eq_true rfl⟩ rfl hl.1 rfl (Nat.le_of_ble_eq_true rfl) (kd kX3_copyFrom_0 19 rfl)) (fun H locs hP hS => ?_)
  refine lv_aload_n C.1 C.2.1 (kd kX3_copyFrom_0 20 rfl) rfl (lv_at hl 0 rfl) ?_
  refine fl_get (j := 4) (v := .ref (Γ.1 (b0 + 9))) C hP (fe_P h0) (fD_lt h0) rfl inX3 (Nat.le_of_ble_eq_true rfl) tw_124 rfl (kd kX3_copyFrom_0 21 rfl) ?_
  refine lv_aload_n C.1 C.2.1 (kd kX3_copyFrom_0 22 rfl) rfl (lv_at hl 1 rfl) ?_
  refine fl_get (j := 4) (v := .ref (Γ.1 (b1 + 9))) C hP (fe_P h1) (fD_lt h1) rfl inX3 (Nat.le_of_ble_eq_true rfl) tw_124 rfl (kd kX3_copyFrom_0 23 rfl) ?_
  obtain ⟨σ5, hσ5, hf⟩ := fcallv_some hf
  refine fl_v hS (fl_runV (As := [.ref (Γ.1 (b1 + 9))]) (rest := []) C hP (fe_T (fD_prt h0).2.2.2.2.1) (fD_lt (fD_prt h0).2.2.2.2.1) rfl (m_X5_copyFrom C.2.2.2.2.2.2.2.2 l (fD_prt h0).2.2.2.2.1 (fD_prt h1).2.2.2.2.1 hσ5) (fgV tw_319 tw_320 tw_321 tw_69 tw_322) hd_X5_copyFrom ⟨rfl, rfl, Nat.le_of_ble_eq_true rfl, Nat.le_of_ble_eq_true rfl⟩ rfl hl.1 rfl (Nat.le_of_ble_eq_true rfl) (kd kX3_copyFrom_0 24 rfl)) (fun H locs hP hS => ?_)
  refine lv_aload_n C.1 C.2.1 (kd kX3_copyFrom_0 25 rfl) rfl (lv_at hl 0 rfl) ?_
  refine fl_get (j := 5) (v := .ref (Γ.1 (b0 + 11))) C hP (fe_P h0) (fD_lt h0) rfl inX3 (Nat.le_of_ble_eq_true rfl) tw_127 rfl (kd kX3_copyFrom_0 26 rfl) ?_
  refine lv_aload_n C.1 C.2.1 (kd kX3_copyFrom_0 27 rfl) rfl (lv_at hl 1 rfl) ?_
  refine fl_get (j := 5) (v := .ref (Γ.1 (b1 + 11))) C hP (fe_P h1) (fD_lt h1) rfl inX3 (Nat.le_of_ble_eq_true rfl) tw_127 rfl (kd kX3_copyFrom_0 28 rfl) ?_
  obtain ⟨σ6, hσ6, hf⟩ := fcallv_some hf
  refine fl_v hS (fl_runV (As := [.ref (Γ.1 (b1 + 11))]) (rest := []) C hP (fe_T (fD_prt h0).2.2.2.2.2.1) (fD_lt (fD_prt h0).2.2.2.2.2.1) rfl (m_X5_copyFrom C.2.2.2.2.2.2.2.2 l (fD_prt h0).2.2.2.2.2.1 (fD_prt h1).2.2.2.2.2.1 hσ6) (fgV tw_319 tw_320 tw_321 tw_69 tw_322) hd_X5_copyFrom ⟨rfl, rfl, Nat.le_of_ble_eq_true rfl, Nat.le_of_ble_eq_true rfl⟩ rfl hl.1 rfl (Nat.le_of_ble_eq_true rfl) (kd kX3_copyFrom_0 29 rfl)) (fun H locs hP hS => ?_)
  refine lv_aload_n C.1 C.2.1 (kd kX3_copyFrom_0 30 rfl) rfl (lv_at hl 0 rfl) ?_
  refine fl_get (j := 6) (v := .ref (Γ.1 (b0 + 13))) C hP (fe_P h0) (fD_lt h0) rfl inX3 (Nat.le_of_ble_eq_true rfl) tw_129 rfl (kd kX3_copyFrom_0 31 rfl) ?_
  refine lv_aload_n C.1 C.2.1 (kd kX3_copyFrom_0 32 rfl) rfl (lv_at hl 1 rfl) ?_
  refine fl_get (j := 6) (v := .ref (Γ.1 (b1 + 13))) C hP (fe_P h1) (fD_lt h1) rfl inX3 (Nat.le_of_ble_eq_true rfl) tw_129 rfl (kd kX3_copyFrom_0 33 rfl) ?_
  obtain ⟨σ7, hσ7, hf⟩ := fcallv_some hf
  refine fl_v hS (fl_runV (As := [.ref (Γ.1 (b1 + 13))]) (rest := []) C hP (fe_T (fD_prt h0).2.2.2.2.2.2) (fD_lt (fD_prt h0).2.2.2.2.2.2) rfl (m_X5_copyFrom C.2.2.2.2.2.2.2.2 l (fD_prt h0).2.2.2.2.2.2 (fD_prt h1).2.2.2.2.2.2 hσ7) (fgV tw_319 tw_320 tw_321 tw_69 tw_322) hd_X5_copyFrom ⟨rfl, rfl, Nat.le_of_ble_eq_true rfl, Nat.le_of_ble_eq_true rfl⟩ rfl hl.1 rfl (Nat.le_of_ble_eq_true rfl) (kd kX3_copyFrom_0 34 rfl)) (fun H locs hP hS => ?_)
  refine lv_aload_n C.1 C.2.1 (kd kX3_copyFrom_0 35 rfl) rfl (lv_at hl 0 rfl) ?_
  refine lv_aload_n C.1 C.2.1 (kd kX3_copyFrom_0 36 rfl) rfl (lv_at hl 1 rfl) ?_
  refine fl_get (j := 7) (v := .int (σ7 b1 7)) C hP (fe_P h1) (fD_lt h1) rfl inX3 (Nat.le_of_ble_eq_true rfl) tw_131 rfl (kd kX3_copyFrom_0 37 rfl) ?_
  obtain ⟨σ8, eσ8, hf⟩ := fL_some hf
  refine fl_put (j := 7) C hP hS (fe_P h0) (fe_P h0) (fD_lt h0) rfl inX3 tyX3 tyX3_ok nmX3 (Nat.le_of_ble_eq_true rfl) tw_131 rfl rfl rfl (Nat.le_of_ble_eq_true rfl) (kd kX3_copyFrom_0 38 rfl) (fun H locs hP hS => ?_)
  have hP : fH Γ σ8 H := by rw [eσ8]; exact hP
  exact fl_vret C hP hS hf (kd kX3_copyFrom_0 39 rfl)
def f_X3_rampsOf (b0 : Nat) (x1 : Int32) (σ : fS) : Option (Int32 × fS) := fcall (f_X5_at (b0 + 5) 12 4 x1 (1 : Int32) σ) (fun r1_ σ1 => fcall (f_X5_at (b0 + 3) 3 2 r1_ (1 : Int32) σ1) (fun r2_ σ2 => some (r2_, σ2)))
set_option maxRecDepth 100000 in
set_option maxHeartbeats 4000000 in
theorem m_X3_rampsOf {Γ : fGm} (hI : fI Γ) (l : Launch) {b0 : Nat} {x1 : Int32} (h0 : fD b0 = (3, 0, 0)) {σ : fS} {r : Int32} {σ' : fS} (hf : f_X3_rampsOf b0 x1 σ = some (r, σ')) : Met l yX3_rampsOf (.code yX3_rampsOf cX3_rampsOf 2 (some .int) :: lw_g) ({ frames := 1, cells := 0, slots := 0, locals := 22 } : Room) (fPre Γ [.ref (Γ.1 b0), .int x1] σ) (fQi Γ r σ') 0 0 (fAd Γ) := by
  refine fl_enter (own := RX3) hI (by decide +kernel) rfl (Nat.le_of_ble_eq_true rfl) ?_
  intro p e s m args below meth c ls C hl hP hS
  have hl : lv_has ls 2 [(0, .ref (Γ.1 b0)), (1, .int x1)] := hl
  obtain ⟨H, hH⟩ : ∃ H, H = s.heap := ⟨_, rfl⟩
  obtain ⟨locs, hL⟩ : ∃ L : List Loc, L = [] := ⟨_, rfl⟩
  have hP : fH Γ σ H := by rw [hH]; exact hP
  have hS : va_S (fAd Γ) s.heap H locs := by rw [hH, hL]; exact hS
  suffices hw : W p l e ({ frames := 1, cells := 0, slots := 0, locals := 22 } : Room) s m args below meth c H locs 0 0 (MQ below (fQi Γ r σ') args s 0 0 (fAd Γ)) (F0 m 0 ls []) by rw [hH, hL] at hw; exact hw
  unfold f_X3_rampsOf at hf
  refine lv_aload_n C.1 C.2.1 (kd kX3_rampsOf_0 0 rfl) rfl (lv_at hl 0 rfl) ?_
  refine fl_get (j := 1) (v := .ref (Γ.1 (b0 + 3))) C hP (fe_P h0) (fD_lt h0) rfl inX3 (Nat.le_of_ble_eq_true rfl) tw_115 rfl (kd kX3_rampsOf_0 1 rfl) ?_
  refine lv_aload_n C.1 C.2.1 (kd kX3_rampsOf_0 2 rfl) rfl (lv_at hl 0 rfl) ?_
  refine fl_get (j := 2) (v := .ref (Γ.1 (b0 + 5))) C hP (fe_P h0) (fD_lt h0) rfl inX3 (Nat.le_of_ble_eq_true rfl) tw_117 rfl (kd kX3_rampsOf_0 3 rfl) ?_
  refine lv_iload_n C.1 C.2.1 (kd kX3_rampsOf_0 4 rfl) rfl (lv_at hl 1 rfl) ?_
  refine lv_iconst (v := (1 : Int32)) C.1 C.2.1 (kd kX3_rampsOf_0 5 rfl) (by decide) ?_
  obtain ⟨r1_, σ1, hσ1, hf⟩ := fcall_some hf
  refine fl_i hS (fl_runV (As := [.int x1, .int (1 : Int32)]) (rest := [.ref (Γ.1 (b0 + 3))]) C hP (fe_T (fD_prt h0).2.2.1) (fD_lt (fD_prt h0).2.2.1) rfl (m_X5_at C.2.2.2.2.2.2.2.2 l (fD_prt h0).2.2.1 hσ1) (fgV tw_417 tw_418 tw_419 tw_69 tw_420) hd_X5_at ⟨rfl, rfl, Nat.le_of_ble_eq_true rfl, Nat.le_of_ble_eq_true rfl⟩ rfl hl.1 rfl (Nat.le_of_ble_eq_true rfl) (kd kX3_rampsOf_0 6 rfl)) (fun H locs hP hS => ?_)
  refine lv_iconst (v := (1 : Int32)) C.1 C.2.1 (kd kX3_rampsOf_0 7 rfl) (by decide) ?_
  obtain ⟨r2_, σ2, hσ2, hf⟩ := fcall_some hf
  refine fl_i hS (fl_runV (As := [.int r1_, .int (1 : Int32)]) (rest := []) C hP (fe_T (fD_prt h0).2.1) (fD_lt (fD_prt h0).2.1) rfl (m_X5_at C.2.2.2.2.2.2.2.2 l (fD_prt h0).2.1 hσ2) (fgV tw_417 tw_418 tw_419 tw_69 tw_420) hd_X5_at ⟨rfl, rfl, Nat.le_of_ble_eq_true rfl, Nat.le_of_ble_eq_true rfl⟩ rfl hl.1 rfl (Nat.le_of_ble_eq_true rfl) (kd kX3_rampsOf_0 8 rfl)) (fun H locs hP hS => ?_)
  exact fl_iret C hP hS hf (kd kX3_rampsOf_0 9 rfl)
def f_X3_enterShip (b0 : Nat) (x1 : Int32) (x2 : Int32) (x3 : Int32) (x4 : Int32) (σ : fS) : Option (Int32 × fS) := fcall (f_X7_isOutside x1 (50 : Int32) (900 : Int32) σ) (fun r1_ σ1 => (if r1_ = 0 then fcall (f_X7_isOutside x2 (1 : Int32) (4 : Int32) σ1) (fun r2_ σ2 => (if r2_ = 0 then fcall (f_X7_isOutside x3 (10 : Int32) (200 : Int32) σ2) (fun r3_ σ3 => (if r3_ = 0 then fcall (f_X7_isOutside x4 (0 : Int32) (99 : Int32) σ3) (fun r4_ σ4 => (if r4_ = 0 then fcall (f_X5_addRow (b0 + 1) 4 4 x1 x2 x3 x4 σ4) (fun r5_ σ5 => some (r5_, σ5)) else some ((-10002 : Int32), σ4))) else some ((-10002 : Int32), σ3))) else some ((-10002 : Int32), σ2))) else some ((-10002 : Int32), σ1)))
set_option maxRecDepth 100000 in
set_option maxHeartbeats 4000000 in
theorem m_X3_enterShip {Γ : fGm} (hI : fI Γ) (l : Launch) {b0 : Nat} {x1 : Int32} {x2 : Int32} {x3 : Int32} {x4 : Int32} (h0 : fD b0 = (3, 0, 0)) {σ : fS} {r : Int32} {σ' : fS} (hf : f_X3_enterShip b0 x1 x2 x3 x4 σ = some (r, σ')) : Met l yX3_enterShip (.code yX3_enterShip cX3_enterShip 5 (some .int) :: lw_g) ({ frames := 2, cells := 0, slots := 0, locals := 48 } : Room) (fPre Γ [.ref (Γ.1 b0), .int x1, .int x2, .int x3, .int x4] σ) (fQi Γ r σ') 0 0 (fAd Γ) := by
  refine fl_enter (own := RX3) hI (by decide +kernel) rfl (Nat.le_of_ble_eq_true rfl) ?_
  intro p e s m args below meth c ls C hl hP hS
  have hl : lv_has ls 5 [(0, .ref (Γ.1 b0)), (1, .int x1), (2, .int x2), (3, .int x3), (4, .int x4)] := hl
  obtain ⟨H, hH⟩ : ∃ H, H = s.heap := ⟨_, rfl⟩
  obtain ⟨locs, hL⟩ : ∃ L : List Loc, L = [] := ⟨_, rfl⟩
  have hP : fH Γ σ H := by rw [hH]; exact hP
  have hS : va_S (fAd Γ) s.heap H locs := by rw [hH, hL]; exact hS
  suffices hw : W p l e ({ frames := 2, cells := 0, slots := 0, locals := 48 } : Room) s m args below meth c H locs 0 0 (MQ below (fQi Γ r σ') args s 0 0 (fAd Γ)) (F0 m 0 ls []) by rw [hH, hL] at hw; exact hw
  unfold f_X3_enterShip at hf
  refine lv_iload_n C.1 C.2.1 (kd kX3_enterShip_0 0 rfl) rfl (lv_at hl 1 rfl) ?_
  refine lv_bipush (v := (50 : Int32)) C.1 C.2.1 (kd kX3_enterShip_0 1 rfl) (by decide) ?_
  refine lv_sipush (v := (900 : Int32)) C.1 C.2.1 (kd kX3_enterShip_0 2 rfl) (by decide) ?_
  obtain ⟨r1_, σ1, hσ1, hf⟩ := fcall_some hf
  refine fl_i hS (fl_runN (As := [.int x1, .int (50 : Int32), .int (900 : Int32)]) (rest := []) C hP (m_X7_isOutside C.2.2.2.2.2.2.2.2 l  hσ1) (fgN tw_335) C.2.2.2.2.2.2.2.1.2.1 tw_67 tw_334 hs_X7_isOutside ⟨rfl, rfl, Nat.le_of_ble_eq_true rfl, Nat.le_of_ble_eq_true rfl⟩ rfl hl.1 rfl (Nat.le_of_ble_eq_true rfl) (kd kX3_enterShip_0 3 rfl)) (fun H locs hP hS => ?_)
  refine lv_if_ne (tgt := 44) C.1 C.2.1 (kd kX3_enterShip_0 4 rfl) (by decide) (fun q => ?_) (fun q => ?_)
  · have hf := fif_neg q hf
    refine lv_sipush (v := (-10002 : Int32)) C.1 C.2.1 (kd kX3_enterShip_0 20 rfl) (by decide) ?_
    exact fl_iret C hP hS hf (kd kX3_enterShip_0 21 rfl)
  have hf := fif_pos q hf
  refine lv_iload_n C.1 C.2.1 (kd kX3_enterShip_0 5 rfl) rfl (lv_at hl 2 rfl) ?_
  refine lv_iconst (v := (1 : Int32)) C.1 C.2.1 (kd kX3_enterShip_0 6 rfl) (by decide) ?_
  refine lv_iconst (v := (4 : Int32)) C.1 C.2.1 (kd kX3_enterShip_0 7 rfl) (by decide) ?_
  obtain ⟨r2_, σ2, hσ2, hf⟩ := fcall_some hf
  refine fl_i hS (fl_runN (As := [.int x2, .int (1 : Int32), .int (4 : Int32)]) (rest := []) C hP (m_X7_isOutside C.2.2.2.2.2.2.2.2 l  hσ2) (fgN tw_335) C.2.2.2.2.2.2.2.1.2.1 tw_67 tw_334 hs_X7_isOutside ⟨rfl, rfl, Nat.le_of_ble_eq_true rfl, Nat.le_of_ble_eq_true rfl⟩ rfl hl.1 rfl (Nat.le_of_ble_eq_true rfl) (kd kX3_enterShip_0 8 rfl)) (fun H locs hP hS => ?_)
  refine lv_if_ne (tgt := 44) C.1 C.2.1 (kd kX3_enterShip_0 9 rfl) (by decide) (fun q => ?_) (fun q => ?_)
  · have hf := fif_neg q hf
    refine lv_sipush (v := (-10002 : Int32)) C.1 C.2.1 (kd kX3_enterShip_0 20 rfl) (by decide) ?_
    exact fl_iret C hP hS hf (kd kX3_enterShip_0 21 rfl)
  have hf := fif_pos q hf
  refine lv_iload_n C.1 C.2.1 (kd kX3_enterShip_0 10 rfl) rfl (lv_at hl 3 rfl) ?_
  refine lv_bipush (v := (10 : Int32)) C.1 C.2.1 (kd kX3_enterShip_0 11 rfl) (by decide) ?_
  refine lv_sipush (v := (200 : Int32)) C.1 C.2.1 (kd kX3_enterShip_0 12 rfl) (by decide) ?_
  obtain ⟨r3_, σ3, hσ3, hf⟩ := fcall_some hf
  refine fl_i hS (fl_runN (As := [.int x3, .int (10 : Int32), .int (200 : Int32)]) (rest := []) C hP (m_X7_isOutside C.2.2.2.2.2.2.2.2 l  hσ3) (fgN tw_335) C.2.2.2.2.2.2.2.1.2.1 tw_67 tw_334 hs_X7_isOutside ⟨rfl, rfl, Nat.le_of_ble_eq_true rfl, Nat.le_of_ble_eq_true rfl⟩ rfl hl.1 rfl (Nat.le_of_ble_eq_true rfl) (kd kX3_enterShip_0 13 rfl)) (fun H locs hP hS => ?_)
  refine lv_if_ne (tgt := 44) C.1 C.2.1 (kd kX3_enterShip_0 14 rfl) (by decide) (fun q => ?_) (fun q => ?_)
  · have hf := fif_neg q hf
    refine lv_sipush (v := (-10002 : Int32)) C.1 C.2.1 (kd kX3_enterShip_0 20 rfl) (by decide) ?_
    exact fl_iret C hP hS hf (kd kX3_enterShip_0 21 rfl)
  have hf := fif_pos q hf
  refine lv_iload C.1 C.2.1 (kd kX3_enterShip_0 15 rfl) (lv_at hl 4 rfl) ?_
  refine lv_iconst (v := (0 : Int32)) C.1 C.2.1 (kd kX3_enterShip_0 16 rfl) (by decide) ?_
  refine lv_bipush (v := (99 : Int32)) C.1 C.2.1 (kd kX3_enterShip_0 17 rfl) (by decide) ?_
  obtain ⟨r4_, σ4, hσ4, hf⟩ := fcall_some hf
  refine fl_i hS (fl_runN (As := [.int x4, .int (0 : Int32), .int (99 : Int32)]) (rest := []) C hP (m_X7_isOutside C.2.2.2.2.2.2.2.2 l  hσ4) (fgN tw_335) C.2.2.2.2.2.2.2.1.2.1 tw_67 tw_334 hs_X7_isOutside ⟨rfl, rfl, Nat.le_of_ble_eq_true rfl, Nat.le_of_ble_eq_true rfl⟩ rfl hl.1 rfl (Nat.le_of_ble_eq_true rfl) (kd kX3_enterShip_0 18 rfl)) (fun H locs hP hS => ?_)
  refine lv_if_eq (tgt := 48) C.1 C.2.1 (kd kX3_enterShip_0 19 rfl) (by decide) (fun q => ?_) (fun q => ?_)
  · have hf := fif_pos q hf
    refine lv_aload_n C.1 C.2.1 (kd kX3_enterShip_0 22 rfl) rfl (lv_at hl 0 rfl) ?_
    refine fl_get (j := 0) (v := .ref (Γ.1 (b0 + 1))) C hP (fe_P h0) (fD_lt h0) rfl inX3 (Nat.le_of_ble_eq_true rfl) tw_113 rfl (kd kX3_enterShip_0 23 rfl) ?_
    refine lv_iload_n C.1 C.2.1 (kd kX3_enterShip_0 24 rfl) rfl (lv_at hl 1 rfl) ?_
    refine lv_iload_n C.1 C.2.1 (kd kX3_enterShip_0 25 rfl) rfl (lv_at hl 2 rfl) ?_
    refine lv_iload_n C.1 C.2.1 (kd kX3_enterShip_0 26 rfl) rfl (lv_at hl 3 rfl) ?_
    refine lv_iload C.1 C.2.1 (kd kX3_enterShip_0 27 rfl) (lv_at hl 4 rfl) ?_
    obtain ⟨r5_, σ5, hσ5, hf⟩ := fcall_some hf
    refine fl_i hS (fl_runV (As := [.int x1, .int x2, .int x3, .int x4]) (rest := []) C hP (fe_T (fD_prt h0).1) (fD_lt (fD_prt h0).1) rfl (m_X5_addRow C.2.2.2.2.2.2.2.2 l (fD_prt h0).1 hσ5) (fgV tw_336 tw_337 tw_338 tw_69 tw_339) hd_X5_addRow ⟨rfl, rfl, Nat.le_of_ble_eq_true rfl, Nat.le_of_ble_eq_true rfl⟩ rfl hl.1 rfl (Nat.le_of_ble_eq_true rfl) (kd kX3_enterShip_0 28 rfl)) (fun H locs hP hS => ?_)
    exact fl_iret C hP hS hf (kd kX3_enterShip_0 29 rfl)
  have hf := fif_neg q hf
  refine lv_sipush (v := (-10002 : Int32)) C.1 C.2.1 (kd kX3_enterShip_0 20 rfl) (by decide) ?_
  exact fl_iret C hP hS hf (kd kX3_enterShip_0 21 rfl)
def f_X3_isBerth (x0 : Int32) (x1 : Int32) (σ : fS) : Option (Int32 × fS) := fcall (f_X7_isOutside x0 (0 : Int32) (999 : Int32) σ) (fun r1_ σ1 => (if r1_ = 0 then fcall (f_X7_isOutside x1 (1 : Int32) (2 : Int32) σ1) (fun r2_ σ2 => (if r2_ = 0 then some ((1 : Int32), σ2) else some ((0 : Int32), σ2))) else some ((0 : Int32), σ1)))
set_option maxRecDepth 100000 in
set_option maxHeartbeats 4000000 in
theorem m_X3_isBerth {Γ : fGm} (hI : fI Γ) (l : Launch) {x0 : Int32} {x1 : Int32} {σ : fS} {r : Int32} {σ' : fS} (hf : f_X3_isBerth x0 x1 σ = some (r, σ')) : Met l yX3_isBerth (.code yX3_isBerth cX3_isBerth 2 (some .boolean) :: lw_g) ({ frames := 1, cells := 0, slots := 0, locals := 22 } : Room) (fPre Γ [.int x0, .int x1] σ) (fQi Γ r σ') 0 0 (fAd Γ) := by
  refine fl_enter (own := RX3) hI (by decide +kernel) rfl (Nat.le_of_ble_eq_true rfl) ?_
  intro p e s m args below meth c ls C hl hP hS
  have hl : lv_has ls 2 [(0, .int x0), (1, .int x1)] := hl
  obtain ⟨H, hH⟩ : ∃ H, H = s.heap := ⟨_, rfl⟩
  obtain ⟨locs, hL⟩ : ∃ L : List Loc, L = [] := ⟨_, rfl⟩
  have hP : fH Γ σ H := by rw [hH]; exact hP
  have hS : va_S (fAd Γ) s.heap H locs := by rw [hH, hL]; exact hS
  suffices hw : W p l e ({ frames := 1, cells := 0, slots := 0, locals := 22 } : Room) s m args below meth c H locs 0 0 (MQ below (fQi Γ r σ') args s 0 0 (fAd Γ)) (F0 m 0 ls []) by rw [hH, hL] at hw; exact hw
  unfold f_X3_isBerth at hf
  refine lv_iload_n C.1 C.2.1 (kd kX3_isBerth_0 0 rfl) rfl (lv_at hl 0 rfl) ?_
  refine lv_iconst (v := (0 : Int32)) C.1 C.2.1 (kd kX3_isBerth_0 1 rfl) (by decide) ?_
  refine lv_sipush (v := (999 : Int32)) C.1 C.2.1 (kd kX3_isBerth_0 2 rfl) (by decide) ?_
  obtain ⟨r1_, σ1, hσ1, hf⟩ := fcall_some hf
  refine fl_i hS (fl_runN (As := [.int x0, .int (0 : Int32), .int (999 : Int32)]) (rest := []) C hP (m_X7_isOutside C.2.2.2.2.2.2.2.2 l  hσ1) (fgN tw_335) C.2.2.2.2.2.2.2.1.2.1 tw_67 tw_334 hs_X7_isOutside ⟨rfl, rfl, Nat.le_of_ble_eq_true rfl, Nat.le_of_ble_eq_true rfl⟩ rfl hl.1 rfl (Nat.le_of_ble_eq_true rfl) (kd kX3_isBerth_0 3 rfl)) (fun H locs hP hS => ?_)
  refine lv_if_ne (tgt := 24) C.1 C.2.1 (kd kX3_isBerth_0 4 rfl) (by decide) (fun q => ?_) (fun q => ?_)
  · have hf := fif_neg q hf
    refine lv_iconst (v := (0 : Int32)) C.1 C.2.1 (kd kX3_isBerth_0 12 rfl) (by decide) ?_
    exact fl_zret C hP hS rfl hf (kd kX3_isBerth_0 13 rfl)
  have hf := fif_pos q hf
  refine lv_iload_n C.1 C.2.1 (kd kX3_isBerth_0 5 rfl) rfl (lv_at hl 1 rfl) ?_
  refine lv_iconst (v := (1 : Int32)) C.1 C.2.1 (kd kX3_isBerth_0 6 rfl) (by decide) ?_
  refine lv_iconst (v := (2 : Int32)) C.1 C.2.1 (kd kX3_isBerth_0 7 rfl) (by decide) ?_
  obtain ⟨r2_, σ2, hσ2, hf⟩ := fcall_some hf
  refine fl_i hS (fl_runN (As := [.int x1, .int (1 : Int32), .int (2 : Int32)]) (rest := []) C hP (m_X7_isOutside C.2.2.2.2.2.2.2.2 l  hσ2) (fgN tw_335) C.2.2.2.2.2.2.2.1.2.1 tw_67 tw_334 hs_X7_isOutside ⟨rfl, rfl, Nat.le_of_ble_eq_true rfl, Nat.le_of_ble_eq_true rfl⟩ rfl hl.1 rfl (Nat.le_of_ble_eq_true rfl) (kd kX3_isBerth_0 8 rfl)) (fun H locs hP hS => ?_)
  refine lv_if_ne (tgt := 24) C.1 C.2.1 (kd kX3_isBerth_0 9 rfl) (by decide) (fun q => ?_) (fun q => ?_)
  · have hf := fif_neg q hf
    refine lv_iconst (v := (0 : Int32)) C.1 C.2.1 (kd kX3_isBerth_0 12 rfl) (by decide) ?_
    exact fl_zret C hP hS rfl hf (kd kX3_isBerth_0 13 rfl)
  have hf := fif_pos q hf
  refine lv_iconst (v := (1 : Int32)) C.1 C.2.1 (kd kX3_isBerth_0 10 rfl) (by decide) ?_
  refine lv_goto (tgt := 25) C.1 C.2.1 (kd kX3_isBerth_0 11 rfl) (by decide) ?_
  exact fl_zret C hP hS rfl hf (kd kX3_isBerth_0 13 rfl)
def f_X3_enterBerth (b0 : Nat) (x1 : Int32) (x2 : Int32) (σ : fS) : Option (Int32 × fS) := fcall (f_X3_isBerth x1 x2 σ) (fun r1_ σ1 => (if r1_ = 0 then some ((-10002 : Int32), σ1) else fcall (f_X5_addRow (b0 + 3) 3 2 x1 x2 (0 : Int32) (0 : Int32) σ1) (fun r2_ σ2 => some (r2_, σ2))))
set_option maxRecDepth 100000 in
set_option maxHeartbeats 4000000 in
theorem m_X3_enterBerth {Γ : fGm} (hI : fI Γ) (l : Launch) {b0 : Nat} {x1 : Int32} {x2 : Int32} (h0 : fD b0 = (3, 0, 0)) {σ : fS} {r : Int32} {σ' : fS} (hf : f_X3_enterBerth b0 x1 x2 σ = some (r, σ')) : Met l yX3_enterBerth (.code yX3_enterBerth cX3_enterBerth 3 (some .int) :: lw_g) ({ frames := 2, cells := 0, slots := 0, locals := 48 } : Room) (fPre Γ [.ref (Γ.1 b0), .int x1, .int x2] σ) (fQi Γ r σ') 0 0 (fAd Γ) := by
  refine fl_enter (own := RX3) hI (by decide +kernel) rfl (Nat.le_of_ble_eq_true rfl) ?_
  intro p e s m args below meth c ls C hl hP hS
  have hl : lv_has ls 3 [(0, .ref (Γ.1 b0)), (1, .int x1), (2, .int x2)] := hl
  obtain ⟨H, hH⟩ : ∃ H, H = s.heap := ⟨_, rfl⟩
  obtain ⟨locs, hL⟩ : ∃ L : List Loc, L = [] := ⟨_, rfl⟩
  have hP : fH Γ σ H := by rw [hH]; exact hP
  have hS : va_S (fAd Γ) s.heap H locs := by rw [hH, hL]; exact hS
  suffices hw : W p l e ({ frames := 2, cells := 0, slots := 0, locals := 48 } : Room) s m args below meth c H locs 0 0 (MQ below (fQi Γ r σ') args s 0 0 (fAd Γ)) (F0 m 0 ls []) by rw [hH, hL] at hw; exact hw
  unfold f_X3_enterBerth at hf
  refine lv_iload_n C.1 C.2.1 (kd kX3_enterBerth_0 0 rfl) rfl (lv_at hl 1 rfl) ?_
  refine lv_iload_n C.1 C.2.1 (kd kX3_enterBerth_0 1 rfl) rfl (lv_at hl 2 rfl) ?_
  obtain ⟨r1_, σ1, hσ1, hf⟩ := fcall_some hf
  refine fl_i hS (fl_runS (As := [.int x1, .int x2]) (rest := []) C hP (m_X3_isBerth C.2.2.2.2.2.2.2.2 l  hσ1) (fgS tw_366 tw_367 tw_68 tw_368) hs_X3_isBerth ⟨rfl, rfl, Nat.le_of_ble_eq_true rfl, Nat.le_of_ble_eq_true rfl⟩ rfl hl.1 rfl (Nat.le_of_ble_eq_true rfl) (kd kX3_enterBerth_0 2 rfl)) (fun H locs hP hS => ?_)
  refine lv_if_eq (tgt := 22) C.1 C.2.1 (kd kX3_enterBerth_0 3 rfl) (by decide) (fun q => ?_) (fun q => ?_)
  · have hf := fif_pos q hf
    refine lv_sipush (v := (-10002 : Int32)) C.1 C.2.1 (kd kX3_enterBerth_0 12 rfl) (by decide) ?_
    exact fl_iret C hP hS hf (kd kX3_enterBerth_0 13 rfl)
  have hf := fif_neg q hf
  refine lv_aload_n C.1 C.2.1 (kd kX3_enterBerth_0 4 rfl) rfl (lv_at hl 0 rfl) ?_
  refine fl_get (j := 1) (v := .ref (Γ.1 (b0 + 3))) C hP (fe_P h0) (fD_lt h0) rfl inX3 (Nat.le_of_ble_eq_true rfl) tw_115 rfl (kd kX3_enterBerth_0 5 rfl) ?_
  refine lv_iload_n C.1 C.2.1 (kd kX3_enterBerth_0 6 rfl) rfl (lv_at hl 1 rfl) ?_
  refine lv_iload_n C.1 C.2.1 (kd kX3_enterBerth_0 7 rfl) rfl (lv_at hl 2 rfl) ?_
  refine lv_iconst (v := (0 : Int32)) C.1 C.2.1 (kd kX3_enterBerth_0 8 rfl) (by decide) ?_
  refine lv_iconst (v := (0 : Int32)) C.1 C.2.1 (kd kX3_enterBerth_0 9 rfl) (by decide) ?_
  obtain ⟨r2_, σ2, hσ2, hf⟩ := fcall_some hf
  refine fl_i hS (fl_runV (As := [.int x1, .int x2, .int (0 : Int32), .int (0 : Int32)]) (rest := []) C hP (fe_T (fD_prt h0).2.1) (fD_lt (fD_prt h0).2.1) rfl (m_X5_addRow C.2.2.2.2.2.2.2.2 l (fD_prt h0).2.1 hσ2) (fgV tw_336 tw_337 tw_338 tw_69 tw_339) hd_X5_addRow ⟨rfl, rfl, Nat.le_of_ble_eq_true rfl, Nat.le_of_ble_eq_true rfl⟩ rfl hl.1 rfl (Nat.le_of_ble_eq_true rfl) (kd kX3_enterBerth_0 10 rfl)) (fun H locs hP hS => ?_)
  refine lv_goto (tgt := 25) C.1 C.2.1 (kd kX3_enterBerth_0 11 rfl) (by decide) ?_
  exact fl_iret C hP hS hf (kd kX3_enterBerth_0 13 rfl)
def f_X3_enterCrossing (b0 : Nat) (x1 : Int32) (x2 : Int32) (x3 : Int32) (x4 : Int32) (σ : fS) : Option (Int32 × fS) := fcall (f_X5_has (b0 + 1) 4 4 x1 σ) (fun r1_ σ1 => (if r1_ = 0 then some ((-10001 : Int32), σ1) else fcall (f_X5_has (b0 + 3) 3 2 x2 σ1) (fun r2_ σ2 => (if r2_ = 0 then some ((-10001 : Int32), σ2) else (if x3 < 0 then some ((-10002 : Int32), σ2) else fcall (f_X7_isOutside x4 (0 : Int32) (2800 : Int32) σ2) (fun r3_ σ3 => (if r3_ = 0 then fcall (f_X7_isOutside (x4 - x3) (1 : Int32) (300 : Int32) σ3) (fun r4_ σ4 => (if r4_ = 0 then fcall (f_X5_addRow (b0 + 5) 12 4 x1 x2 x3 x4 σ4) (fun r5_ σ5 => some (r5_, σ5)) else some ((-10002 : Int32), σ4))) else some ((-10002 : Int32), σ3))))))))
set_option maxRecDepth 100000 in
set_option maxHeartbeats 4000000 in
theorem m_X3_enterCrossing {Γ : fGm} (hI : fI Γ) (l : Launch) {b0 : Nat} {x1 : Int32} {x2 : Int32} {x3 : Int32} {x4 : Int32} (h0 : fD b0 = (3, 0, 0)) {σ : fS} {r : Int32} {σ' : fS} (hf : f_X3_enterCrossing b0 x1 x2 x3 x4 σ = some (r, σ')) : Met l yX3_enterCrossing (.code yX3_enterCrossing cX3_enterCrossing 5 (some .int) :: lw_g) ({ frames := 2, cells := 0, slots := 0, locals := 48 } : Room) (fPre Γ [.ref (Γ.1 b0), .int x1, .int x2, .int x3, .int x4] σ) (fQi Γ r σ') 0 0 (fAd Γ) := by
  refine fl_enter (own := RX3) hI (by decide +kernel) rfl (Nat.le_of_ble_eq_true rfl) ?_
  intro p e s m args below meth c ls C hl hP hS
  have hl : lv_has ls 5 [(0, .ref (Γ.1 b0)), (1, .int x1), (2, .int x2), (3, .int x3), (4, .int x4)] := hl
  obtain ⟨H, hH⟩ : ∃ H, H = s.heap := ⟨_, rfl⟩
  obtain ⟨locs, hL⟩ : ∃ L : List Loc, L = [] := ⟨_, rfl⟩
  have hP : fH Γ σ H := by rw [hH]; exact hP
  have hS : va_S (fAd Γ) s.heap H locs := by rw [hH, hL]; exact hS
  suffices hw : W p l e ({ frames := 2, cells := 0, slots := 0, locals := 48 } : Room) s m args below meth c H locs 0 0 (MQ below (fQi Γ r σ') args s 0 0 (fAd Γ)) (F0 m 0 ls []) by rw [hH, hL] at hw; exact hw
  unfold f_X3_enterCrossing at hf
  refine lv_aload_n C.1 C.2.1 (kd kX3_enterCrossing_0 0 rfl) rfl (lv_at hl 0 rfl) ?_
  refine fl_get (j := 0) (v := .ref (Γ.1 (b0 + 1))) C hP (fe_P h0) (fD_lt h0) rfl inX3 (Nat.le_of_ble_eq_true rfl) tw_113 rfl (kd kX3_enterCrossing_0 1 rfl) ?_
  refine lv_iload_n C.1 C.2.1 (kd kX3_enterCrossing_0 2 rfl) rfl (lv_at hl 1 rfl) ?_
  obtain ⟨r1_, σ1, hσ1, hf⟩ := fcall_some hf
  refine fl_i hS (fl_runV (As := [.int x1]) (rest := []) C hP (fe_T (fD_prt h0).1) (fD_lt (fD_prt h0).1) rfl (m_X5_has C.2.2.2.2.2.2.2.2 l (fD_prt h0).1 hσ1) (fgV tw_377 tw_378 tw_379 tw_69 tw_380) hd_X5_has ⟨rfl, rfl, Nat.le_of_ble_eq_true rfl, Nat.le_of_ble_eq_true rfl⟩ rfl hl.1 rfl (Nat.le_of_ble_eq_true rfl) (kd kX3_enterCrossing_0 3 rfl)) (fun H locs hP hS => ?_)
  refine lv_if_eq (tgt := 22) C.1 C.2.1 (kd kX3_enterCrossing_0 4 rfl) (by decide) (fun q => ?_) (fun q => ?_)
  · have hf := fif_pos q hf
    refine lv_sipush (v := (-10001 : Int32)) C.1 C.2.1 (kd kX3_enterCrossing_0 10 rfl) (by decide) ?_
    exact fl_iret C hP hS hf (kd kX3_enterCrossing_0 11 rfl)
  have hf := fif_neg q hf
  refine lv_aload_n C.1 C.2.1 (kd kX3_enterCrossing_0 5 rfl) rfl (lv_at hl 0 rfl) ?_
  refine fl_get (j := 1) (v := .ref (Γ.1 (b0 + 3))) C hP (fe_P h0) (fD_lt h0) rfl inX3 (Nat.le_of_ble_eq_true rfl) tw_115 rfl (kd kX3_enterCrossing_0 6 rfl) ?_
  refine lv_iload_n C.1 C.2.1 (kd kX3_enterCrossing_0 7 rfl) rfl (lv_at hl 2 rfl) ?_
  obtain ⟨r2_, σ2, hσ2, hf⟩ := fcall_some hf
  refine fl_i hS (fl_runV (As := [.int x2]) (rest := []) C hP (fe_T (fD_prt h0).2.1) (fD_lt (fD_prt h0).2.1) rfl (m_X5_has C.2.2.2.2.2.2.2.2 l (fD_prt h0).2.1 hσ2) (fgV tw_377 tw_378 tw_379 tw_69 tw_380) hd_X5_has ⟨rfl, rfl, Nat.le_of_ble_eq_true rfl, Nat.le_of_ble_eq_true rfl⟩ rfl hl.1 rfl (Nat.le_of_ble_eq_true rfl) (kd kX3_enterCrossing_0 8 rfl)) (fun H locs hP hS => ?_)
  refine lv_if_ne (tgt := 26) C.1 C.2.1 (kd kX3_enterCrossing_0 9 rfl) (by decide) (fun q => ?_) (fun q => ?_)
  · have hf := fif_neg q hf
    refine lv_iload_n C.1 C.2.1 (kd kX3_enterCrossing_0 12 rfl) rfl (lv_at hl 3 rfl) ?_
    refine lv_if_lt (tgt := 56) C.1 C.2.1 (kd kX3_enterCrossing_0 13 rfl) (by decide) (fun q => ?_) (fun q => ?_)
    · have hf := fif_pos q hf
      refine lv_sipush (v := (-10002 : Int32)) C.1 C.2.1 (kd kX3_enterCrossing_0 26 rfl) (by decide) ?_
      exact fl_iret C hP hS hf (kd kX3_enterCrossing_0 27 rfl)
    have hf := fif_neg q hf
    refine lv_iload C.1 C.2.1 (kd kX3_enterCrossing_0 14 rfl) (lv_at hl 4 rfl) ?_
    refine lv_iconst (v := (0 : Int32)) C.1 C.2.1 (kd kX3_enterCrossing_0 15 rfl) (by decide) ?_
    refine lv_sipush (v := (2800 : Int32)) C.1 C.2.1 (kd kX3_enterCrossing_0 16 rfl) (by decide) ?_
    obtain ⟨r3_, σ3, hσ3, hf⟩ := fcall_some hf
    refine fl_i hS (fl_runN (As := [.int x4, .int (0 : Int32), .int (2800 : Int32)]) (rest := []) C hP (m_X7_isOutside C.2.2.2.2.2.2.2.2 l  hσ3) (fgN tw_335) C.2.2.2.2.2.2.2.1.2.1 tw_67 tw_334 hs_X7_isOutside ⟨rfl, rfl, Nat.le_of_ble_eq_true rfl, Nat.le_of_ble_eq_true rfl⟩ rfl hl.1 rfl (Nat.le_of_ble_eq_true rfl) (kd kX3_enterCrossing_0 17 rfl)) (fun H locs hP hS => ?_)
    refine lv_if_ne (tgt := 56) C.1 C.2.1 (kd kX3_enterCrossing_0 18 rfl) (by decide) (fun q => ?_) (fun q => ?_)
    · have hf := fif_neg q hf
      refine lv_sipush (v := (-10002 : Int32)) C.1 C.2.1 (kd kX3_enterCrossing_0 26 rfl) (by decide) ?_
      exact fl_iret C hP hS hf (kd kX3_enterCrossing_0 27 rfl)
    have hf := fif_pos q hf
    refine lv_iload C.1 C.2.1 (kd kX3_enterCrossing_0 19 rfl) (lv_at hl 4 rfl) ?_
    refine lv_iload_n C.1 C.2.1 (kd kX3_enterCrossing_0 20 rfl) rfl (lv_at hl 3 rfl) ?_
    refine lv_isub C.1 C.2.1 (kd kX3_enterCrossing_0 21 rfl) ?_
    refine lv_iconst (v := (1 : Int32)) C.1 C.2.1 (kd kX3_enterCrossing_0 22 rfl) (by decide) ?_
    refine lv_sipush (v := (300 : Int32)) C.1 C.2.1 (kd kX3_enterCrossing_0 23 rfl) (by decide) ?_
    obtain ⟨r4_, σ4, hσ4, hf⟩ := fcall_some hf
    refine fl_i hS (fl_runN (As := [.int (x4 - x3), .int (1 : Int32), .int (300 : Int32)]) (rest := []) C hP (m_X7_isOutside C.2.2.2.2.2.2.2.2 l  hσ4) (fgN tw_335) C.2.2.2.2.2.2.2.1.2.1 tw_67 tw_334 hs_X7_isOutside ⟨rfl, rfl, Nat.le_of_ble_eq_true rfl, Nat.le_of_ble_eq_true rfl⟩ rfl hl.1 rfl (Nat.le_of_ble_eq_true rfl) (kd kX3_enterCrossing_0 24 rfl)) (fun H locs hP hS => ?_)
    refine lv_if_eq (tgt := 60) C.1 C.2.1 (kd kX3_enterCrossing_0 25 rfl) (by decide) (fun q => ?_) (fun q => ?_)
    · have hf := fif_pos q hf
      refine lv_aload_n C.1 C.2.1 (kd kX3_enterCrossing_0 28 rfl) rfl (lv_at hl 0 rfl) ?_
      refine fl_get (j := 2) (v := .ref (Γ.1 (b0 + 5))) C hP (fe_P h0) (fD_lt h0) rfl inX3 (Nat.le_of_ble_eq_true rfl) tw_117 rfl (kd kX3_enterCrossing_0 29 rfl) ?_
      refine lv_iload_n C.1 C.2.1 (kd kX3_enterCrossing_0 30 rfl) rfl (lv_at hl 1 rfl) ?_
      refine lv_iload_n C.1 C.2.1 (kd kX3_enterCrossing_0 31 rfl) rfl (lv_at hl 2 rfl) ?_
      refine lv_iload_n C.1 C.2.1 (kd kX3_enterCrossing_0 32 rfl) rfl (lv_at hl 3 rfl) ?_
      refine lv_iload C.1 C.2.1 (kd kX3_enterCrossing_0 33 rfl) (lv_at hl 4 rfl) ?_
      obtain ⟨r5_, σ5, hσ5, hf⟩ := fcall_some hf
      refine fl_i hS (fl_runV (As := [.int x1, .int x2, .int x3, .int x4]) (rest := []) C hP (fe_T (fD_prt h0).2.2.1) (fD_lt (fD_prt h0).2.2.1) rfl (m_X5_addRow C.2.2.2.2.2.2.2.2 l (fD_prt h0).2.2.1 hσ5) (fgV tw_336 tw_337 tw_338 tw_69 tw_339) hd_X5_addRow ⟨rfl, rfl, Nat.le_of_ble_eq_true rfl, Nat.le_of_ble_eq_true rfl⟩ rfl hl.1 rfl (Nat.le_of_ble_eq_true rfl) (kd kX3_enterCrossing_0 34 rfl)) (fun H locs hP hS => ?_)
      exact fl_iret C hP hS hf (kd kX3_enterCrossing_0 35 rfl)
    have hf := fif_neg q hf
    refine lv_sipush (v := (-10002 : Int32)) C.1 C.2.1 (kd kX3_enterCrossing_0 26 rfl) (by decide) ?_
    exact fl_iret C hP hS hf (kd kX3_enterCrossing_0 27 rfl)
  have hf := fif_pos q hf
  refine lv_sipush (v := (-10001 : Int32)) C.1 C.2.1 (kd kX3_enterCrossing_0 10 rfl) (by decide) ?_
  exact fl_iret C hP hS hf (kd kX3_enterCrossing_0 11 rfl)
def f_X3_enterVehicle (b0 : Nat) (x1 : Int32) (x2 : Int32) (x3 : Int32) (σ : fS) : Option (Int32 × fS) := fcall (f_X5_has (b0 + 5) 12 4 x1 σ) (fun r1_ σ1 => (if r1_ = 0 then some ((-10001 : Int32), σ1) else fcall (f_X7_isOutside x2 (3 : Int32) (30 : Int32) σ1) (fun r2_ σ2 => (if r2_ = 0 then fcall (f_X7_isOutside x3 (0 : Int32) (5 : Int32) σ2) (fun r3_ σ3 => (if r3_ = 0 then fcall (f_X5_addRow (b0 + 7) 24 3 x1 x2 x3 (0 : Int32) σ3) (fun r4_ σ4 => some (r4_, σ4)) else some ((-10002 : Int32), σ3))) else some ((-10002 : Int32), σ2)))))
set_option maxRecDepth 100000 in
set_option maxHeartbeats 4000000 in
theorem m_X3_enterVehicle {Γ : fGm} (hI : fI Γ) (l : Launch) {b0 : Nat} {x1 : Int32} {x2 : Int32} {x3 : Int32} (h0 : fD b0 = (3, 0, 0)) {σ : fS} {r : Int32} {σ' : fS} (hf : f_X3_enterVehicle b0 x1 x2 x3 σ = some (r, σ')) : Met l yX3_enterVehicle (.code yX3_enterVehicle cX3_enterVehicle 4 (some .int) :: lw_g) ({ frames := 2, cells := 0, slots := 0, locals := 48 } : Room) (fPre Γ [.ref (Γ.1 b0), .int x1, .int x2, .int x3] σ) (fQi Γ r σ') 0 0 (fAd Γ) := by
  refine fl_enter (own := RX3) hI (by decide +kernel) rfl (Nat.le_of_ble_eq_true rfl) ?_
  intro p e s m args below meth c ls C hl hP hS
  have hl : lv_has ls 4 [(0, .ref (Γ.1 b0)), (1, .int x1), (2, .int x2), (3, .int x3)] := hl
  obtain ⟨H, hH⟩ : ∃ H, H = s.heap := ⟨_, rfl⟩
  obtain ⟨locs, hL⟩ : ∃ L : List Loc, L = [] := ⟨_, rfl⟩
  have hP : fH Γ σ H := by rw [hH]; exact hP
  have hS : va_S (fAd Γ) s.heap H locs := by rw [hH, hL]; exact hS
  suffices hw : W p l e ({ frames := 2, cells := 0, slots := 0, locals := 48 } : Room) s m args below meth c H locs 0 0 (MQ below (fQi Γ r σ') args s 0 0 (fAd Γ)) (F0 m 0 ls []) by rw [hH, hL] at hw; exact hw
  unfold f_X3_enterVehicle at hf
  refine lv_aload_n C.1 C.2.1 (kd kX3_enterVehicle_0 0 rfl) rfl (lv_at hl 0 rfl) ?_
  refine fl_get (j := 2) (v := .ref (Γ.1 (b0 + 5))) C hP (fe_P h0) (fD_lt h0) rfl inX3 (Nat.le_of_ble_eq_true rfl) tw_117 rfl (kd kX3_enterVehicle_0 1 rfl) ?_
  refine lv_iload_n C.1 C.2.1 (kd kX3_enterVehicle_0 2 rfl) rfl (lv_at hl 1 rfl) ?_
  obtain ⟨r1_, σ1, hσ1, hf⟩ := fcall_some hf
  refine fl_i hS (fl_runV (As := [.int x1]) (rest := []) C hP (fe_T (fD_prt h0).2.2.1) (fD_lt (fD_prt h0).2.2.1) rfl (m_X5_has C.2.2.2.2.2.2.2.2 l (fD_prt h0).2.2.1 hσ1) (fgV tw_377 tw_378 tw_379 tw_69 tw_380) hd_X5_has ⟨rfl, rfl, Nat.le_of_ble_eq_true rfl, Nat.le_of_ble_eq_true rfl⟩ rfl hl.1 rfl (Nat.le_of_ble_eq_true rfl) (kd kX3_enterVehicle_0 3 rfl)) (fun H locs hP hS => ?_)
  refine lv_if_ne (tgt := 15) C.1 C.2.1 (kd kX3_enterVehicle_0 4 rfl) (by decide) (fun q => ?_) (fun q => ?_)
  · have hf := fif_neg q hf
    refine lv_iload_n C.1 C.2.1 (kd kX3_enterVehicle_0 7 rfl) rfl (lv_at hl 2 rfl) ?_
    refine lv_iconst (v := (3 : Int32)) C.1 C.2.1 (kd kX3_enterVehicle_0 8 rfl) (by decide) ?_
    refine lv_bipush (v := (30 : Int32)) C.1 C.2.1 (kd kX3_enterVehicle_0 9 rfl) (by decide) ?_
    obtain ⟨r2_, σ2, hσ2, hf⟩ := fcall_some hf
    refine fl_i hS (fl_runN (As := [.int x2, .int (3 : Int32), .int (30 : Int32)]) (rest := []) C hP (m_X7_isOutside C.2.2.2.2.2.2.2.2 l  hσ2) (fgN tw_335) C.2.2.2.2.2.2.2.1.2.1 tw_67 tw_334 hs_X7_isOutside ⟨rfl, rfl, Nat.le_of_ble_eq_true rfl, Nat.le_of_ble_eq_true rfl⟩ rfl hl.1 rfl (Nat.le_of_ble_eq_true rfl) (kd kX3_enterVehicle_0 10 rfl)) (fun H locs hP hS => ?_)
    refine lv_if_ne (tgt := 34) C.1 C.2.1 (kd kX3_enterVehicle_0 11 rfl) (by decide) (fun q => ?_) (fun q => ?_)
    · have hf := fif_neg q hf
      refine lv_sipush (v := (-10002 : Int32)) C.1 C.2.1 (kd kX3_enterVehicle_0 17 rfl) (by decide) ?_
      exact fl_iret C hP hS hf (kd kX3_enterVehicle_0 18 rfl)
    have hf := fif_pos q hf
    refine lv_iload_n C.1 C.2.1 (kd kX3_enterVehicle_0 12 rfl) rfl (lv_at hl 3 rfl) ?_
    refine lv_iconst (v := (0 : Int32)) C.1 C.2.1 (kd kX3_enterVehicle_0 13 rfl) (by decide) ?_
    refine lv_iconst (v := (5 : Int32)) C.1 C.2.1 (kd kX3_enterVehicle_0 14 rfl) (by decide) ?_
    obtain ⟨r3_, σ3, hσ3, hf⟩ := fcall_some hf
    refine fl_i hS (fl_runN (As := [.int x3, .int (0 : Int32), .int (5 : Int32)]) (rest := []) C hP (m_X7_isOutside C.2.2.2.2.2.2.2.2 l  hσ3) (fgN tw_335) C.2.2.2.2.2.2.2.1.2.1 tw_67 tw_334 hs_X7_isOutside ⟨rfl, rfl, Nat.le_of_ble_eq_true rfl, Nat.le_of_ble_eq_true rfl⟩ rfl hl.1 rfl (Nat.le_of_ble_eq_true rfl) (kd kX3_enterVehicle_0 15 rfl)) (fun H locs hP hS => ?_)
    refine lv_if_eq (tgt := 38) C.1 C.2.1 (kd kX3_enterVehicle_0 16 rfl) (by decide) (fun q => ?_) (fun q => ?_)
    · have hf := fif_pos q hf
      refine lv_aload_n C.1 C.2.1 (kd kX3_enterVehicle_0 19 rfl) rfl (lv_at hl 0 rfl) ?_
      refine fl_get (j := 3) (v := .ref (Γ.1 (b0 + 7))) C hP (fe_P h0) (fD_lt h0) rfl inX3 (Nat.le_of_ble_eq_true rfl) tw_121 rfl (kd kX3_enterVehicle_0 20 rfl) ?_
      refine lv_iload_n C.1 C.2.1 (kd kX3_enterVehicle_0 21 rfl) rfl (lv_at hl 1 rfl) ?_
      refine lv_iload_n C.1 C.2.1 (kd kX3_enterVehicle_0 22 rfl) rfl (lv_at hl 2 rfl) ?_
      refine lv_iload_n C.1 C.2.1 (kd kX3_enterVehicle_0 23 rfl) rfl (lv_at hl 3 rfl) ?_
      refine lv_iconst (v := (0 : Int32)) C.1 C.2.1 (kd kX3_enterVehicle_0 24 rfl) (by decide) ?_
      obtain ⟨r4_, σ4, hσ4, hf⟩ := fcall_some hf
      refine fl_i hS (fl_runV (As := [.int x1, .int x2, .int x3, .int (0 : Int32)]) (rest := []) C hP (fe_T (fD_prt h0).2.2.2.1) (fD_lt (fD_prt h0).2.2.2.1) rfl (m_X5_addRow C.2.2.2.2.2.2.2.2 l (fD_prt h0).2.2.2.1 hσ4) (fgV tw_336 tw_337 tw_338 tw_69 tw_339) hd_X5_addRow ⟨rfl, rfl, Nat.le_of_ble_eq_true rfl, Nat.le_of_ble_eq_true rfl⟩ rfl hl.1 rfl (Nat.le_of_ble_eq_true rfl) (kd kX3_enterVehicle_0 25 rfl)) (fun H locs hP hS => ?_)
      exact fl_iret C hP hS hf (kd kX3_enterVehicle_0 26 rfl)
    have hf := fif_neg q hf
    refine lv_sipush (v := (-10002 : Int32)) C.1 C.2.1 (kd kX3_enterVehicle_0 17 rfl) (by decide) ?_
    exact fl_iret C hP hS hf (kd kX3_enterVehicle_0 18 rfl)
  have hf := fif_pos q hf
  refine lv_sipush (v := (-10001 : Int32)) C.1 C.2.1 (kd kX3_enterVehicle_0 5 rfl) (by decide) ?_
  exact fl_iret C hP hS hf (kd kX3_enterVehicle_0 6 rfl)
def f_X3_enterConnection (b0 : Nat) (x1 : Int32) (x2 : Int32) (x3 : Int32) (x4 : Int32) (σ : fS) : Option (Int32 × fS) := fcall (f_X5_has (b0 + 5) 12 4 x1 σ) (fun r1_ σ1 => (if r1_ = 0 then some ((-10001 : Int32), σ1) else fcall (f_X7_isOutside x2 (0 : Int32) (2800 : Int32) σ1) (fun r2_ σ2 => (if r2_ = 0 then fcall (f_X7_isOutside x3 (0 : Int32) (60 : Int32) σ2) (fun r3_ σ3 => (if r3_ = 0 then fcall (f_X7_isOutside x4 (1 : Int32) (999 : Int32) σ3) (fun r4_ σ4 => (if r4_ = 0 then fcall (f_X5_addRow (b0 + 9) 8 4 x1 x2 x3 x4 σ4) (fun r5_ σ5 => some (r5_, σ5)) else some ((-10002 : Int32), σ4))) else some ((-10002 : Int32), σ3))) else some ((-10002 : Int32), σ2)))))
set_option maxRecDepth 100000 in
set_option maxHeartbeats 4000000 in
theorem m_X3_enterConnection {Γ : fGm} (hI : fI Γ) (l : Launch) {b0 : Nat} {x1 : Int32} {x2 : Int32} {x3 : Int32} {x4 : Int32} (h0 : fD b0 = (3, 0, 0)) {σ : fS} {r : Int32} {σ' : fS} (hf : f_X3_enterConnection b0 x1 x2 x3 x4 σ = some (r, σ')) : Met l yX3_enterConnection (.code yX3_enterConnection cX3_enterConnection 5 (some .int) :: lw_g) ({ frames := 2, cells := 0, slots := 0, locals := 48 } : Room) (fPre Γ [.ref (Γ.1 b0), .int x1, .int x2, .int x3, .int x4] σ) (fQi Γ r σ') 0 0 (fAd Γ) := by
  refine fl_enter (own := RX3) hI (by decide +kernel) rfl (Nat.le_of_ble_eq_true rfl) ?_
  intro p e s m args below meth c ls C hl hP hS
  have hl : lv_has ls 5 [(0, .ref (Γ.1 b0)), (1, .int x1), (2, .int x2), (3, .int x3), (4, .int x4)] := hl
  obtain ⟨H, hH⟩ : ∃ H, H = s.heap := ⟨_, rfl⟩
  obtain ⟨locs, hL⟩ : ∃ L : List Loc, L = [] := ⟨_, rfl⟩
  have hP : fH Γ σ H := by rw [hH]; exact hP
  have hS : va_S (fAd Γ) s.heap H locs := by rw [hH, hL]; exact hS
  suffices hw : W p l e ({ frames := 2, cells := 0, slots := 0, locals := 48 } : Room) s m args below meth c H locs 0 0 (MQ below (fQi Γ r σ') args s 0 0 (fAd Γ)) (F0 m 0 ls []) by rw [hH, hL] at hw; exact hw
  unfold f_X3_enterConnection at hf
  refine lv_aload_n C.1 C.2.1 (kd kX3_enterConnection_0 0 rfl) rfl (lv_at hl 0 rfl) ?_
  refine fl_get (j := 2) (v := .ref (Γ.1 (b0 + 5))) C hP (fe_P h0) (fD_lt h0) rfl inX3 (Nat.le_of_ble_eq_true rfl) tw_117 rfl (kd kX3_enterConnection_0 1 rfl) ?_
  refine lv_iload_n C.1 C.2.1 (kd kX3_enterConnection_0 2 rfl) rfl (lv_at hl 1 rfl) ?_
  obtain ⟨r1_, σ1, hσ1, hf⟩ := fcall_some hf
  refine fl_i hS (fl_runV (As := [.int x1]) (rest := []) C hP (fe_T (fD_prt h0).2.2.1) (fD_lt (fD_prt h0).2.2.1) rfl (m_X5_has C.2.2.2.2.2.2.2.2 l (fD_prt h0).2.2.1 hσ1) (fgV tw_377 tw_378 tw_379 tw_69 tw_380) hd_X5_has ⟨rfl, rfl, Nat.le_of_ble_eq_true rfl, Nat.le_of_ble_eq_true rfl⟩ rfl hl.1 rfl (Nat.le_of_ble_eq_true rfl) (kd kX3_enterConnection_0 3 rfl)) (fun H locs hP hS => ?_)
  refine lv_if_ne (tgt := 15) C.1 C.2.1 (kd kX3_enterConnection_0 4 rfl) (by decide) (fun q => ?_) (fun q => ?_)
  · have hf := fif_neg q hf
    refine lv_iload_n C.1 C.2.1 (kd kX3_enterConnection_0 7 rfl) rfl (lv_at hl 2 rfl) ?_
    refine lv_iconst (v := (0 : Int32)) C.1 C.2.1 (kd kX3_enterConnection_0 8 rfl) (by decide) ?_
    refine lv_sipush (v := (2800 : Int32)) C.1 C.2.1 (kd kX3_enterConnection_0 9 rfl) (by decide) ?_
    obtain ⟨r2_, σ2, hσ2, hf⟩ := fcall_some hf
    refine fl_i hS (fl_runN (As := [.int x2, .int (0 : Int32), .int (2800 : Int32)]) (rest := []) C hP (m_X7_isOutside C.2.2.2.2.2.2.2.2 l  hσ2) (fgN tw_335) C.2.2.2.2.2.2.2.1.2.1 tw_67 tw_334 hs_X7_isOutside ⟨rfl, rfl, Nat.le_of_ble_eq_true rfl, Nat.le_of_ble_eq_true rfl⟩ rfl hl.1 rfl (Nat.le_of_ble_eq_true rfl) (kd kX3_enterConnection_0 10 rfl)) (fun H locs hP hS => ?_)
    refine lv_if_ne (tgt := 48) C.1 C.2.1 (kd kX3_enterConnection_0 11 rfl) (by decide) (fun q => ?_) (fun q => ?_)
    · have hf := fif_neg q hf
      refine lv_sipush (v := (-10002 : Int32)) C.1 C.2.1 (kd kX3_enterConnection_0 22 rfl) (by decide) ?_
      exact fl_iret C hP hS hf (kd kX3_enterConnection_0 23 rfl)
    have hf := fif_pos q hf
    refine lv_iload_n C.1 C.2.1 (kd kX3_enterConnection_0 12 rfl) rfl (lv_at hl 3 rfl) ?_
    refine lv_iconst (v := (0 : Int32)) C.1 C.2.1 (kd kX3_enterConnection_0 13 rfl) (by decide) ?_
    refine lv_bipush (v := (60 : Int32)) C.1 C.2.1 (kd kX3_enterConnection_0 14 rfl) (by decide) ?_
    obtain ⟨r3_, σ3, hσ3, hf⟩ := fcall_some hf
    refine fl_i hS (fl_runN (As := [.int x3, .int (0 : Int32), .int (60 : Int32)]) (rest := []) C hP (m_X7_isOutside C.2.2.2.2.2.2.2.2 l  hσ3) (fgN tw_335) C.2.2.2.2.2.2.2.1.2.1 tw_67 tw_334 hs_X7_isOutside ⟨rfl, rfl, Nat.le_of_ble_eq_true rfl, Nat.le_of_ble_eq_true rfl⟩ rfl hl.1 rfl (Nat.le_of_ble_eq_true rfl) (kd kX3_enterConnection_0 15 rfl)) (fun H locs hP hS => ?_)
    refine lv_if_ne (tgt := 48) C.1 C.2.1 (kd kX3_enterConnection_0 16 rfl) (by decide) (fun q => ?_) (fun q => ?_)
    · have hf := fif_neg q hf
      refine lv_sipush (v := (-10002 : Int32)) C.1 C.2.1 (kd kX3_enterConnection_0 22 rfl) (by decide) ?_
      exact fl_iret C hP hS hf (kd kX3_enterConnection_0 23 rfl)
    have hf := fif_pos q hf
    refine lv_iload C.1 C.2.1 (kd kX3_enterConnection_0 17 rfl) (lv_at hl 4 rfl) ?_
    refine lv_iconst (v := (1 : Int32)) C.1 C.2.1 (kd kX3_enterConnection_0 18 rfl) (by decide) ?_
    refine lv_sipush (v := (999 : Int32)) C.1 C.2.1 (kd kX3_enterConnection_0 19 rfl) (by decide) ?_
    obtain ⟨r4_, σ4, hσ4, hf⟩ := fcall_some hf
    refine fl_i hS (fl_runN (As := [.int x4, .int (1 : Int32), .int (999 : Int32)]) (rest := []) C hP (m_X7_isOutside C.2.2.2.2.2.2.2.2 l  hσ4) (fgN tw_335) C.2.2.2.2.2.2.2.1.2.1 tw_67 tw_334 hs_X7_isOutside ⟨rfl, rfl, Nat.le_of_ble_eq_true rfl, Nat.le_of_ble_eq_true rfl⟩ rfl hl.1 rfl (Nat.le_of_ble_eq_true rfl) (kd kX3_enterConnection_0 20 rfl)) (fun H locs hP hS => ?_)
    refine lv_if_eq (tgt := 52) C.1 C.2.1 (kd kX3_enterConnection_0 21 rfl) (by decide) (fun q => ?_) (fun q => ?_)
    · have hf := fif_pos q hf
      refine lv_aload_n C.1 C.2.1 (kd kX3_enterConnection_0 24 rfl) rfl (lv_at hl 0 rfl) ?_
      refine fl_get (j := 4) (v := .ref (Γ.1 (b0 + 9))) C hP (fe_P h0) (fD_lt h0) rfl inX3 (Nat.le_of_ble_eq_true rfl) tw_124 rfl (kd kX3_enterConnection_0 25 rfl) ?_
      refine lv_iload_n C.1 C.2.1 (kd kX3_enterConnection_0 26 rfl) rfl (lv_at hl 1 rfl) ?_
      refine lv_iload_n C.1 C.2.1 (kd kX3_enterConnection_0 27 rfl) rfl (lv_at hl 2 rfl) ?_
      refine lv_iload_n C.1 C.2.1 (kd kX3_enterConnection_0 28 rfl) rfl (lv_at hl 3 rfl) ?_
      refine lv_iload C.1 C.2.1 (kd kX3_enterConnection_0 29 rfl) (lv_at hl 4 rfl) ?_
      obtain ⟨r5_, σ5, hσ5, hf⟩ := fcall_some hf
      refine fl_i hS (fl_runV (As := [.int x1, .int x2, .int x3, .int x4]) (rest := []) C hP (fe_T (fD_prt h0).2.2.2.2.1) (fD_lt (fD_prt h0).2.2.2.2.1) rfl (m_X5_addRow C.2.2.2.2.2.2.2.2 l (fD_prt h0).2.2.2.2.1 hσ5) (fgV tw_336 tw_337 tw_338 tw_69 tw_339) hd_X5_addRow ⟨rfl, rfl, Nat.le_of_ble_eq_true rfl, Nat.le_of_ble_eq_true rfl⟩ rfl hl.1 rfl (Nat.le_of_ble_eq_true rfl) (kd kX3_enterConnection_0 30 rfl)) (fun H locs hP hS => ?_)
      exact fl_iret C hP hS hf (kd kX3_enterConnection_0 31 rfl)
    have hf := fif_neg q hf
    refine lv_sipush (v := (-10002 : Int32)) C.1 C.2.1 (kd kX3_enterConnection_0 22 rfl) (by decide) ?_
    exact fl_iret C hP hS hf (kd kX3_enterConnection_0 23 rfl)
  have hf := fif_pos q hf
  refine lv_sipush (v := (-10001 : Int32)) C.1 C.2.1 (kd kX3_enterConnection_0 5 rfl) (by decide) ?_
  exact fl_iret C hP hS hf (kd kX3_enterConnection_0 6 rfl)
def f_X3_dropRowsOf_b49 (t0 r0 w0 : Nat) (K7 : Int32 → Int32 → Int32 → fS → Option (fS)) (v1 : Int32) (v2 : Int32) (v3 : Int32) (σ : fS) : Option (fS) := K7 (v1) (v2) ((v3 + (-1 : Int32))) σ
set_option maxRecDepth 100000 in
set_option maxHeartbeats 4000000 in
theorem w_X3_dropRowsOf_b49 {t0 r0 w0 : Nat} {σ' : fS} {K7 : Int32 → Int32 → Int32 → fS → Option (fS)} (h0 : fD t0 = (2, r0, w0))  (C : fC Γ p s m args meth c cX3_dropRowsOf none RX3 5) (hK7 : ∀ (v1 : Int32) (v2 : Int32) (v3 : Int32) (σ : fS) (H : Heap) (locs : List Loc) (ls : Array Slot), K7 v1 v2 v3 σ = some σ' → fH Γ σ H → va_S (fAd Γ) s.heap H locs → lv_has ls 5 [(0, .ref (Γ.1 t0)), (1, .int v1), (2, .int v2), (3, .int v3)] → W p l e ({ frames := 2, cells := 0, slots := 0, locals := 43 } : Room) s m args below meth c H locs 0 0 (MQ below (fQv Γ σ') args s 0 0 (fAd Γ)) (F0 m 7 ls [])) : ∀ (v1 : Int32) (v2 : Int32) (v3 : Int32) (σ : fS) (H : Heap) (locs : List Loc) (ls : Array Slot), f_X3_dropRowsOf_b49 t0 r0 w0 K7 v1 v2 v3 σ = some σ' → fH Γ σ H → va_S (fAd Γ) s.heap H locs → lv_has ls 5 [(0, .ref (Γ.1 t0)), (1, .int v1), (2, .int v2), (3, .int v3)] → W p l e ({ frames := 2, cells := 0, slots := 0, locals := 43 } : Room) s m args below meth c H locs 0 0 (MQ below (fQv Γ σ') args s 0 0 (fAd Γ)) (F0 m 49 ls []) := by
  intro v1 v2 v3 σ H locs ls hf hP hS hl
  unfold f_X3_dropRowsOf_b49 at hf
  refine lv_iinc (v := (v3 + (-1 : Int32))) (lv' := [(3, .int (v3 + (-1 : Int32))), (0, .ref (Γ.1 t0)), (1, .int v1), (2, .int v2)]) C.1 C.2.1 (kd kX3_dropRowsOf_0 29 rfl) hl (k := 3) rfl rfl (Nat.le_of_ble_eq_true rfl) rfl (fun ls hl => ?_)
  refine lv_goto (tgt := 7) C.1 C.2.1 (kd kX3_dropRowsOf_0 30 rfl) (by decide) ?_
  exact hK7 (v1) (v2) ((v3 + (-1 : Int32))) σ H locs ls hf hP hS (lv_sub hl [1, 2, 3, 0] rfl)
def f_X3_dropRowsOf_b7 (t0 r0 w0 : Nat) : Nat → Int32 → Int32 → Int32 → fS → Option (fS)
  | 0, _, _, _, _ => none
  | n_ + 1, v1, v2, v3, σ => (if v3 < 0 then some σ else fcall (f_X5_at t0 r0 w0 v3 v1 σ) (fun r1_ σ1 => (if r1_ = v2 then fcallv (f_X5_removeRow t0 r0 w0 v3 σ1) (fun σ3 => f_X3_dropRowsOf_b49 t0 r0 w0 (fun v1 v2 v3 σ => f_X3_dropRowsOf_b7 t0 r0 w0 n_ v1 v2 v3 σ) (v1) (v2) (v3) σ3) else (if r1_ ≤ v2 then f_X3_dropRowsOf_b49 t0 r0 w0 (fun v1 v2 v3 σ => f_X3_dropRowsOf_b7 t0 r0 w0 n_ v1 v2 v3 σ) (v1) (v2) (v3) σ1 else fcallv (f_X5_put t0 r0 w0 v3 v1 (r1_ - (1 : Int32)) σ1) (fun σ2 => f_X3_dropRowsOf_b49 t0 r0 w0 (fun v1 v2 v3 σ => f_X3_dropRowsOf_b7 t0 r0 w0 n_ v1 v2 v3 σ) (v1) (v2) (v3) σ2)))))
set_option maxRecDepth 100000 in
set_option maxHeartbeats 4000000 in
theorem w_X3_dropRowsOf_b7 {t0 r0 w0 : Nat} {σ' : fS} (h0 : fD t0 = (2, r0, w0))  (C : fC Γ p s m args meth c cX3_dropRowsOf none RX3 5) : ∀ (n_ : Nat) (v1 : Int32) (v2 : Int32) (v3 : Int32) (σ : fS) (H : Heap) (locs : List Loc) (ls : Array Slot), f_X3_dropRowsOf_b7 t0 r0 w0 n_ v1 v2 v3 σ = some σ' → fH Γ σ H → va_S (fAd Γ) s.heap H locs → lv_has ls 5 [(0, .ref (Γ.1 t0)), (1, .int v1), (2, .int v2), (3, .int v3)] → W p l e ({ frames := 2, cells := 0, slots := 0, locals := 43 } : Room) s m args below meth c H locs 0 0 (MQ below (fQv Γ σ') args s 0 0 (fAd Γ)) (F0 m 7 ls []) := by
  intro n_
  induction n_ with
  | zero =>
    intro v1 v2 v3 σ H locs ls hf
    cases hf
  | succ n_ ih =>
    intro v1 v2 v3 σ H locs ls hf hP hS hl
    have hf : (if v3 < 0 then some σ else fcall (f_X5_at t0 r0 w0 v3 v1 σ) (fun r1_ σ1 => (if r1_ = v2 then fcallv (f_X5_removeRow t0 r0 w0 v3 σ1) (fun σ3 => f_X3_dropRowsOf_b49 t0 r0 w0 (fun v1 v2 v3 σ => f_X3_dropRowsOf_b7 t0 r0 w0 n_ v1 v2 v3 σ) (v1) (v2) (v3) σ3) else (if r1_ ≤ v2 then f_X3_dropRowsOf_b49 t0 r0 w0 (fun v1 v2 v3 σ => f_X3_dropRowsOf_b7 t0 r0 w0 n_ v1 v2 v3 σ) (v1) (v2) (v3) σ1 else fcallv (f_X5_put t0 r0 w0 v3 v1 (r1_ - (1 : Int32)) σ1) (fun σ2 => f_X3_dropRowsOf_b49 t0 r0 w0 (fun v1 v2 v3 σ => f_X3_dropRowsOf_b7 t0 r0 w0 n_ v1 v2 v3 σ) (v1) (v2) (v3) σ2))))) = some σ' := hf
    have hK7 := ih
    refine lv_iload_n C.1 C.2.1 (kd kX3_dropRowsOf_0 5 rfl) rfl (lv_at hl 3 rfl) ?_
    refine lv_if_lt (tgt := 55) C.1 C.2.1 (kd kX3_dropRowsOf_0 6 rfl) (by decide) (fun q => ?_) (fun q => ?_)
    · have hf := fif_pos q hf
      exact fl_vret C hP hS hf (kd kX3_dropRowsOf_0 31 rfl)
    have hf := fif_neg q hf
    refine lv_aload_n C.1 C.2.1 (kd kX3_dropRowsOf_0 7 rfl) rfl (lv_at hl 0 rfl) ?_
    refine lv_iload_n C.1 C.2.1 (kd kX3_dropRowsOf_0 8 rfl) rfl (lv_at hl 3 rfl) ?_
    refine lv_iload_n C.1 C.2.1 (kd kX3_dropRowsOf_0 9 rfl) rfl (lv_at hl 1 rfl) ?_
    obtain ⟨r1_, σ1, hσ1, hf⟩ := fcall_some hf
    refine fl_i hS (fl_runV (As := [.int v3, .int v1]) (rest := []) C hP (fe_T h0) (fD_lt h0) rfl (m_X5_at C.2.2.2.2.2.2.2.2 l h0 hσ1) (fgV tw_417 tw_418 tw_419 tw_69 tw_420) hd_X5_at ⟨rfl, rfl, Nat.le_of_ble_eq_true rfl, Nat.le_of_ble_eq_true rfl⟩ rfl hl.1 rfl (Nat.le_of_ble_eq_true rfl) (kd kX3_dropRowsOf_0 10 rfl)) (fun H locs hP hS => ?_)
    refine lv_istore (lv' := [(4, .int r1_), (0, .ref (Γ.1 t0)), (1, .int v1), (2, .int v2), (3, .int v3)]) C.1 C.2.1 (kd kX3_dropRowsOf_0 11 rfl) hl (Nat.le_of_ble_eq_true rfl) rfl (fun ls hl => ?_)
    refine lv_iload C.1 C.2.1 (kd kX3_dropRowsOf_0 12 rfl) (lv_at hl 0 rfl) ?_
    refine lv_iload_n C.1 C.2.1 (kd kX3_dropRowsOf_0 13 rfl) rfl (lv_at hl 3 rfl) ?_
    refine lv_icmp_ne (tgt := 33) C.1 C.2.1 (kd kX3_dropRowsOf_0 14 rfl) (by decide) (fun q => ?_) (fun q => ?_)
    · have hf := fif_neg q hf
      refine lv_iload C.1 C.2.1 (kd kX3_dropRowsOf_0 19 rfl) (lv_at hl 0 rfl) ?_
      refine lv_iload_n C.1 C.2.1 (kd kX3_dropRowsOf_0 20 rfl) rfl (lv_at hl 3 rfl) ?_
      refine lv_icmp_le (tgt := 49) C.1 C.2.1 (kd kX3_dropRowsOf_0 21 rfl) (by decide) (fun q => ?_) (fun q => ?_)
      · have hf := fif_pos q hf
        exact w_X3_dropRowsOf_b49 h0 C hK7 (v1) (v2) (v3) σ1 H locs ls hf hP hS (lv_sub hl [1, 2, 3, 4] rfl)
      have hf := fif_neg q hf
      refine lv_aload_n C.1 C.2.1 (kd kX3_dropRowsOf_0 22 rfl) rfl (lv_at hl 1 rfl) ?_
      refine lv_iload_n C.1 C.2.1 (kd kX3_dropRowsOf_0 23 rfl) rfl (lv_at hl 4 rfl) ?_
      refine lv_iload_n C.1 C.2.1 (kd kX3_dropRowsOf_0 24 rfl) rfl (lv_at hl 2 rfl) ?_
      refine lv_iload C.1 C.2.1 (kd kX3_dropRowsOf_0 25 rfl) (lv_at hl 0 rfl) ?_
      refine lv_iconst (v := (1 : Int32)) C.1 C.2.1 (kd kX3_dropRowsOf_0 26 rfl) (by decide) ?_
      refine lv_isub C.1 C.2.1 (kd kX3_dropRowsOf_0 27 rfl) ?_
      obtain ⟨σ2, hσ2, hf⟩ := fcallv_some hf
      refine fl_v hS (fl_runV (As := [.int v3, .int v1, .int (r1_ - (1 : Int32))]) (rest := []) C hP (fe_T h0) (fD_lt h0) rfl (m_X5_put C.2.2.2.2.2.2.2.2 l h0 hσ2) (fgV tw_421 tw_276 tw_277 tw_69 tw_278) hd_X5_put ⟨rfl, rfl, Nat.le_of_ble_eq_true rfl, Nat.le_of_ble_eq_true rfl⟩ rfl hl.1 rfl (Nat.le_of_ble_eq_true rfl) (kd kX3_dropRowsOf_0 28 rfl)) (fun H locs hP hS => ?_)
      exact w_X3_dropRowsOf_b49 h0 C hK7 (v1) (v2) (v3) σ2 H locs ls hf hP hS (lv_sub hl [1, 2, 3, 4] rfl)
    have hf := fif_pos q hf
    refine lv_aload_n C.1 C.2.1 (kd kX3_dropRowsOf_0 15 rfl) rfl (lv_at hl 1 rfl) ?_
    refine lv_iload_n C.1 C.2.1 (kd kX3_dropRowsOf_0 16 rfl) rfl (lv_at hl 4 rfl) ?_
    obtain ⟨σ3, hσ3, hf⟩ := fcallv_some hf
    refine fl_v hS (fl_runV (As := [.int v3]) (rest := []) C hP (fe_T h0) (fD_lt h0) rfl (m_X5_removeRow C.2.2.2.2.2.2.2.2 l h0 hσ3) (fgV tw_405 tw_406 tw_407 tw_69 tw_408) hd_X5_removeRow ⟨rfl, rfl, Nat.le_of_ble_eq_true rfl, Nat.le_of_ble_eq_true rfl⟩ rfl hl.1 rfl (Nat.le_of_ble_eq_true rfl) (kd kX3_dropRowsOf_0 17 rfl)) (fun H locs hP hS => ?_)
    refine lv_goto (tgt := 49) C.1 C.2.1 (kd kX3_dropRowsOf_0 18 rfl) (by decide) ?_
    exact w_X3_dropRowsOf_b49 h0 C hK7 (v1) (v2) (v3) σ3 H locs ls hf hP hS (lv_sub hl [1, 2, 3, 4] rfl)
def f_X3_dropRowsOf (t0 r0 w0 : Nat) (x1 : Int32) (x2 : Int32) (σ : fS) : Option (fS) := fcall (f_X5_size t0 r0 w0 σ) (fun r1_ σ1 => f_X3_dropRowsOf_b7 t0 r0 w0 fN (x1) (x2) ((r1_ - (1 : Int32))) σ1)
set_option maxRecDepth 100000 in
set_option maxHeartbeats 4000000 in
theorem m_X3_dropRowsOf {Γ : fGm} (hI : fI Γ) (l : Launch) {t0 r0 w0 : Nat} {x1 : Int32} {x2 : Int32} (h0 : fD t0 = (2, r0, w0)) {σ : fS} {σ' : fS} (hf : f_X3_dropRowsOf t0 r0 w0 x1 x2 σ = some σ') : Met l yX3_dropRowsOf (.code yX3_dropRowsOf cX3_dropRowsOf 5 none :: lw_g) ({ frames := 2, cells := 0, slots := 0, locals := 43 } : Room) (fPre Γ [.ref (Γ.1 t0), .int x1, .int x2] σ) (fQv Γ σ') 0 0 (fAd Γ) := by
  refine fl_enter (own := RX3) hI (by decide +kernel) rfl (Nat.le_of_ble_eq_true rfl) ?_
  intro p e s m args below meth c ls C hl hP hS
  have hl : lv_has ls 5 [(0, .ref (Γ.1 t0)), (1, .int x1), (2, .int x2)] := hl
  obtain ⟨H, hH⟩ : ∃ H, H = s.heap := ⟨_, rfl⟩
  obtain ⟨locs, hL⟩ : ∃ L : List Loc, L = [] := ⟨_, rfl⟩
  have hP : fH Γ σ H := by rw [hH]; exact hP
  have hS : va_S (fAd Γ) s.heap H locs := by rw [hH, hL]; exact hS
  suffices hw : W p l e ({ frames := 2, cells := 0, slots := 0, locals := 43 } : Room) s m args below meth c H locs 0 0 (MQ below (fQv Γ σ') args s 0 0 (fAd Γ)) (F0 m 0 ls []) by rw [hH, hL] at hw; exact hw
  unfold f_X3_dropRowsOf at hf
  refine lv_aload_n C.1 C.2.1 (kd kX3_dropRowsOf_0 0 rfl) rfl (lv_at hl 0 rfl) ?_
  obtain ⟨r1_, σ1, hσ1, hf⟩ := fcall_some hf
  refine fl_i hS (fl_runV (As := []) (rest := []) C hP (fe_T h0) (fD_lt h0) rfl (m_X5_size C.2.2.2.2.2.2.2.2 l h0 hσ1) (fgV tw_413 tw_414 tw_415 tw_69 tw_416) hd_X5_size ⟨rfl, rfl, Nat.le_of_ble_eq_true rfl, Nat.le_of_ble_eq_true rfl⟩ rfl hl.1 rfl (Nat.le_of_ble_eq_true rfl) (kd kX3_dropRowsOf_0 1 rfl)) (fun H locs hP hS => ?_)
  refine lv_iconst (v := (1 : Int32)) C.1 C.2.1 (kd kX3_dropRowsOf_0 2 rfl) (by decide) ?_
  refine lv_isub C.1 C.2.1 (kd kX3_dropRowsOf_0 3 rfl) ?_
  refine lv_istore_n (lv' := [(3, .int (r1_ - (1 : Int32))), (0, .ref (Γ.1 t0)), (1, .int x1), (2, .int x2)]) C.1 C.2.1 (kd kX3_dropRowsOf_0 4 rfl) rfl hl (Nat.le_of_ble_eq_true rfl) rfl (fun ls hl => ?_)
  exact w_X3_dropRowsOf_b7 h0 C fN (x1) (x2) ((r1_ - (1 : Int32))) σ1 H locs ls hf hP hS (lv_sub hl [1, 2, 3, 0] rfl)
def f_X3_dropCrossing (b0 : Nat) (x1 : Int32) (σ : fS) : Option (Int32 × fS) := fcall (f_X5_has (b0 + 5) 12 4 x1 σ) (fun r1_ σ1 => (if r1_ = 0 then some ((-10001 : Int32), σ1) else fcallv (f_X5_removeRow (b0 + 5) 12 4 x1 σ1) (fun σ2 => fcallv (f_X3_dropRowsOf (b0 + 7) 24 3 (0 : Int32) x1 σ2) (fun σ3 => fcallv (f_X3_dropRowsOf (b0 + 9) 8 4 (0 : Int32) x1 σ3) (fun σ4 => fcall (f_X5_size (b0 + 5) 12 4 σ4) (fun r5_ σ5 => some (r5_, σ5)))))))
set_option maxRecDepth 100000 in
set_option maxHeartbeats 4000000 in
theorem m_X3_dropCrossing {Γ : fGm} (hI : fI Γ) (l : Launch) {b0 : Nat} {x1 : Int32} (h0 : fD b0 = (3, 0, 0)) {σ : fS} {r : Int32} {σ' : fS} (hf : f_X3_dropCrossing b0 x1 σ = some (r, σ')) : Met l yX3_dropCrossing (.code yX3_dropCrossing cX3_dropCrossing 2 (some .int) :: lw_g) ({ frames := 3, cells := 0, slots := 0, locals := 67 } : Room) (fPre Γ [.ref (Γ.1 b0), .int x1] σ) (fQi Γ r σ') 0 0 (fAd Γ) := by
  refine fl_enter (own := RX3) hI (by decide +kernel) rfl (Nat.le_of_ble_eq_true rfl) ?_
  intro p e s m args below meth c ls C hl hP hS
  have hl : lv_has ls 2 [(0, .ref (Γ.1 b0)), (1, .int x1)] := hl
  obtain ⟨H, hH⟩ : ∃ H, H = s.heap := ⟨_, rfl⟩
  obtain ⟨locs, hL⟩ : ∃ L : List Loc, L = [] := ⟨_, rfl⟩
  have hP : fH Γ σ H := by rw [hH]; exact hP
  have hS : va_S (fAd Γ) s.heap H locs := by rw [hH, hL]; exact hS
  suffices hw : W p l e ({ frames := 3, cells := 0, slots := 0, locals := 67 } : Room) s m args below meth c H locs 0 0 (MQ below (fQi Γ r σ') args s 0 0 (fAd Γ)) (F0 m 0 ls []) by rw [hH, hL] at hw; exact hw
  unfold f_X3_dropCrossing at hf
  refine lv_aload_n C.1 C.2.1 (kd kX3_dropCrossing_0 0 rfl) rfl (lv_at hl 0 rfl) ?_
  refine fl_get (j := 2) (v := .ref (Γ.1 (b0 + 5))) C hP (fe_P h0) (fD_lt h0) rfl inX3 (Nat.le_of_ble_eq_true rfl) tw_117 rfl (kd kX3_dropCrossing_0 1 rfl) ?_
  refine lv_iload_n C.1 C.2.1 (kd kX3_dropCrossing_0 2 rfl) rfl (lv_at hl 1 rfl) ?_
  obtain ⟨r1_, σ1, hσ1, hf⟩ := fcall_some hf
  refine fl_i hS (fl_runV (As := [.int x1]) (rest := []) C hP (fe_T (fD_prt h0).2.2.1) (fD_lt (fD_prt h0).2.2.1) rfl (m_X5_has C.2.2.2.2.2.2.2.2 l (fD_prt h0).2.2.1 hσ1) (fgV tw_377 tw_378 tw_379 tw_69 tw_380) hd_X5_has ⟨rfl, rfl, Nat.le_of_ble_eq_true rfl, Nat.le_of_ble_eq_true rfl⟩ rfl hl.1 rfl (Nat.le_of_ble_eq_true rfl) (kd kX3_dropCrossing_0 3 rfl)) (fun H locs hP hS => ?_)
  refine lv_if_ne (tgt := 15) C.1 C.2.1 (kd kX3_dropCrossing_0 4 rfl) (by decide) (fun q => ?_) (fun q => ?_)
  · have hf := fif_neg q hf
    refine lv_aload_n C.1 C.2.1 (kd kX3_dropCrossing_0 7 rfl) rfl (lv_at hl 0 rfl) ?_
    refine fl_get (j := 2) (v := .ref (Γ.1 (b0 + 5))) C hP (fe_P h0) (fD_lt h0) rfl inX3 (Nat.le_of_ble_eq_true rfl) tw_117 rfl (kd kX3_dropCrossing_0 8 rfl) ?_
    refine lv_iload_n C.1 C.2.1 (kd kX3_dropCrossing_0 9 rfl) rfl (lv_at hl 1 rfl) ?_
    obtain ⟨σ2, hσ2, hf⟩ := fcallv_some hf
    refine fl_v hS (fl_runV (As := [.int x1]) (rest := []) C hP (fe_T (fD_prt h0).2.2.1) (fD_lt (fD_prt h0).2.2.1) rfl (m_X5_removeRow C.2.2.2.2.2.2.2.2 l (fD_prt h0).2.2.1 hσ2) (fgV tw_405 tw_406 tw_407 tw_69 tw_408) hd_X5_removeRow ⟨rfl, rfl, Nat.le_of_ble_eq_true rfl, Nat.le_of_ble_eq_true rfl⟩ rfl hl.1 rfl (Nat.le_of_ble_eq_true rfl) (kd kX3_dropCrossing_0 10 rfl)) (fun H locs hP hS => ?_)
    refine lv_aload_n C.1 C.2.1 (kd kX3_dropCrossing_0 11 rfl) rfl (lv_at hl 0 rfl) ?_
    refine fl_get (j := 3) (v := .ref (Γ.1 (b0 + 7))) C hP (fe_P h0) (fD_lt h0) rfl inX3 (Nat.le_of_ble_eq_true rfl) tw_121 rfl (kd kX3_dropCrossing_0 12 rfl) ?_
    refine lv_iconst (v := (0 : Int32)) C.1 C.2.1 (kd kX3_dropCrossing_0 13 rfl) (by decide) ?_
    refine lv_iload_n C.1 C.2.1 (kd kX3_dropCrossing_0 14 rfl) rfl (lv_at hl 1 rfl) ?_
    obtain ⟨σ3, hσ3, hf⟩ := fcallv_some hf
    refine fl_v hS (fl_runS (As := [.ref (Γ.1 (b0 + 7)), .int (0 : Int32), .int x1]) (rest := []) C hP (m_X3_dropRowsOf C.2.2.2.2.2.2.2.2 l (fD_prt h0).2.2.2.1 hσ3) (fgS tw_410 tw_411 tw_68 tw_412) hs_X3_dropRowsOf ⟨rfl, rfl, Nat.le_of_ble_eq_true rfl, Nat.le_of_ble_eq_true rfl⟩ rfl hl.1 rfl (Nat.le_of_ble_eq_true rfl) (kd kX3_dropCrossing_0 15 rfl)) (fun H locs hP hS => ?_)
    refine lv_aload_n C.1 C.2.1 (kd kX3_dropCrossing_0 16 rfl) rfl (lv_at hl 0 rfl) ?_
    refine fl_get (j := 4) (v := .ref (Γ.1 (b0 + 9))) C hP (fe_P h0) (fD_lt h0) rfl inX3 (Nat.le_of_ble_eq_true rfl) tw_124 rfl (kd kX3_dropCrossing_0 17 rfl) ?_
    refine lv_iconst (v := (0 : Int32)) C.1 C.2.1 (kd kX3_dropCrossing_0 18 rfl) (by decide) ?_
    refine lv_iload_n C.1 C.2.1 (kd kX3_dropCrossing_0 19 rfl) rfl (lv_at hl 1 rfl) ?_
    obtain ⟨σ4, hσ4, hf⟩ := fcallv_some hf
    refine fl_v hS (fl_runS (As := [.ref (Γ.1 (b0 + 9)), .int (0 : Int32), .int x1]) (rest := []) C hP (m_X3_dropRowsOf C.2.2.2.2.2.2.2.2 l (fD_prt h0).2.2.2.2.1 hσ4) (fgS tw_410 tw_411 tw_68 tw_412) hs_X3_dropRowsOf ⟨rfl, rfl, Nat.le_of_ble_eq_true rfl, Nat.le_of_ble_eq_true rfl⟩ rfl hl.1 rfl (Nat.le_of_ble_eq_true rfl) (kd kX3_dropCrossing_0 20 rfl)) (fun H locs hP hS => ?_)
    refine lv_aload_n C.1 C.2.1 (kd kX3_dropCrossing_0 21 rfl) rfl (lv_at hl 0 rfl) ?_
    refine fl_get (j := 2) (v := .ref (Γ.1 (b0 + 5))) C hP (fe_P h0) (fD_lt h0) rfl inX3 (Nat.le_of_ble_eq_true rfl) tw_117 rfl (kd kX3_dropCrossing_0 22 rfl) ?_
    obtain ⟨r5_, σ5, hσ5, hf⟩ := fcall_some hf
    refine fl_i hS (fl_runV (As := []) (rest := []) C hP (fe_T (fD_prt h0).2.2.1) (fD_lt (fD_prt h0).2.2.1) rfl (m_X5_size C.2.2.2.2.2.2.2.2 l (fD_prt h0).2.2.1 hσ5) (fgV tw_413 tw_414 tw_415 tw_69 tw_416) hd_X5_size ⟨rfl, rfl, Nat.le_of_ble_eq_true rfl, Nat.le_of_ble_eq_true rfl⟩ rfl hl.1 rfl (Nat.le_of_ble_eq_true rfl) (kd kX3_dropCrossing_0 23 rfl)) (fun H locs hP hS => ?_)
    exact fl_iret C hP hS hf (kd kX3_dropCrossing_0 24 rfl)
  have hf := fif_pos q hf
  refine lv_sipush (v := (-10001 : Int32)) C.1 C.2.1 (kd kX3_dropCrossing_0 5 rfl) (by decide) ?_
  exact fl_iret C hP hS hf (kd kX3_dropCrossing_0 6 rfl)
def f_X3_changeBerth (b0 : Nat) (x1 : Int32) (x2 : Int32) (x3 : Int32) (σ : fS) : Option (Int32 × fS) := fcall (f_X5_has (b0 + 3) 3 2 x1 σ) (fun r1_ σ1 => (if r1_ = 0 then some ((-10001 : Int32), σ1) else fcall (f_X3_isBerth x2 x3 σ1) (fun r2_ σ2 => (if r2_ = 0 then some ((-10002 : Int32), σ2) else fcall (f_X5_at (b0 + 3) 3 2 x1 (0 : Int32) σ2) (fun r3_ σ3 => fcall (f_X5_at (b0 + 3) 3 2 x1 (1 : Int32) σ3) (fun r4_ σ4 => fcallv (f_X5_put (b0 + 3) 3 2 x1 (0 : Int32) x2 σ4) (fun σ5 => fcallv (f_X5_put (b0 + 3) 3 2 x1 (1 : Int32) x3 σ5) (fun σ6 => some ((((10 : Int32) * r3_) + r4_), σ6)))))))))
set_option maxRecDepth 100000 in
set_option maxHeartbeats 4000000 in
theorem m_X3_changeBerth {Γ : fGm} (hI : fI Γ) (l : Launch) {b0 : Nat} {x1 : Int32} {x2 : Int32} {x3 : Int32} (h0 : fD b0 = (3, 0, 0)) {σ : fS} {r : Int32} {σ' : fS} (hf : f_X3_changeBerth b0 x1 x2 x3 σ = some (r, σ')) : Met l yX3_changeBerth (.code yX3_changeBerth cX3_changeBerth 5 (some .int) :: lw_g) ({ frames := 2, cells := 0, slots := 0, locals := 43 } : Room) (fPre Γ [.ref (Γ.1 b0), .int x1, .int x2, .int x3] σ) (fQi Γ r σ') 0 0 (fAd Γ) := by
  refine fl_enter (own := RX3) hI (by decide +kernel) rfl (Nat.le_of_ble_eq_true rfl) ?_
  intro p e s m args below meth c ls C hl hP hS
  have hl : lv_has ls 5 [(0, .ref (Γ.1 b0)), (1, .int x1), (2, .int x2), (3, .int x3)] := hl
  obtain ⟨H, hH⟩ : ∃ H, H = s.heap := ⟨_, rfl⟩
  obtain ⟨locs, hL⟩ : ∃ L : List Loc, L = [] := ⟨_, rfl⟩
  have hP : fH Γ σ H := by rw [hH]; exact hP
  have hS : va_S (fAd Γ) s.heap H locs := by rw [hH, hL]; exact hS
  suffices hw : W p l e ({ frames := 2, cells := 0, slots := 0, locals := 43 } : Room) s m args below meth c H locs 0 0 (MQ below (fQi Γ r σ') args s 0 0 (fAd Γ)) (F0 m 0 ls []) by rw [hH, hL] at hw; exact hw
  unfold f_X3_changeBerth at hf
  refine lv_aload_n C.1 C.2.1 (kd kX3_changeBerth_0 0 rfl) rfl (lv_at hl 0 rfl) ?_
  refine fl_get (j := 1) (v := .ref (Γ.1 (b0 + 3))) C hP (fe_P h0) (fD_lt h0) rfl inX3 (Nat.le_of_ble_eq_true rfl) tw_115 rfl (kd kX3_changeBerth_0 1 rfl) ?_
  refine lv_iload_n C.1 C.2.1 (kd kX3_changeBerth_0 2 rfl) rfl (lv_at hl 1 rfl) ?_
  obtain ⟨r1_, σ1, hσ1, hf⟩ := fcall_some hf
  refine fl_i hS (fl_runV (As := [.int x1]) (rest := []) C hP (fe_T (fD_prt h0).2.1) (fD_lt (fD_prt h0).2.1) rfl (m_X5_has C.2.2.2.2.2.2.2.2 l (fD_prt h0).2.1 hσ1) (fgV tw_377 tw_378 tw_379 tw_69 tw_380) hd_X5_has ⟨rfl, rfl, Nat.le_of_ble_eq_true rfl, Nat.le_of_ble_eq_true rfl⟩ rfl hl.1 rfl (Nat.le_of_ble_eq_true rfl) (kd kX3_changeBerth_0 3 rfl)) (fun H locs hP hS => ?_)
  refine lv_if_ne (tgt := 15) C.1 C.2.1 (kd kX3_changeBerth_0 4 rfl) (by decide) (fun q => ?_) (fun q => ?_)
  · have hf := fif_neg q hf
    refine lv_iload_n C.1 C.2.1 (kd kX3_changeBerth_0 7 rfl) rfl (lv_at hl 2 rfl) ?_
    refine lv_iload_n C.1 C.2.1 (kd kX3_changeBerth_0 8 rfl) rfl (lv_at hl 3 rfl) ?_
    obtain ⟨r2_, σ2, hσ2, hf⟩ := fcall_some hf
    refine fl_i hS (fl_runS (As := [.int x2, .int x3]) (rest := []) C hP (m_X3_isBerth C.2.2.2.2.2.2.2.2 l  hσ2) (fgS tw_366 tw_367 tw_68 tw_368) hs_X3_isBerth ⟨rfl, rfl, Nat.le_of_ble_eq_true rfl, Nat.le_of_ble_eq_true rfl⟩ rfl hl.1 rfl (Nat.le_of_ble_eq_true rfl) (kd kX3_changeBerth_0 9 rfl)) (fun H locs hP hS => ?_)
    refine lv_if_ne (tgt := 27) C.1 C.2.1 (kd kX3_changeBerth_0 10 rfl) (by decide) (fun q => ?_) (fun q => ?_)
    · have hf := fif_neg q hf
      refine lv_bipush (v := (10 : Int32)) C.1 C.2.1 (kd kX3_changeBerth_0 13 rfl) (by decide) ?_
      refine lv_aload_n C.1 C.2.1 (kd kX3_changeBerth_0 14 rfl) rfl (lv_at hl 0 rfl) ?_
      refine fl_get (j := 1) (v := .ref (Γ.1 (b0 + 3))) C hP (fe_P h0) (fD_lt h0) rfl inX3 (Nat.le_of_ble_eq_true rfl) tw_115 rfl (kd kX3_changeBerth_0 15 rfl) ?_
      refine lv_iload_n C.1 C.2.1 (kd kX3_changeBerth_0 16 rfl) rfl (lv_at hl 1 rfl) ?_
      refine lv_iconst (v := (0 : Int32)) C.1 C.2.1 (kd kX3_changeBerth_0 17 rfl) (by decide) ?_
      obtain ⟨r3_, σ3, hσ3, hf⟩ := fcall_some hf
      refine fl_i hS (fl_runV (As := [.int x1, .int (0 : Int32)]) (rest := [.int (10 : Int32)]) C hP (fe_T (fD_prt h0).2.1) (fD_lt (fD_prt h0).2.1) rfl (m_X5_at C.2.2.2.2.2.2.2.2 l (fD_prt h0).2.1 hσ3) (fgV tw_417 tw_418 tw_419 tw_69 tw_420) hd_X5_at ⟨rfl, rfl, Nat.le_of_ble_eq_true rfl, Nat.le_of_ble_eq_true rfl⟩ rfl hl.1 rfl (Nat.le_of_ble_eq_true rfl) (kd kX3_changeBerth_0 18 rfl)) (fun H locs hP hS => ?_)
      refine lv_imul C.1 C.2.1 (kd kX3_changeBerth_0 19 rfl) ?_
      refine lv_aload_n C.1 C.2.1 (kd kX3_changeBerth_0 20 rfl) rfl (lv_at hl 0 rfl) ?_
      refine fl_get (j := 1) (v := .ref (Γ.1 (b0 + 3))) C hP (fe_P h0) (fD_lt h0) rfl inX3 (Nat.le_of_ble_eq_true rfl) tw_115 rfl (kd kX3_changeBerth_0 21 rfl) ?_
      refine lv_iload_n C.1 C.2.1 (kd kX3_changeBerth_0 22 rfl) rfl (lv_at hl 1 rfl) ?_
      refine lv_iconst (v := (1 : Int32)) C.1 C.2.1 (kd kX3_changeBerth_0 23 rfl) (by decide) ?_
      obtain ⟨r4_, σ4, hσ4, hf⟩ := fcall_some hf
      refine fl_i hS (fl_runV (As := [.int x1, .int (1 : Int32)]) (rest := [.int ((10 : Int32) * r3_)]) C hP (fe_T (fD_prt h0).2.1) (fD_lt (fD_prt h0).2.1) rfl (m_X5_at C.2.2.2.2.2.2.2.2 l (fD_prt h0).2.1 hσ4) (fgV tw_417 tw_418 tw_419 tw_69 tw_420) hd_X5_at ⟨rfl, rfl, Nat.le_of_ble_eq_true rfl, Nat.le_of_ble_eq_true rfl⟩ rfl hl.1 rfl (Nat.le_of_ble_eq_true rfl) (kd kX3_changeBerth_0 24 rfl)) (fun H locs hP hS => ?_)
      refine lv_iadd C.1 C.2.1 (kd kX3_changeBerth_0 25 rfl) ?_
      refine lv_istore (lv' := [(4, .int (((10 : Int32) * r3_) + r4_)), (0, .ref (Γ.1 b0)), (1, .int x1), (2, .int x2), (3, .int x3)]) C.1 C.2.1 (kd kX3_changeBerth_0 26 rfl) hl (Nat.le_of_ble_eq_true rfl) rfl (fun ls hl => ?_)
      refine lv_aload_n C.1 C.2.1 (kd kX3_changeBerth_0 27 rfl) rfl (lv_at hl 1 rfl) ?_
      refine fl_get (j := 1) (v := .ref (Γ.1 (b0 + 3))) C hP (fe_P h0) (fD_lt h0) rfl inX3 (Nat.le_of_ble_eq_true rfl) tw_115 rfl (kd kX3_changeBerth_0 28 rfl) ?_
      refine lv_iload_n C.1 C.2.1 (kd kX3_changeBerth_0 29 rfl) rfl (lv_at hl 2 rfl) ?_
      refine lv_iconst (v := (0 : Int32)) C.1 C.2.1 (kd kX3_changeBerth_0 30 rfl) (by decide) ?_
      refine lv_iload_n C.1 C.2.1 (kd kX3_changeBerth_0 31 rfl) rfl (lv_at hl 3 rfl) ?_
      obtain ⟨σ5, hσ5, hf⟩ := fcallv_some hf
      refine fl_v hS (fl_runV (As := [.int x1, .int (0 : Int32), .int x2]) (rest := []) C hP (fe_T (fD_prt h0).2.1) (fD_lt (fD_prt h0).2.1) rfl (m_X5_put C.2.2.2.2.2.2.2.2 l (fD_prt h0).2.1 hσ5) (fgV tw_421 tw_276 tw_277 tw_69 tw_278) hd_X5_put ⟨rfl, rfl, Nat.le_of_ble_eq_true rfl, Nat.le_of_ble_eq_true rfl⟩ rfl hl.1 rfl (Nat.le_of_ble_eq_true rfl) (kd kX3_changeBerth_0 32 rfl)) (fun H locs hP hS => ?_)
      refine lv_aload_n C.1 C.2.1 (kd kX3_changeBerth_0 33 rfl) rfl (lv_at hl 1 rfl) ?_
      refine fl_get (j := 1) (v := .ref (Γ.1 (b0 + 3))) C hP (fe_P h0) (fD_lt h0) rfl inX3 (Nat.le_of_ble_eq_true rfl) tw_115 rfl (kd kX3_changeBerth_0 34 rfl) ?_
      refine lv_iload_n C.1 C.2.1 (kd kX3_changeBerth_0 35 rfl) rfl (lv_at hl 2 rfl) ?_
      refine lv_iconst (v := (1 : Int32)) C.1 C.2.1 (kd kX3_changeBerth_0 36 rfl) (by decide) ?_
      refine lv_iload_n C.1 C.2.1 (kd kX3_changeBerth_0 37 rfl) rfl (lv_at hl 4 rfl) ?_
      obtain ⟨σ6, hσ6, hf⟩ := fcallv_some hf
      refine fl_v hS (fl_runV (As := [.int x1, .int (1 : Int32), .int x3]) (rest := []) C hP (fe_T (fD_prt h0).2.1) (fD_lt (fD_prt h0).2.1) rfl (m_X5_put C.2.2.2.2.2.2.2.2 l (fD_prt h0).2.1 hσ6) (fgV tw_421 tw_276 tw_277 tw_69 tw_278) hd_X5_put ⟨rfl, rfl, Nat.le_of_ble_eq_true rfl, Nat.le_of_ble_eq_true rfl⟩ rfl hl.1 rfl (Nat.le_of_ble_eq_true rfl) (kd kX3_changeBerth_0 38 rfl)) (fun H locs hP hS => ?_)
      refine lv_iload C.1 C.2.1 (kd kX3_changeBerth_0 39 rfl) (lv_at hl 0 rfl) ?_
      exact fl_iret C hP hS hf (kd kX3_changeBerth_0 40 rfl)
    have hf := fif_pos q hf
    refine lv_sipush (v := (-10002 : Int32)) C.1 C.2.1 (kd kX3_changeBerth_0 11 rfl) (by decide) ?_
    exact fl_iret C hP hS hf (kd kX3_changeBerth_0 12 rfl)
  have hf := fif_pos q hf
  refine lv_sipush (v := (-10001 : Int32)) C.1 C.2.1 (kd kX3_changeBerth_0 5 rfl) (by decide) ?_
  exact fl_iret C hP hS hf (kd kX3_changeBerth_0 6 rfl)
def f_X3_changeTide (b0 : Nat) (x1 : Int32) (x2 : Int32) (σ : fS) : Option (Int32 × fS) := fcall (f_X5_has (b0 + 11) 49 1 x1 σ) (fun r1_ σ1 => (if r1_ = 0 then some ((-10001 : Int32), σ1) else fcall (f_X7_isOutside x2 (-999 : Int32) (999 : Int32) σ1) (fun r2_ σ2 => (if r2_ = 0 then fcall (f_X5_at (b0 + 11) 49 1 x1 (0 : Int32) σ2) (fun r3_ σ3 => fcallv (f_X5_put (b0 + 11) 49 1 x1 (0 : Int32) x2 σ3) (fun σ4 => some (r3_, σ4))) else some ((-10002 : Int32), σ2)))))
set_option maxRecDepth 100000 in
set_option maxHeartbeats 4000000 in
theorem m_X3_changeTide {Γ : fGm} (hI : fI Γ) (l : Launch) {b0 : Nat} {x1 : Int32} {x2 : Int32} (h0 : fD b0 = (3, 0, 0)) {σ : fS} {r : Int32} {σ' : fS} (hf : f_X3_changeTide b0 x1 x2 σ = some (r, σ')) : Met l yX3_changeTide (.code yX3_changeTide cX3_changeTide 4 (some .int) :: lw_g) ({ frames := 1, cells := 0, slots := 0, locals := 23 } : Room) (fPre Γ [.ref (Γ.1 b0), .int x1, .int x2] σ) (fQi Γ r σ') 0 0 (fAd Γ) := by
  refine fl_enter (own := RX3) hI (by decide +kernel) rfl (Nat.le_of_ble_eq_true rfl) ?_
  intro p e s m args below meth c ls C hl hP hS
  have hl : lv_has ls 4 [(0, .ref (Γ.1 b0)), (1, .int x1), (2, .int x2)] := hl
  obtain ⟨H, hH⟩ : ∃ H, H = s.heap := ⟨_, rfl⟩
  obtain ⟨locs, hL⟩ : ∃ L : List Loc, L = [] := ⟨_, rfl⟩
  have hP : fH Γ σ H := by rw [hH]; exact hP
  have hS : va_S (fAd Γ) s.heap H locs := by rw [hH, hL]; exact hS
  suffices hw : W p l e ({ frames := 1, cells := 0, slots := 0, locals := 23 } : Room) s m args below meth c H locs 0 0 (MQ below (fQi Γ r σ') args s 0 0 (fAd Γ)) (F0 m 0 ls []) by rw [hH, hL] at hw; exact hw
  unfold f_X3_changeTide at hf
  refine lv_aload_n C.1 C.2.1 (kd kX3_changeTide_0 0 rfl) rfl (lv_at hl 0 rfl) ?_
  refine fl_get (j := 5) (v := .ref (Γ.1 (b0 + 11))) C hP (fe_P h0) (fD_lt h0) rfl inX3 (Nat.le_of_ble_eq_true rfl) tw_127 rfl (kd kX3_changeTide_0 1 rfl) ?_
  refine lv_iload_n C.1 C.2.1 (kd kX3_changeTide_0 2 rfl) rfl (lv_at hl 1 rfl) ?_
  obtain ⟨r1_, σ1, hσ1, hf⟩ := fcall_some hf
  refine fl_i hS (fl_runV (As := [.int x1]) (rest := []) C hP (fe_T (fD_prt h0).2.2.2.2.2.1) (fD_lt (fD_prt h0).2.2.2.2.2.1) rfl (m_X5_has C.2.2.2.2.2.2.2.2 l (fD_prt h0).2.2.2.2.2.1 hσ1) (fgV tw_377 tw_378 tw_379 tw_69 tw_380) hd_X5_has ⟨rfl, rfl, Nat.le_of_ble_eq_true rfl, Nat.le_of_ble_eq_true rfl⟩ rfl hl.1 rfl (Nat.le_of_ble_eq_true rfl) (kd kX3_changeTide_0 3 rfl)) (fun H locs hP hS => ?_)
  refine lv_if_ne (tgt := 15) C.1 C.2.1 (kd kX3_changeTide_0 4 rfl) (by decide) (fun q => ?_) (fun q => ?_)
  · have hf := fif_neg q hf
    refine lv_iload_n C.1 C.2.1 (kd kX3_changeTide_0 7 rfl) rfl (lv_at hl 2 rfl) ?_
    refine lv_sipush (v := (-999 : Int32)) C.1 C.2.1 (kd kX3_changeTide_0 8 rfl) (by decide) ?_
    refine lv_sipush (v := (999 : Int32)) C.1 C.2.1 (kd kX3_changeTide_0 9 rfl) (by decide) ?_
    obtain ⟨r2_, σ2, hσ2, hf⟩ := fcall_some hf
    refine fl_i hS (fl_runN (As := [.int x2, .int (-999 : Int32), .int (999 : Int32)]) (rest := []) C hP (m_X7_isOutside C.2.2.2.2.2.2.2.2 l  hσ2) (fgN tw_335) C.2.2.2.2.2.2.2.1.2.1 tw_67 tw_334 hs_X7_isOutside ⟨rfl, rfl, Nat.le_of_ble_eq_true rfl, Nat.le_of_ble_eq_true rfl⟩ rfl hl.1 rfl (Nat.le_of_ble_eq_true rfl) (kd kX3_changeTide_0 10 rfl)) (fun H locs hP hS => ?_)
    refine lv_if_eq (tgt := 32) C.1 C.2.1 (kd kX3_changeTide_0 11 rfl) (by decide) (fun q => ?_) (fun q => ?_)
    · have hf := fif_pos q hf
      refine lv_aload_n C.1 C.2.1 (kd kX3_changeTide_0 14 rfl) rfl (lv_at hl 0 rfl) ?_
      refine fl_get (j := 5) (v := .ref (Γ.1 (b0 + 11))) C hP (fe_P h0) (fD_lt h0) rfl inX3 (Nat.le_of_ble_eq_true rfl) tw_127 rfl (kd kX3_changeTide_0 15 rfl) ?_
      refine lv_iload_n C.1 C.2.1 (kd kX3_changeTide_0 16 rfl) rfl (lv_at hl 1 rfl) ?_
      refine lv_iconst (v := (0 : Int32)) C.1 C.2.1 (kd kX3_changeTide_0 17 rfl) (by decide) ?_
      obtain ⟨r3_, σ3, hσ3, hf⟩ := fcall_some hf
      refine fl_i hS (fl_runV (As := [.int x1, .int (0 : Int32)]) (rest := []) C hP (fe_T (fD_prt h0).2.2.2.2.2.1) (fD_lt (fD_prt h0).2.2.2.2.2.1) rfl (m_X5_at C.2.2.2.2.2.2.2.2 l (fD_prt h0).2.2.2.2.2.1 hσ3) (fgV tw_417 tw_418 tw_419 tw_69 tw_420) hd_X5_at ⟨rfl, rfl, Nat.le_of_ble_eq_true rfl, Nat.le_of_ble_eq_true rfl⟩ rfl hl.1 rfl (Nat.le_of_ble_eq_true rfl) (kd kX3_changeTide_0 18 rfl)) (fun H locs hP hS => ?_)
      refine lv_istore_n (lv' := [(3, .int r3_), (0, .ref (Γ.1 b0)), (1, .int x1), (2, .int x2)]) C.1 C.2.1 (kd kX3_changeTide_0 19 rfl) rfl hl (Nat.le_of_ble_eq_true rfl) rfl (fun ls hl => ?_)
      refine lv_aload_n C.1 C.2.1 (kd kX3_changeTide_0 20 rfl) rfl (lv_at hl 1 rfl) ?_
      refine fl_get (j := 5) (v := .ref (Γ.1 (b0 + 11))) C hP (fe_P h0) (fD_lt h0) rfl inX3 (Nat.le_of_ble_eq_true rfl) tw_127 rfl (kd kX3_changeTide_0 21 rfl) ?_
      refine lv_iload_n C.1 C.2.1 (kd kX3_changeTide_0 22 rfl) rfl (lv_at hl 2 rfl) ?_
      refine lv_iconst (v := (0 : Int32)) C.1 C.2.1 (kd kX3_changeTide_0 23 rfl) (by decide) ?_
      refine lv_iload_n C.1 C.2.1 (kd kX3_changeTide_0 24 rfl) rfl (lv_at hl 3 rfl) ?_
      obtain ⟨σ4, hσ4, hf⟩ := fcallv_some hf
      refine fl_v hS (fl_runV (As := [.int x1, .int (0 : Int32), .int x2]) (rest := []) C hP (fe_T (fD_prt h0).2.2.2.2.2.1) (fD_lt (fD_prt h0).2.2.2.2.2.1) rfl (m_X5_put C.2.2.2.2.2.2.2.2 l (fD_prt h0).2.2.2.2.2.1 hσ4) (fgV tw_421 tw_276 tw_277 tw_69 tw_278) hd_X5_put ⟨rfl, rfl, Nat.le_of_ble_eq_true rfl, Nat.le_of_ble_eq_true rfl⟩ rfl hl.1 rfl (Nat.le_of_ble_eq_true rfl) (kd kX3_changeTide_0 25 rfl)) (fun H locs hP hS => ?_)
      refine lv_iload_n C.1 C.2.1 (kd kX3_changeTide_0 26 rfl) rfl (lv_at hl 0 rfl) ?_
      exact fl_iret C hP hS hf (kd kX3_changeTide_0 27 rfl)
    have hf := fif_neg q hf
    refine lv_sipush (v := (-10002 : Int32)) C.1 C.2.1 (kd kX3_changeTide_0 12 rfl) (by decide) ?_
    exact fl_iret C hP hS hf (kd kX3_changeTide_0 13 rfl)
  have hf := fif_pos q hf
  refine lv_sipush (v := (-10001 : Int32)) C.1 C.2.1 (kd kX3_changeTide_0 5 rfl) (by decide) ?_
  exact fl_iret C hP hS hf (kd kX3_changeTide_0 6 rfl)
def f_X3_changeWind (b0 : Nat) (x1 : Int32) (x2 : Int32) (σ : fS) : Option (Int32 × fS) := fcall (f_X5_has (b0 + 13) 48 1 x1 σ) (fun r1_ σ1 => (if r1_ = 0 then some ((-10001 : Int32), σ1) else fcall (f_X7_isOutside x2 (0 : Int32) (99 : Int32) σ1) (fun r2_ σ2 => (if r2_ = 0 then fcall (f_X5_at (b0 + 13) 48 1 x1 (0 : Int32) σ2) (fun r3_ σ3 => fcallv (f_X5_put (b0 + 13) 48 1 x1 (0 : Int32) x2 σ3) (fun σ4 => some (r3_, σ4))) else some ((-10002 : Int32), σ2)))))
set_option maxRecDepth 100000 in
set_option maxHeartbeats 4000000 in
theorem m_X3_changeWind {Γ : fGm} (hI : fI Γ) (l : Launch) {b0 : Nat} {x1 : Int32} {x2 : Int32} (h0 : fD b0 = (3, 0, 0)) {σ : fS} {r : Int32} {σ' : fS} (hf : f_X3_changeWind b0 x1 x2 σ = some (r, σ')) : Met l yX3_changeWind (.code yX3_changeWind cX3_changeWind 4 (some .int) :: lw_g) ({ frames := 1, cells := 0, slots := 0, locals := 23 } : Room) (fPre Γ [.ref (Γ.1 b0), .int x1, .int x2] σ) (fQi Γ r σ') 0 0 (fAd Γ) := by
  refine fl_enter (own := RX3) hI (by decide +kernel) rfl (Nat.le_of_ble_eq_true rfl) ?_
  intro p e s m args below meth c ls C hl hP hS
  have hl : lv_has ls 4 [(0, .ref (Γ.1 b0)), (1, .int x1), (2, .int x2)] := hl
  obtain ⟨H, hH⟩ : ∃ H, H = s.heap := ⟨_, rfl⟩
  obtain ⟨locs, hL⟩ : ∃ L : List Loc, L = [] := ⟨_, rfl⟩
  have hP : fH Γ σ H := by rw [hH]; exact hP
  have hS : va_S (fAd Γ) s.heap H locs := by rw [hH, hL]; exact hS
  suffices hw : W p l e ({ frames := 1, cells := 0, slots := 0, locals := 23 } : Room) s m args below meth c H locs 0 0 (MQ below (fQi Γ r σ') args s 0 0 (fAd Γ)) (F0 m 0 ls []) by rw [hH, hL] at hw; exact hw
  unfold f_X3_changeWind at hf
  refine lv_aload_n C.1 C.2.1 (kd kX3_changeWind_0 0 rfl) rfl (lv_at hl 0 rfl) ?_
  refine fl_get (j := 6) (v := .ref (Γ.1 (b0 + 13))) C hP (fe_P h0) (fD_lt h0) rfl inX3 (Nat.le_of_ble_eq_true rfl) tw_129 rfl (kd kX3_changeWind_0 1 rfl) ?_
  refine lv_iload_n C.1 C.2.1 (kd kX3_changeWind_0 2 rfl) rfl (lv_at hl 1 rfl) ?_
  obtain ⟨r1_, σ1, hσ1, hf⟩ := fcall_some hf
  refine fl_i hS (fl_runV (As := [.int x1]) (rest := []) C hP (fe_T (fD_prt h0).2.2.2.2.2.2) (fD_lt (fD_prt h0).2.2.2.2.2.2) rfl (m_X5_has C.2.2.2.2.2.2.2.2 l (fD_prt h0).2.2.2.2.2.2 hσ1) (fgV tw_377 tw_378 tw_379 tw_69 tw_380) hd_X5_has ⟨rfl, rfl, Nat.le_of_ble_eq_true rfl, Nat.le_of_ble_eq_true rfl⟩ rfl hl.1 rfl (Nat.le_of_ble_eq_true rfl) (kd kX3_changeWind_0 3 rfl)) (fun H locs hP hS => ?_)
  refine lv_if_ne (tgt := 15) C.1 C.2.1 (kd kX3_changeWind_0 4 rfl) (by decide) (fun q => ?_) (fun q => ?_)
  · have hf := fif_neg q hf
    refine lv_iload_n C.1 C.2.1 (kd kX3_changeWind_0 7 rfl) rfl (lv_at hl 2 rfl) ?_
    refine lv_iconst (v := (0 : Int32)) C.1 C.2.1 (kd kX3_changeWind_0 8 rfl) (by decide) ?_
    refine lv_bipush (v := (99 : Int32)) C.1 C.2.1 (kd kX3_changeWind_0 9 rfl) (by decide) ?_
    obtain ⟨r2_, σ2, hσ2, hf⟩ := fcall_some hf
    refine fl_i hS (fl_runN (As := [.int x2, .int (0 : Int32), .int (99 : Int32)]) (rest := []) C hP (m_X7_isOutside C.2.2.2.2.2.2.2.2 l  hσ2) (fgN tw_335) C.2.2.2.2.2.2.2.1.2.1 tw_67 tw_334 hs_X7_isOutside ⟨rfl, rfl, Nat.le_of_ble_eq_true rfl, Nat.le_of_ble_eq_true rfl⟩ rfl hl.1 rfl (Nat.le_of_ble_eq_true rfl) (kd kX3_changeWind_0 10 rfl)) (fun H locs hP hS => ?_)
    refine lv_if_eq (tgt := 29) C.1 C.2.1 (kd kX3_changeWind_0 11 rfl) (by decide) (fun q => ?_) (fun q => ?_)
    · have hf := fif_pos q hf
      refine lv_aload_n C.1 C.2.1 (kd kX3_changeWind_0 14 rfl) rfl (lv_at hl 0 rfl) ?_
      refine fl_get (j := 6) (v := .ref (Γ.1 (b0 + 13))) C hP (fe_P h0) (fD_lt h0) rfl inX3 (Nat.le_of_ble_eq_true rfl) tw_129 rfl (kd kX3_changeWind_0 15 rfl) ?_
      refine lv_iload_n C.1 C.2.1 (kd kX3_changeWind_0 16 rfl) rfl (lv_at hl 1 rfl) ?_
      refine lv_iconst (v := (0 : Int32)) C.1 C.2.1 (kd kX3_changeWind_0 17 rfl) (by decide) ?_
      obtain ⟨r3_, σ3, hσ3, hf⟩ := fcall_some hf
      refine fl_i hS (fl_runV (As := [.int x1, .int (0 : Int32)]) (rest := []) C hP (fe_T (fD_prt h0).2.2.2.2.2.2) (fD_lt (fD_prt h0).2.2.2.2.2.2) rfl (m_X5_at C.2.2.2.2.2.2.2.2 l (fD_prt h0).2.2.2.2.2.2 hσ3) (fgV tw_417 tw_418 tw_419 tw_69 tw_420) hd_X5_at ⟨rfl, rfl, Nat.le_of_ble_eq_true rfl, Nat.le_of_ble_eq_true rfl⟩ rfl hl.1 rfl (Nat.le_of_ble_eq_true rfl) (kd kX3_changeWind_0 18 rfl)) (fun H locs hP hS => ?_)
      refine lv_istore_n (lv' := [(3, .int r3_), (0, .ref (Γ.1 b0)), (1, .int x1), (2, .int x2)]) C.1 C.2.1 (kd kX3_changeWind_0 19 rfl) rfl hl (Nat.le_of_ble_eq_true rfl) rfl (fun ls hl => ?_)
      refine lv_aload_n C.1 C.2.1 (kd kX3_changeWind_0 20 rfl) rfl (lv_at hl 1 rfl) ?_
      refine fl_get (j := 6) (v := .ref (Γ.1 (b0 + 13))) C hP (fe_P h0) (fD_lt h0) rfl inX3 (Nat.le_of_ble_eq_true rfl) tw_129 rfl (kd kX3_changeWind_0 21 rfl) ?_
      refine lv_iload_n C.1 C.2.1 (kd kX3_changeWind_0 22 rfl) rfl (lv_at hl 2 rfl) ?_
      refine lv_iconst (v := (0 : Int32)) C.1 C.2.1 (kd kX3_changeWind_0 23 rfl) (by decide) ?_
      refine lv_iload_n C.1 C.2.1 (kd kX3_changeWind_0 24 rfl) rfl (lv_at hl 3 rfl) ?_
      obtain ⟨σ4, hσ4, hf⟩ := fcallv_some hf
      refine fl_v hS (fl_runV (As := [.int x1, .int (0 : Int32), .int x2]) (rest := []) C hP (fe_T (fD_prt h0).2.2.2.2.2.2) (fD_lt (fD_prt h0).2.2.2.2.2.2) rfl (m_X5_put C.2.2.2.2.2.2.2.2 l (fD_prt h0).2.2.2.2.2.2 hσ4) (fgV tw_421 tw_276 tw_277 tw_69 tw_278) hd_X5_put ⟨rfl, rfl, Nat.le_of_ble_eq_true rfl, Nat.le_of_ble_eq_true rfl⟩ rfl hl.1 rfl (Nat.le_of_ble_eq_true rfl) (kd kX3_changeWind_0 25 rfl)) (fun H locs hP hS => ?_)
      refine lv_iload_n C.1 C.2.1 (kd kX3_changeWind_0 26 rfl) rfl (lv_at hl 0 rfl) ?_
      exact fl_iret C hP hS hf (kd kX3_changeWind_0 27 rfl)
    have hf := fif_neg q hf
    refine lv_sipush (v := (-10002 : Int32)) C.1 C.2.1 (kd kX3_changeWind_0 12 rfl) (by decide) ?_
    exact fl_iret C hP hS hf (kd kX3_changeWind_0 13 rfl)
  have hf := fif_pos q hf
  refine lv_sipush (v := (-10001 : Int32)) C.1 C.2.1 (kd kX3_changeWind_0 5 rfl) (by decide) ?_
  exact fl_iret C hP hS hf (kd kX3_changeWind_0 6 rfl)
def f_X3_changeMargin (b0 : Nat) (x1 : Int32) (σ : fS) : Option (Int32 × fS) := fcall (f_X7_isOutside x1 (0 : Int32) (200 : Int32) σ) (fun r1_ σ1 => (if r1_ = 0 then fL (fu σ1 b0 7 x1) (fun σ2 => some ((σ1 b0 7), σ2)) else some ((-10002 : Int32), σ1)))
set_option maxRecDepth 100000 in
set_option maxHeartbeats 4000000 in
theorem m_X3_changeMargin {Γ : fGm} (hI : fI Γ) (l : Launch) {b0 : Nat} {x1 : Int32} (h0 : fD b0 = (3, 0, 0)) {σ : fS} {r : Int32} {σ' : fS} (hf : f_X3_changeMargin b0 x1 σ = some (r, σ')) : Met l yX3_changeMargin (.code yX3_changeMargin cX3_changeMargin 3 (some .int) :: lw_g) ({ frames := 1, cells := 0, slots := 0, locals := 22 } : Room) (fPre Γ [.ref (Γ.1 b0), .int x1] σ) (fQi Γ r σ') 0 0 (fAd Γ) := by
  refine fl_enter (own := RX3) hI (by decide +kernel) rfl (Nat.le_of_ble_eq_true rfl) ?_
  intro p e s m args below meth c ls C hl hP hS
  have hl : lv_has ls 3 [(0, .ref (Γ.1 b0)), (1, .int x1)] := hl
  obtain ⟨H, hH⟩ : ∃ H, H = s.heap := ⟨_, rfl⟩
  obtain ⟨locs, hL⟩ : ∃ L : List Loc, L = [] := ⟨_, rfl⟩
  have hP : fH Γ σ H := by rw [hH]; exact hP
  have hS : va_S (fAd Γ) s.heap H locs := by rw [hH, hL]; exact hS
  suffices hw : W p l e ({ frames := 1, cells := 0, slots := 0, locals := 22 } : Room) s m args below meth c H locs 0 0 (MQ below (fQi Γ r σ') args s 0 0 (fAd Γ)) (F0 m 0 ls []) by rw [hH, hL] at hw; exact hw
  unfold f_X3_changeMargin at hf
  refine lv_iload_n C.1 C.2.1 (kd kX3_changeMargin_0 0 rfl) rfl (lv_at hl 1 rfl) ?_
  refine lv_iconst (v := (0 : Int32)) C.1 C.2.1 (kd kX3_changeMargin_0 1 rfl) (by decide) ?_
  refine lv_sipush (v := (200 : Int32)) C.1 C.2.1 (kd kX3_changeMargin_0 2 rfl) (by decide) ?_
  obtain ⟨r1_, σ1, hσ1, hf⟩ := fcall_some hf
  refine fl_i hS (fl_runN (As := [.int x1, .int (0 : Int32), .int (200 : Int32)]) (rest := []) C hP (m_X7_isOutside C.2.2.2.2.2.2.2.2 l  hσ1) (fgN tw_335) C.2.2.2.2.2.2.2.1.2.1 tw_67 tw_334 hs_X7_isOutside ⟨rfl, rfl, Nat.le_of_ble_eq_true rfl, Nat.le_of_ble_eq_true rfl⟩ rfl hl.1 rfl (Nat.le_of_ble_eq_true rfl) (kd kX3_changeMargin_0 3 rfl)) (fun H locs hP hS => ?_)
  refine lv_if_eq (tgt := 15) C.1 C.2.1 (kd kX3_changeMargin_0 4 rfl) (by decide) (fun q => ?_) (fun q => ?_)
  · have hf := fif_pos q hf
    refine lv_aload_n C.1 C.2.1 (kd kX3_changeMargin_0 7 rfl) rfl (lv_at hl 0 rfl) ?_
    refine fl_get (j := 7) (v := .int (σ1 b0 7)) C hP (fe_P h0) (fD_lt h0) rfl inX3 (Nat.le_of_ble_eq_true rfl) tw_131 rfl (kd kX3_changeMargin_0 8 rfl) ?_
    refine lv_istore_n (lv' := [(2, .int (σ1 b0 7)), (0, .ref (Γ.1 b0)), (1, .int x1)]) C.1 C.2.1 (kd kX3_changeMargin_0 9 rfl) rfl hl (Nat.le_of_ble_eq_true rfl) rfl (fun ls hl => ?_)
    refine lv_aload_n C.1 C.2.1 (kd kX3_changeMargin_0 10 rfl) rfl (lv_at hl 1 rfl) ?_
    refine lv_iload_n C.1 C.2.1 (kd kX3_changeMargin_0 11 rfl) rfl (lv_at hl 2 rfl) ?_
    obtain ⟨σ2, eσ2, hf⟩ := fL_some hf
    refine fl_put (j := 7) C hP hS (fe_P h0) (fe_P h0) (fD_lt h0) rfl inX3 tyX3 tyX3_ok nmX3 (Nat.le_of_ble_eq_true rfl) tw_131 rfl rfl rfl (Nat.le_of_ble_eq_true rfl) (kd kX3_changeMargin_0 12 rfl) (fun H locs hP hS => ?_)
    have hP : fH Γ σ2 H := by rw [eσ2]; exact hP
    refine lv_iload_n C.1 C.2.1 (kd kX3_changeMargin_0 13 rfl) rfl (lv_at hl 0 rfl) ?_
    exact fl_iret C hP hS hf (kd kX3_changeMargin_0 14 rfl)
  have hf := fif_neg q hf
  refine lv_sipush (v := (-10002 : Int32)) C.1 C.2.1 (kd kX3_changeMargin_0 5 rfl) (by decide) ?_
  exact fl_iret C hP hS hf (kd kX3_changeMargin_0 6 rfl)
def f_X3_hasLane (b0 : Nat) (x1 : Int32) (x2 : Int32) (σ : fS) : Option (Int32 × fS) := fcall (f_X5_has (b0 + 5) 12 4 x1 σ) (fun r1_ σ1 => (if r1_ = 0 then some ((0 : Int32), σ1) else (if x2 < 0 then some ((0 : Int32), σ1) else fcall (f_X3_lanesOf b0 x1 σ1) (fun r2_ σ2 => (if r2_ ≤ x2 then some ((0 : Int32), σ2) else some ((1 : Int32), σ2))))))
set_option maxRecDepth 100000 in
set_option maxHeartbeats 4000000 in
theorem m_X3_hasLane {Γ : fGm} (hI : fI Γ) (l : Launch) {b0 : Nat} {x1 : Int32} {x2 : Int32} (h0 : fD b0 = (3, 0, 0)) {σ : fS} {r : Int32} {σ' : fS} (hf : f_X3_hasLane b0 x1 x2 σ = some (r, σ')) : Met l yX3_hasLane (.code yX3_hasLane cX3_hasLane 3 (some .boolean) :: lw_g) ({ frames := 2, cells := 0, slots := 0, locals := 43 } : Room) (fPre Γ [.ref (Γ.1 b0), .int x1, .int x2] σ) (fQi Γ r σ') 0 0 (fAd Γ) := by
  refine fl_enter (own := RX3) hI (by decide +kernel) rfl (Nat.le_of_ble_eq_true rfl) ?_
  intro p e s m args below meth c ls C hl hP hS
  have hl : lv_has ls 3 [(0, .ref (Γ.1 b0)), (1, .int x1), (2, .int x2)] := hl
  obtain ⟨H, hH⟩ : ∃ H, H = s.heap := ⟨_, rfl⟩
  obtain ⟨locs, hL⟩ : ∃ L : List Loc, L = [] := ⟨_, rfl⟩
  have hP : fH Γ σ H := by rw [hH]; exact hP
  have hS : va_S (fAd Γ) s.heap H locs := by rw [hH, hL]; exact hS
  suffices hw : W p l e ({ frames := 2, cells := 0, slots := 0, locals := 43 } : Room) s m args below meth c H locs 0 0 (MQ below (fQi Γ r σ') args s 0 0 (fAd Γ)) (F0 m 0 ls []) by rw [hH, hL] at hw; exact hw
  unfold f_X3_hasLane at hf
  refine lv_aload_n C.1 C.2.1 (kd kX3_hasLane_0 0 rfl) rfl (lv_at hl 0 rfl) ?_
  refine fl_get (j := 2) (v := .ref (Γ.1 (b0 + 5))) C hP (fe_P h0) (fD_lt h0) rfl inX3 (Nat.le_of_ble_eq_true rfl) tw_117 rfl (kd kX3_hasLane_0 1 rfl) ?_
  refine lv_iload_n C.1 C.2.1 (kd kX3_hasLane_0 2 rfl) rfl (lv_at hl 1 rfl) ?_
  obtain ⟨r1_, σ1, hσ1, hf⟩ := fcall_some hf
  refine fl_i hS (fl_runV (As := [.int x1]) (rest := []) C hP (fe_T (fD_prt h0).2.2.1) (fD_lt (fD_prt h0).2.2.1) rfl (m_X5_has C.2.2.2.2.2.2.2.2 l (fD_prt h0).2.2.1 hσ1) (fgV tw_377 tw_378 tw_379 tw_69 tw_380) hd_X5_has ⟨rfl, rfl, Nat.le_of_ble_eq_true rfl, Nat.le_of_ble_eq_true rfl⟩ rfl hl.1 rfl (Nat.le_of_ble_eq_true rfl) (kd kX3_hasLane_0 3 rfl)) (fun H locs hP hS => ?_)
  refine lv_if_eq (tgt := 28) C.1 C.2.1 (kd kX3_hasLane_0 4 rfl) (by decide) (fun q => ?_) (fun q => ?_)
  · have hf := fif_pos q hf
    refine lv_iconst (v := (0 : Int32)) C.1 C.2.1 (kd kX3_hasLane_0 14 rfl) (by decide) ?_
    exact fl_zret C hP hS rfl hf (kd kX3_hasLane_0 15 rfl)
  have hf := fif_neg q hf
  refine lv_iload_n C.1 C.2.1 (kd kX3_hasLane_0 5 rfl) rfl (lv_at hl 2 rfl) ?_
  refine lv_if_lt (tgt := 28) C.1 C.2.1 (kd kX3_hasLane_0 6 rfl) (by decide) (fun q => ?_) (fun q => ?_)
  · have hf := fif_pos q hf
    refine lv_iconst (v := (0 : Int32)) C.1 C.2.1 (kd kX3_hasLane_0 14 rfl) (by decide) ?_
    exact fl_zret C hP hS rfl hf (kd kX3_hasLane_0 15 rfl)
  have hf := fif_neg q hf
  refine lv_iload_n C.1 C.2.1 (kd kX3_hasLane_0 7 rfl) rfl (lv_at hl 2 rfl) ?_
  refine lv_aload_n C.1 C.2.1 (kd kX3_hasLane_0 8 rfl) rfl (lv_at hl 0 rfl) ?_
  refine lv_iload_n C.1 C.2.1 (kd kX3_hasLane_0 9 rfl) rfl (lv_at hl 1 rfl) ?_
  obtain ⟨r2_, σ2, hσ2, hf⟩ := fcall_some hf
  refine fl_i hS (fl_runV (As := [.int x1]) (rest := [.int x2]) C hP (fe_P h0) (fD_lt h0) rfl (m_X3_lanesOf C.2.2.2.2.2.2.2.2 l h0 hσ2) (fgV tw_720 tw_644 tw_645 tw_68 tw_646) hd_X3_lanesOf ⟨rfl, rfl, Nat.le_of_ble_eq_true rfl, Nat.le_of_ble_eq_true rfl⟩ rfl hl.1 rfl (Nat.le_of_ble_eq_true rfl) (kd kX3_hasLane_0 10 rfl)) (fun H locs hP hS => ?_)
  refine lv_icmp_ge (tgt := 28) C.1 C.2.1 (kd kX3_hasLane_0 11 rfl) (by decide) (fun q => ?_) (fun q => ?_)
  · have hf := fif_pos q hf
    refine lv_iconst (v := (0 : Int32)) C.1 C.2.1 (kd kX3_hasLane_0 14 rfl) (by decide) ?_
    exact fl_zret C hP hS rfl hf (kd kX3_hasLane_0 15 rfl)
  have hf := fif_neg q hf
  refine lv_iconst (v := (1 : Int32)) C.1 C.2.1 (kd kX3_hasLane_0 12 rfl) (by decide) ?_
  refine lv_goto (tgt := 29) C.1 C.2.1 (kd kX3_hasLane_0 13 rfl) (by decide) ?_
  exact fl_zret C hP hS rfl hf (kd kX3_hasLane_0 15 rfl)
end GM

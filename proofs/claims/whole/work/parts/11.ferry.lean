section GM
variable {p : Program} {l : Launch} {e : Env} {s : State} {m : MethodId} {args : Array Value} {below : List Frame} {meth : Method} {c : Code} {Γ : fGm}
def f_X7_noted (x1 : Int32) (σ : fS) : Option (Int32 × fS) := fcall (f_X7_isError x1 σ) (fun r1_ σ1 => (if r1_ = 0 then fcallv (f_X1_keep 16 σ1) (fun σ2 => some (x1, σ2)) else some (x1, σ1)))
set_option maxRecDepth 100000 in
set_option maxHeartbeats 4000000 in
theorem m_X7_noted {Γ : fGm} (hI : fI Γ) (l : Launch) {x1 : Int32} {σ : fS} {r : Int32} {σ' : fS} (hf : f_X7_noted x1 σ = some (r, σ')) : Met l yX7_noted (.code yX7_noted cX7_noted 2 (some .int) :: lw_g) ({ frames := 4, cells := 0, slots := 0, locals := 103 } : Room) (fPre Γ [.ref (Γ.1 0), .int x1] σ) (fQi Γ r σ') 0 0 (fAd Γ) := by
  refine fl_enter (own := RX7) hI (by decide +kernel) rfl (Nat.le_of_ble_eq_true rfl) ?_
  intro p e s m args below meth c ls C hl hP hS
  have hl : lv_has ls 2 [(0, .ref (Γ.1 0)), (1, .int x1)] := hl
  obtain ⟨H, hH⟩ : ∃ H, H = s.heap := ⟨_, rfl⟩
  obtain ⟨locs, hL⟩ : ∃ L : List Loc, L = [] := ⟨_, rfl⟩
  have hP : fH Γ σ H := by rw [hH]; exact hP
  have hS : va_S (fAd Γ) s.heap H locs := by rw [hH, hL]; exact hS
  suffices hw : W p l e ({ frames := 4, cells := 0, slots := 0, locals := 103 } : Room) s m args below meth c H locs 0 0 (MQ below (fQi Γ r σ') args s 0 0 (fAd Γ)) (F0 m 0 ls []) by rw [hH, hL] at hw; exact hw
  unfold f_X7_noted at hf
  refine lv_iload_n C.1 C.2.1 (kd kX7_noted_0 0 rfl) rfl (lv_at hl 1 rfl) ?_
  obtain ⟨r1_, σ1, hσ1, hf⟩ := fcall_some hf
  refine fl_i hS (fl_runS (As := [.int x1]) (rest := []) C hP (m_X7_isError C.2.2.2.2.2.2.2.2 l  hσ1) (fgS tw_349 tw_350 tw_67 tw_351) hs_X7_isError ⟨rfl, rfl, Nat.le_of_ble_eq_true rfl, Nat.le_of_ble_eq_true rfl⟩ rfl hl.1 rfl (Nat.le_of_ble_eq_true rfl) (kd kX7_noted_0 1 rfl)) (fun H locs hP hS => ?_)
  refine lv_if_ne (tgt := 18) C.1 C.2.1 (kd kX7_noted_0 2 rfl) (by decide) (fun q => ?_) (fun q => ?_)
  · have hf := fif_neg q hf
    refine lv_iload_n C.1 C.2.1 (kd kX7_noted_0 8 rfl) rfl (lv_at hl 1 rfl) ?_
    exact fl_iret C hP hS hf (kd kX7_noted_0 9 rfl)
  have hf := fif_pos q hf
  refine lv_aload_n C.1 C.2.1 (kd kX7_noted_0 3 rfl) rfl (lv_at hl 0 rfl) ?_
  refine fl_get (j := 3) (v := .ref (Γ.1 46)) C hP rfl (Nat.le_of_ble_eq_true rfl) rfl inX7 (Nat.le_of_ble_eq_true rfl) tw_286 rfl (kd kX7_noted_0 4 rfl) ?_
  refine lv_aload_n C.1 C.2.1 (kd kX7_noted_0 5 rfl) rfl (lv_at hl 0 rfl) ?_
  refine fl_get (j := 1) (v := .ref (Γ.1 16)) C hP rfl (Nat.le_of_ble_eq_true rfl) rfl inX7 (Nat.le_of_ble_eq_true rfl) tw_284 rfl (kd kX7_noted_0 6 rfl) ?_
  obtain ⟨σ2, hσ2, hf⟩ := fcallv_some hf
  refine fl_v hS (fl_runV (As := [.ref (Γ.1 16)]) (rest := []) C hP rfl (Nat.le_of_ble_eq_true rfl) rfl (m_X1_keep C.2.2.2.2.2.2.2.2 l rfl hσ2) (fgV tw_352 tw_353 tw_354 tw_70 tw_355) hd_X1_keep ⟨rfl, rfl, Nat.le_of_ble_eq_true rfl, Nat.le_of_ble_eq_true rfl⟩ rfl hl.1 rfl (Nat.le_of_ble_eq_true rfl) (kd kX7_noted_0 7 rfl)) (fun H locs hP hS => ?_)
  refine lv_iload_n C.1 C.2.1 (kd kX7_noted_0 8 rfl) rfl (lv_at hl 1 rfl) ?_
  exact fl_iret C hP hS hf (kd kX7_noted_0 9 rfl)
def f_X7_addShip (x1 : Int32) (x2 : Int32) (x3 : Int32) (x4 : Int32) (σ : fS) : Option (Int32 × fS) := fcallv (f_X3_copyFrom 16 1 σ) (fun σ1 => fcall (f_X3_enterShip 1 x1 x2 x3 x4 σ1) (fun r2_ σ2 => fcall (f_X7_noted r2_ σ2) (fun r3_ σ3 => some (r3_, σ3))))
set_option maxRecDepth 100000 in
set_option maxHeartbeats 4000000 in
theorem m_X7_addShip {Γ : fGm} (hI : fI Γ) (l : Launch) {x1 : Int32} {x2 : Int32} {x3 : Int32} {x4 : Int32} {σ : fS} {r : Int32} {σ' : fS} (hf : f_X7_addShip x1 x2 x3 x4 σ = some (r, σ')) : Met l yX7_addShip (.code yX7_addShip cX7_addShip 5 (some .int) :: lw_g) ({ frames := 5, cells := 0, slots := 0, locals := 124 } : Room) (fPre Γ [.ref (Γ.1 0), .int x1, .int x2, .int x3, .int x4] σ) (fQi Γ r σ') 0 0 (fAd Γ) := by
  refine fl_enter (own := RX7) hI (by decide +kernel) rfl (Nat.le_of_ble_eq_true rfl) ?_
  intro p e s m args below meth c ls C hl hP hS
  have hl : lv_has ls 5 [(0, .ref (Γ.1 0)), (1, .int x1), (2, .int x2), (3, .int x3), (4, .int x4)] := hl
  obtain ⟨H, hH⟩ : ∃ H, H = s.heap := ⟨_, rfl⟩
  obtain ⟨locs, hL⟩ : ∃ L : List Loc, L = [] := ⟨_, rfl⟩
  have hP : fH Γ σ H := by rw [hH]; exact hP
  have hS : va_S (fAd Γ) s.heap H locs := by rw [hH, hL]; exact hS
  suffices hw : W p l e ({ frames := 5, cells := 0, slots := 0, locals := 124 } : Room) s m args below meth c H locs 0 0 (MQ below (fQi Γ r σ') args s 0 0 (fAd Γ)) (F0 m 0 ls []) by rw [hH, hL] at hw; exact hw
  unfold f_X7_addShip at hf
  refine lv_aload_n C.1 C.2.1 (kd kX7_addShip_0 0 rfl) rfl (lv_at hl 0 rfl) ?_
  refine fl_get (j := 1) (v := .ref (Γ.1 16)) C hP rfl (Nat.le_of_ble_eq_true rfl) rfl inX7 (Nat.le_of_ble_eq_true rfl) tw_284 rfl (kd kX7_addShip_0 1 rfl) ?_
  refine lv_aload_n C.1 C.2.1 (kd kX7_addShip_0 2 rfl) rfl (lv_at hl 0 rfl) ?_
  refine fl_get (j := 0) (v := .ref (Γ.1 1)) C hP rfl (Nat.le_of_ble_eq_true rfl) rfl inX7 (Nat.le_of_ble_eq_true rfl) tw_283 rfl (kd kX7_addShip_0 3 rfl) ?_
  obtain ⟨σ1, hσ1, hf⟩ := fcallv_some hf
  refine fl_v hS (fl_runV (As := [.ref (Γ.1 1)]) (rest := []) C hP rfl (Nat.le_of_ble_eq_true rfl) rfl (m_X3_copyFrom C.2.2.2.2.2.2.2.2 l rfl rfl hσ1) (fgV tw_315 tw_316 tw_317 tw_68 tw_318) hd_X3_copyFrom ⟨rfl, rfl, Nat.le_of_ble_eq_true rfl, Nat.le_of_ble_eq_true rfl⟩ rfl hl.1 rfl (Nat.le_of_ble_eq_true rfl) (kd kX7_addShip_0 4 rfl)) (fun H locs hP hS => ?_)
  refine lv_aload_n C.1 C.2.1 (kd kX7_addShip_0 5 rfl) rfl (lv_at hl 0 rfl) ?_
  refine lv_aload_n C.1 C.2.1 (kd kX7_addShip_0 6 rfl) rfl (lv_at hl 0 rfl) ?_
  refine fl_get (j := 0) (v := .ref (Γ.1 1)) C hP rfl (Nat.le_of_ble_eq_true rfl) rfl inX7 (Nat.le_of_ble_eq_true rfl) tw_283 rfl (kd kX7_addShip_0 7 rfl) ?_
  refine lv_iload_n C.1 C.2.1 (kd kX7_addShip_0 8 rfl) rfl (lv_at hl 1 rfl) ?_
  refine lv_iload_n C.1 C.2.1 (kd kX7_addShip_0 9 rfl) rfl (lv_at hl 2 rfl) ?_
  refine lv_iload_n C.1 C.2.1 (kd kX7_addShip_0 10 rfl) rfl (lv_at hl 3 rfl) ?_
  refine lv_iload C.1 C.2.1 (kd kX7_addShip_0 11 rfl) (lv_at hl 4 rfl) ?_
  obtain ⟨r2_, σ2, hσ2, hf⟩ := fcall_some hf
  refine fl_i hS (fl_runV (As := [.int x1, .int x2, .int x3, .int x4]) (rest := [.ref (Γ.1 0)]) C hP rfl (Nat.le_of_ble_eq_true rfl) rfl (m_X3_enterShip C.2.2.2.2.2.2.2.2 l rfl hσ2) (fgV tw_329 tw_330 tw_331 tw_68 tw_332) hd_X3_enterShip ⟨rfl, rfl, Nat.le_of_ble_eq_true rfl, Nat.le_of_ble_eq_true rfl⟩ rfl hl.1 rfl (Nat.le_of_ble_eq_true rfl) (kd kX7_addShip_0 12 rfl)) (fun H locs hP hS => ?_)
  obtain ⟨r3_, σ3, hσ3, hf⟩ := fcall_some hf
  refine fl_i hS (fl_runV (As := [.int r2_]) (rest := []) C hP rfl (Nat.le_of_ble_eq_true rfl) rfl (m_X7_noted C.2.2.2.2.2.2.2.2 l  hσ3) (fgV tw_345 tw_347 tw_0 tw_67 tw_348) hd_X7_noted ⟨rfl, rfl, Nat.le_of_ble_eq_true rfl, Nat.le_of_ble_eq_true rfl⟩ rfl hl.1 rfl (Nat.le_of_ble_eq_true rfl) (kd kX7_addShip_0 13 rfl)) (fun H locs hP hS => ?_)
  exact fl_iret C hP hS hf (kd kX7_addShip_0 14 rfl)
def f_X7_addBerth (x1 : Int32) (x2 : Int32) (σ : fS) : Option (Int32 × fS) := fcallv (f_X3_copyFrom 16 1 σ) (fun σ1 => fcall (f_X3_enterBerth 1 x1 x2 σ1) (fun r2_ σ2 => fcall (f_X7_noted r2_ σ2) (fun r3_ σ3 => some (r3_, σ3))))
set_option maxRecDepth 100000 in
set_option maxHeartbeats 4000000 in
theorem m_X7_addBerth {Γ : fGm} (hI : fI Γ) (l : Launch) {x1 : Int32} {x2 : Int32} {σ : fS} {r : Int32} {σ' : fS} (hf : f_X7_addBerth x1 x2 σ = some (r, σ')) : Met l yX7_addBerth (.code yX7_addBerth cX7_addBerth 3 (some .int) :: lw_g) ({ frames := 5, cells := 0, slots := 0, locals := 124 } : Room) (fPre Γ [.ref (Γ.1 0), .int x1, .int x2] σ) (fQi Γ r σ') 0 0 (fAd Γ) := by
  refine fl_enter (own := RX7) hI (by decide +kernel) rfl (Nat.le_of_ble_eq_true rfl) ?_
  intro p e s m args below meth c ls C hl hP hS
  have hl : lv_has ls 3 [(0, .ref (Γ.1 0)), (1, .int x1), (2, .int x2)] := hl
  obtain ⟨H, hH⟩ : ∃ H, H = s.heap := ⟨_, rfl⟩
  obtain ⟨locs, hL⟩ : ∃ L : List Loc, L = [] := ⟨_, rfl⟩
  have hP : fH Γ σ H := by rw [hH]; exact hP
  have hS : va_S (fAd Γ) s.heap H locs := by rw [hH, hL]; exact hS
  suffices hw : W p l e ({ frames := 5, cells := 0, slots := 0, locals := 124 } : Room) s m args below meth c H locs 0 0 (MQ below (fQi Γ r σ') args s 0 0 (fAd Γ)) (F0 m 0 ls []) by rw [hH, hL] at hw; exact hw
  unfold f_X7_addBerth at hf
  refine lv_aload_n C.1 C.2.1 (kd kX7_addBerth_0 0 rfl) rfl (lv_at hl 0 rfl) ?_
  refine fl_get (j := 1) (v := .ref (Γ.1 16)) C hP rfl (Nat.le_of_ble_eq_true rfl) rfl inX7 (Nat.le_of_ble_eq_true rfl) tw_284 rfl (kd kX7_addBerth_0 1 rfl) ?_
  refine lv_aload_n C.1 C.2.1 (kd kX7_addBerth_0 2 rfl) rfl (lv_at hl 0 rfl) ?_
  refine fl_get (j := 0) (v := .ref (Γ.1 1)) C hP rfl (Nat.le_of_ble_eq_true rfl) rfl inX7 (Nat.le_of_ble_eq_true rfl) tw_283 rfl (kd kX7_addBerth_0 3 rfl) ?_
  obtain ⟨σ1, hσ1, hf⟩ := fcallv_some hf
  refine fl_v hS (fl_runV (As := [.ref (Γ.1 1)]) (rest := []) C hP rfl (Nat.le_of_ble_eq_true rfl) rfl (m_X3_copyFrom C.2.2.2.2.2.2.2.2 l rfl rfl hσ1) (fgV tw_315 tw_316 tw_317 tw_68 tw_318) hd_X3_copyFrom ⟨rfl, rfl, Nat.le_of_ble_eq_true rfl, Nat.le_of_ble_eq_true rfl⟩ rfl hl.1 rfl (Nat.le_of_ble_eq_true rfl) (kd kX7_addBerth_0 4 rfl)) (fun H locs hP hS => ?_)
  refine lv_aload_n C.1 C.2.1 (kd kX7_addBerth_0 5 rfl) rfl (lv_at hl 0 rfl) ?_
  refine lv_aload_n C.1 C.2.1 (kd kX7_addBerth_0 6 rfl) rfl (lv_at hl 0 rfl) ?_
  refine fl_get (j := 0) (v := .ref (Γ.1 1)) C hP rfl (Nat.le_of_ble_eq_true rfl) rfl inX7 (Nat.le_of_ble_eq_true rfl) tw_283 rfl (kd kX7_addBerth_0 7 rfl) ?_
  refine lv_iload_n C.1 C.2.1 (kd kX7_addBerth_0 8 rfl) rfl (lv_at hl 1 rfl) ?_
  refine lv_iload_n C.1 C.2.1 (kd kX7_addBerth_0 9 rfl) rfl (lv_at hl 2 rfl) ?_
  obtain ⟨r2_, σ2, hσ2, hf⟩ := fcall_some hf
  refine fl_i hS (fl_runV (As := [.int x1, .int x2]) (rest := [.ref (Γ.1 0)]) C hP rfl (Nat.le_of_ble_eq_true rfl) rfl (m_X3_enterBerth C.2.2.2.2.2.2.2.2 l rfl hσ2) (fgV tw_362 tw_363 tw_364 tw_68 tw_365) hd_X3_enterBerth ⟨rfl, rfl, Nat.le_of_ble_eq_true rfl, Nat.le_of_ble_eq_true rfl⟩ rfl hl.1 rfl (Nat.le_of_ble_eq_true rfl) (kd kX7_addBerth_0 10 rfl)) (fun H locs hP hS => ?_)
  obtain ⟨r3_, σ3, hσ3, hf⟩ := fcall_some hf
  refine fl_i hS (fl_runV (As := [.int r2_]) (rest := []) C hP rfl (Nat.le_of_ble_eq_true rfl) rfl (m_X7_noted C.2.2.2.2.2.2.2.2 l  hσ3) (fgV tw_345 tw_347 tw_0 tw_67 tw_348) hd_X7_noted ⟨rfl, rfl, Nat.le_of_ble_eq_true rfl, Nat.le_of_ble_eq_true rfl⟩ rfl hl.1 rfl (Nat.le_of_ble_eq_true rfl) (kd kX7_addBerth_0 11 rfl)) (fun H locs hP hS => ?_)
  exact fl_iret C hP hS hf (kd kX7_addBerth_0 12 rfl)
def f_X7_addCrossing (x1 : Int32) (x2 : Int32) (x3 : Int32) (x4 : Int32) (σ : fS) : Option (Int32 × fS) := fcallv (f_X3_copyFrom 16 1 σ) (fun σ1 => fcall (f_X3_enterCrossing 1 x1 x2 x3 x4 σ1) (fun r2_ σ2 => fcall (f_X7_noted r2_ σ2) (fun r3_ σ3 => some (r3_, σ3))))
set_option maxRecDepth 100000 in
set_option maxHeartbeats 4000000 in
theorem m_X7_addCrossing {Γ : fGm} (hI : fI Γ) (l : Launch) {x1 : Int32} {x2 : Int32} {x3 : Int32} {x4 : Int32} {σ : fS} {r : Int32} {σ' : fS} (hf : f_X7_addCrossing x1 x2 x3 x4 σ = some (r, σ')) : Met l yX7_addCrossing (.code yX7_addCrossing cX7_addCrossing 5 (some .int) :: lw_g) ({ frames := 5, cells := 0, slots := 0, locals := 124 } : Room) (fPre Γ [.ref (Γ.1 0), .int x1, .int x2, .int x3, .int x4] σ) (fQi Γ r σ') 0 0 (fAd Γ) := by
  refine fl_enter (own := RX7) hI (by decide +kernel) rfl (Nat.le_of_ble_eq_true rfl) ?_
  intro p e s m args below meth c ls C hl hP hS
  have hl : lv_has ls 5 [(0, .ref (Γ.1 0)), (1, .int x1), (2, .int x2), (3, .int x3), (4, .int x4)] := hl
  obtain ⟨H, hH⟩ : ∃ H, H = s.heap := ⟨_, rfl⟩
  obtain ⟨locs, hL⟩ : ∃ L : List Loc, L = [] := ⟨_, rfl⟩
  have hP : fH Γ σ H := by rw [hH]; exact hP
  have hS : va_S (fAd Γ) s.heap H locs := by rw [hH, hL]; exact hS
  suffices hw : W p l e ({ frames := 5, cells := 0, slots := 0, locals := 124 } : Room) s m args below meth c H locs 0 0 (MQ below (fQi Γ r σ') args s 0 0 (fAd Γ)) (F0 m 0 ls []) by rw [hH, hL] at hw; exact hw
  unfold f_X7_addCrossing at hf
  refine lv_aload_n C.1 C.2.1 (kd kX7_addCrossing_0 0 rfl) rfl (lv_at hl 0 rfl) ?_
  refine fl_get (j := 1) (v := .ref (Γ.1 16)) C hP rfl (Nat.le_of_ble_eq_true rfl) rfl inX7 (Nat.le_of_ble_eq_true rfl) tw_284 rfl (kd kX7_addCrossing_0 1 rfl) ?_
  refine lv_aload_n C.1 C.2.1 (kd kX7_addCrossing_0 2 rfl) rfl (lv_at hl 0 rfl) ?_
  refine fl_get (j := 0) (v := .ref (Γ.1 1)) C hP rfl (Nat.le_of_ble_eq_true rfl) rfl inX7 (Nat.le_of_ble_eq_true rfl) tw_283 rfl (kd kX7_addCrossing_0 3 rfl) ?_
  obtain ⟨σ1, hσ1, hf⟩ := fcallv_some hf
  refine fl_v hS (fl_runV (As := [.ref (Γ.1 1)]) (rest := []) C hP rfl (Nat.le_of_ble_eq_true rfl) rfl (m_X3_copyFrom C.2.2.2.2.2.2.2.2 l rfl rfl hσ1) (fgV tw_315 tw_316 tw_317 tw_68 tw_318) hd_X3_copyFrom ⟨rfl, rfl, Nat.le_of_ble_eq_true rfl, Nat.le_of_ble_eq_true rfl⟩ rfl hl.1 rfl (Nat.le_of_ble_eq_true rfl) (kd kX7_addCrossing_0 4 rfl)) (fun H locs hP hS => ?_)
  refine lv_aload_n C.1 C.2.1 (kd kX7_addCrossing_0 5 rfl) rfl (lv_at hl 0 rfl) ?_
  refine lv_aload_n C.1 C.2.1 (kd kX7_addCrossing_0 6 rfl) rfl (lv_at hl 0 rfl) ?_
  refine fl_get (j := 0) (v := .ref (Γ.1 1)) C hP rfl (Nat.le_of_ble_eq_true rfl) rfl inX7 (Nat.le_of_ble_eq_true rfl) tw_283 rfl (kd kX7_addCrossing_0 7 rfl) ?_
  refine lv_iload_n C.1 C.2.1 (kd kX7_addCrossing_0 8 rfl) rfl (lv_at hl 1 rfl) ?_
  refine lv_iload_n C.1 C.2.1 (kd kX7_addCrossing_0 9 rfl) rfl (lv_at hl 2 rfl) ?_
  refine lv_iload_n C.1 C.2.1 (kd kX7_addCrossing_0 10 rfl) rfl (lv_at hl 3 rfl) ?_
  refine lv_iload C.1 C.2.1 (kd kX7_addCrossing_0 11 rfl) (lv_at hl 4 rfl) ?_
  obtain ⟨r2_, σ2, hσ2, hf⟩ := fcall_some hf
  refine fl_i hS (fl_runV (As := [.int x1, .int x2, .int x3, .int x4]) (rest := [.ref (Γ.1 0)]) C hP rfl (Nat.le_of_ble_eq_true rfl) rfl (m_X3_enterCrossing C.2.2.2.2.2.2.2.2 l rfl hσ2) (fgV tw_373 tw_374 tw_375 tw_68 tw_376) hd_X3_enterCrossing ⟨rfl, rfl, Nat.le_of_ble_eq_true rfl, Nat.le_of_ble_eq_true rfl⟩ rfl hl.1 rfl (Nat.le_of_ble_eq_true rfl) (kd kX7_addCrossing_0 12 rfl)) (fun H locs hP hS => ?_)
  obtain ⟨r3_, σ3, hσ3, hf⟩ := fcall_some hf
  refine fl_i hS (fl_runV (As := [.int r2_]) (rest := []) C hP rfl (Nat.le_of_ble_eq_true rfl) rfl (m_X7_noted C.2.2.2.2.2.2.2.2 l  hσ3) (fgV tw_345 tw_347 tw_0 tw_67 tw_348) hd_X7_noted ⟨rfl, rfl, Nat.le_of_ble_eq_true rfl, Nat.le_of_ble_eq_true rfl⟩ rfl hl.1 rfl (Nat.le_of_ble_eq_true rfl) (kd kX7_addCrossing_0 13 rfl)) (fun H locs hP hS => ?_)
  exact fl_iret C hP hS hf (kd kX7_addCrossing_0 14 rfl)
def f_X7_addVehicle (x1 : Int32) (x2 : Int32) (x3 : Int32) (σ : fS) : Option (Int32 × fS) := fcallv (f_X3_copyFrom 16 1 σ) (fun σ1 => fcall (f_X3_enterVehicle 1 x1 x2 x3 σ1) (fun r2_ σ2 => fcall (f_X7_noted r2_ σ2) (fun r3_ σ3 => some (r3_, σ3))))
set_option maxRecDepth 100000 in
set_option maxHeartbeats 4000000 in
theorem m_X7_addVehicle {Γ : fGm} (hI : fI Γ) (l : Launch) {x1 : Int32} {x2 : Int32} {x3 : Int32} {σ : fS} {r : Int32} {σ' : fS} (hf : f_X7_addVehicle x1 x2 x3 σ = some (r, σ')) : Met l yX7_addVehicle (.code yX7_addVehicle cX7_addVehicle 4 (some .int) :: lw_g) ({ frames := 5, cells := 0, slots := 0, locals := 124 } : Room) (fPre Γ [.ref (Γ.1 0), .int x1, .int x2, .int x3] σ) (fQi Γ r σ') 0 0 (fAd Γ) := by
  refine fl_enter (own := RX7) hI (by decide +kernel) rfl (Nat.le_of_ble_eq_true rfl) ?_
  intro p e s m args below meth c ls C hl hP hS
  have hl : lv_has ls 4 [(0, .ref (Γ.1 0)), (1, .int x1), (2, .int x2), (3, .int x3)] := hl
  obtain ⟨H, hH⟩ : ∃ H, H = s.heap := ⟨_, rfl⟩
  obtain ⟨locs, hL⟩ : ∃ L : List Loc, L = [] := ⟨_, rfl⟩
  have hP : fH Γ σ H := by rw [hH]; exact hP
  have hS : va_S (fAd Γ) s.heap H locs := by rw [hH, hL]; exact hS
  suffices hw : W p l e ({ frames := 5, cells := 0, slots := 0, locals := 124 } : Room) s m args below meth c H locs 0 0 (MQ below (fQi Γ r σ') args s 0 0 (fAd Γ)) (F0 m 0 ls []) by rw [hH, hL] at hw; exact hw
  unfold f_X7_addVehicle at hf
  refine lv_aload_n C.1 C.2.1 (kd kX7_addVehicle_0 0 rfl) rfl (lv_at hl 0 rfl) ?_
  refine fl_get (j := 1) (v := .ref (Γ.1 16)) C hP rfl (Nat.le_of_ble_eq_true rfl) rfl inX7 (Nat.le_of_ble_eq_true rfl) tw_284 rfl (kd kX7_addVehicle_0 1 rfl) ?_
  refine lv_aload_n C.1 C.2.1 (kd kX7_addVehicle_0 2 rfl) rfl (lv_at hl 0 rfl) ?_
  refine fl_get (j := 0) (v := .ref (Γ.1 1)) C hP rfl (Nat.le_of_ble_eq_true rfl) rfl inX7 (Nat.le_of_ble_eq_true rfl) tw_283 rfl (kd kX7_addVehicle_0 3 rfl) ?_
  obtain ⟨σ1, hσ1, hf⟩ := fcallv_some hf
  refine fl_v hS (fl_runV (As := [.ref (Γ.1 1)]) (rest := []) C hP rfl (Nat.le_of_ble_eq_true rfl) rfl (m_X3_copyFrom C.2.2.2.2.2.2.2.2 l rfl rfl hσ1) (fgV tw_315 tw_316 tw_317 tw_68 tw_318) hd_X3_copyFrom ⟨rfl, rfl, Nat.le_of_ble_eq_true rfl, Nat.le_of_ble_eq_true rfl⟩ rfl hl.1 rfl (Nat.le_of_ble_eq_true rfl) (kd kX7_addVehicle_0 4 rfl)) (fun H locs hP hS => ?_)
  refine lv_aload_n C.1 C.2.1 (kd kX7_addVehicle_0 5 rfl) rfl (lv_at hl 0 rfl) ?_
  refine lv_aload_n C.1 C.2.1 (kd kX7_addVehicle_0 6 rfl) rfl (lv_at hl 0 rfl) ?_
  refine fl_get (j := 0) (v := .ref (Γ.1 1)) C hP rfl (Nat.le_of_ble_eq_true rfl) rfl inX7 (Nat.le_of_ble_eq_true rfl) tw_283 rfl (kd kX7_addVehicle_0 7 rfl) ?_
  refine lv_iload_n C.1 C.2.1 (kd kX7_addVehicle_0 8 rfl) rfl (lv_at hl 1 rfl) ?_
  refine lv_iload_n C.1 C.2.1 (kd kX7_addVehicle_0 9 rfl) rfl (lv_at hl 2 rfl) ?_
  refine lv_iload_n C.1 C.2.1 (kd kX7_addVehicle_0 10 rfl) rfl (lv_at hl 3 rfl) ?_
  obtain ⟨r2_, σ2, hσ2, hf⟩ := fcall_some hf
  refine fl_i hS (fl_runV (As := [.int x1, .int x2, .int x3]) (rest := [.ref (Γ.1 0)]) C hP rfl (Nat.le_of_ble_eq_true rfl) rfl (m_X3_enterVehicle C.2.2.2.2.2.2.2.2 l rfl hσ2) (fgV tw_385 tw_386 tw_387 tw_68 tw_388) hd_X3_enterVehicle ⟨rfl, rfl, Nat.le_of_ble_eq_true rfl, Nat.le_of_ble_eq_true rfl⟩ rfl hl.1 rfl (Nat.le_of_ble_eq_true rfl) (kd kX7_addVehicle_0 11 rfl)) (fun H locs hP hS => ?_)
  obtain ⟨r3_, σ3, hσ3, hf⟩ := fcall_some hf
  refine fl_i hS (fl_runV (As := [.int r2_]) (rest := []) C hP rfl (Nat.le_of_ble_eq_true rfl) rfl (m_X7_noted C.2.2.2.2.2.2.2.2 l  hσ3) (fgV tw_345 tw_347 tw_0 tw_67 tw_348) hd_X7_noted ⟨rfl, rfl, Nat.le_of_ble_eq_true rfl, Nat.le_of_ble_eq_true rfl⟩ rfl hl.1 rfl (Nat.le_of_ble_eq_true rfl) (kd kX7_addVehicle_0 12 rfl)) (fun H locs hP hS => ?_)
  exact fl_iret C hP hS hf (kd kX7_addVehicle_0 13 rfl)
def f_X7_addConnection (x1 : Int32) (x2 : Int32) (x3 : Int32) (x4 : Int32) (σ : fS) : Option (Int32 × fS) := fcallv (f_X3_copyFrom 16 1 σ) (fun σ1 => fcall (f_X3_enterConnection 1 x1 x2 x3 x4 σ1) (fun r2_ σ2 => fcall (f_X7_noted r2_ σ2) (fun r3_ σ3 => some (r3_, σ3))))
set_option maxRecDepth 100000 in
set_option maxHeartbeats 4000000 in
theorem m_X7_addConnection {Γ : fGm} (hI : fI Γ) (l : Launch) {x1 : Int32} {x2 : Int32} {x3 : Int32} {x4 : Int32} {σ : fS} {r : Int32} {σ' : fS} (hf : f_X7_addConnection x1 x2 x3 x4 σ = some (r, σ')) : Met l yX7_addConnection (.code yX7_addConnection cX7_addConnection 5 (some .int) :: lw_g) ({ frames := 5, cells := 0, slots := 0, locals := 124 } : Room) (fPre Γ [.ref (Γ.1 0), .int x1, .int x2, .int x3, .int x4] σ) (fQi Γ r σ') 0 0 (fAd Γ) := by
  refine fl_enter (own := RX7) hI (by decide +kernel) rfl (Nat.le_of_ble_eq_true rfl) ?_
  intro p e s m args below meth c ls C hl hP hS
  have hl : lv_has ls 5 [(0, .ref (Γ.1 0)), (1, .int x1), (2, .int x2), (3, .int x3), (4, .int x4)] := hl
  obtain ⟨H, hH⟩ : ∃ H, H = s.heap := ⟨_, rfl⟩
  obtain ⟨locs, hL⟩ : ∃ L : List Loc, L = [] := ⟨_, rfl⟩
  have hP : fH Γ σ H := by rw [hH]; exact hP
  have hS : va_S (fAd Γ) s.heap H locs := by rw [hH, hL]; exact hS
  suffices hw : W p l e ({ frames := 5, cells := 0, slots := 0, locals := 124 } : Room) s m args below meth c H locs 0 0 (MQ below (fQi Γ r σ') args s 0 0 (fAd Γ)) (F0 m 0 ls []) by rw [hH, hL] at hw; exact hw
  unfold f_X7_addConnection at hf
  refine lv_aload_n C.1 C.2.1 (kd kX7_addConnection_0 0 rfl) rfl (lv_at hl 0 rfl) ?_
  refine fl_get (j := 1) (v := .ref (Γ.1 16)) C hP rfl (Nat.le_of_ble_eq_true rfl) rfl inX7 (Nat.le_of_ble_eq_true rfl) tw_284 rfl (kd kX7_addConnection_0 1 rfl) ?_
  refine lv_aload_n C.1 C.2.1 (kd kX7_addConnection_0 2 rfl) rfl (lv_at hl 0 rfl) ?_
  refine fl_get (j := 0) (v := .ref (Γ.1 1)) C hP rfl (Nat.le_of_ble_eq_true rfl) rfl inX7 (Nat.le_of_ble_eq_true rfl) tw_283 rfl (kd kX7_addConnection_0 3 rfl) ?_
  obtain ⟨σ1, hσ1, hf⟩ := fcallv_some hf
  refine fl_v hS (fl_runV (As := [.ref (Γ.1 1)]) (rest := []) C hP rfl (Nat.le_of_ble_eq_true rfl) rfl (m_X3_copyFrom C.2.2.2.2.2.2.2.2 l rfl rfl hσ1) (fgV tw_315 tw_316 tw_317 tw_68 tw_318) hd_X3_copyFrom ⟨rfl, rfl, Nat.le_of_ble_eq_true rfl, Nat.le_of_ble_eq_true rfl⟩ rfl hl.1 rfl (Nat.le_of_ble_eq_true rfl) (kd kX7_addConnection_0 4 rfl)) (fun H locs hP hS => ?_)
  refine lv_aload_n C.1 C.2.1 (kd kX7_addConnection_0 5 rfl) rfl (lv_at hl 0 rfl) ?_
  refine lv_aload_n C.1 C.2.1 (kd kX7_addConnection_0 6 rfl) rfl (lv_at hl 0 rfl) ?_
  refine fl_get (j := 0) (v := .ref (Γ.1 1)) C hP rfl (Nat.le_of_ble_eq_true rfl) rfl inX7 (Nat.le_of_ble_eq_true rfl) tw_283 rfl (kd kX7_addConnection_0 7 rfl) ?_
  refine lv_iload_n C.1 C.2.1 (kd kX7_addConnection_0 8 rfl) rfl (lv_at hl 1 rfl) ?_
  refine lv_iload_n C.1 C.2.1 (kd kX7_addConnection_0 9 rfl) rfl (lv_at hl 2 rfl) ?_
  refine lv_iload_n C.1 C.2.1 (kd kX7_addConnection_0 10 rfl) rfl (lv_at hl 3 rfl) ?_
  refine lv_iload C.1 C.2.1 (kd kX7_addConnection_0 11 rfl) (lv_at hl 4 rfl) ?_
  obtain ⟨r2_, σ2, hσ2, hf⟩ := fcall_some hf
  refine fl_i hS (fl_runV (As := [.int x1, .int x2, .int x3, .int x4]) (rest := [.ref (Γ.1 0)]) C hP rfl (Nat.le_of_ble_eq_true rfl) rfl (m_X3_enterConnection C.2.2.2.2.2.2.2.2 l rfl hσ2) (fgV tw_393 tw_394 tw_395 tw_68 tw_396) hd_X3_enterConnection ⟨rfl, rfl, Nat.le_of_ble_eq_true rfl, Nat.le_of_ble_eq_true rfl⟩ rfl hl.1 rfl (Nat.le_of_ble_eq_true rfl) (kd kX7_addConnection_0 12 rfl)) (fun H locs hP hS => ?_)
  obtain ⟨r3_, σ3, hσ3, hf⟩ := fcall_some hf
  refine fl_i hS (fl_runV (As := [.int r2_]) (rest := []) C hP rfl (Nat.le_of_ble_eq_true rfl) rfl (m_X7_noted C.2.2.2.2.2.2.2.2 l  hσ3) (fgV tw_345 tw_347 tw_0 tw_67 tw_348) hd_X7_noted ⟨rfl, rfl, Nat.le_of_ble_eq_true rfl, Nat.le_of_ble_eq_true rfl⟩ rfl hl.1 rfl (Nat.le_of_ble_eq_true rfl) (kd kX7_addConnection_0 13 rfl)) (fun H locs hP hS => ?_)
  exact fl_iret C hP hS hf (kd kX7_addConnection_0 14 rfl)
def f_X7_removeCrossing (x1 : Int32) (σ : fS) : Option (Int32 × fS) := fcallv (f_X3_copyFrom 16 1 σ) (fun σ1 => fcall (f_X3_dropCrossing 1 x1 σ1) (fun r2_ σ2 => fcall (f_X7_noted r2_ σ2) (fun r3_ σ3 => some (r3_, σ3))))
set_option maxRecDepth 100000 in
set_option maxHeartbeats 4000000 in
theorem m_X7_removeCrossing {Γ : fGm} (hI : fI Γ) (l : Launch) {x1 : Int32} {σ : fS} {r : Int32} {σ' : fS} (hf : f_X7_removeCrossing x1 σ = some (r, σ')) : Met l yX7_removeCrossing (.code yX7_removeCrossing cX7_removeCrossing 2 (some .int) :: lw_g) ({ frames := 5, cells := 0, slots := 0, locals := 124 } : Room) (fPre Γ [.ref (Γ.1 0), .int x1] σ) (fQi Γ r σ') 0 0 (fAd Γ) := by
  refine fl_enter (own := RX7) hI (by decide +kernel) rfl (Nat.le_of_ble_eq_true rfl) ?_
  intro p e s m args below meth c ls C hl hP hS
  have hl : lv_has ls 2 [(0, .ref (Γ.1 0)), (1, .int x1)] := hl
  obtain ⟨H, hH⟩ : ∃ H, H = s.heap := ⟨_, rfl⟩
  obtain ⟨locs, hL⟩ : ∃ L : List Loc, L = [] := ⟨_, rfl⟩
  have hP : fH Γ σ H := by rw [hH]; exact hP
  have hS : va_S (fAd Γ) s.heap H locs := by rw [hH, hL]; exact hS
  suffices hw : W p l e ({ frames := 5, cells := 0, slots := 0, locals := 124 } : Room) s m args below meth c H locs 0 0 (MQ below (fQi Γ r σ') args s 0 0 (fAd Γ)) (F0 m 0 ls []) by rw [hH, hL] at hw; exact hw
  unfold f_X7_removeCrossing at hf
  refine lv_aload_n C.1 C.2.1 (kd kX7_removeCrossing_0 0 rfl) rfl (lv_at hl 0 rfl) ?_
  refine fl_get (j := 1) (v := .ref (Γ.1 16)) C hP rfl (Nat.le_of_ble_eq_true rfl) rfl inX7 (Nat.le_of_ble_eq_true rfl) tw_284 rfl (kd kX7_removeCrossing_0 1 rfl) ?_
  refine lv_aload_n C.1 C.2.1 (kd kX7_removeCrossing_0 2 rfl) rfl (lv_at hl 0 rfl) ?_
  refine fl_get (j := 0) (v := .ref (Γ.1 1)) C hP rfl (Nat.le_of_ble_eq_true rfl) rfl inX7 (Nat.le_of_ble_eq_true rfl) tw_283 rfl (kd kX7_removeCrossing_0 3 rfl) ?_
  obtain ⟨σ1, hσ1, hf⟩ := fcallv_some hf
  refine fl_v hS (fl_runV (As := [.ref (Γ.1 1)]) (rest := []) C hP rfl (Nat.le_of_ble_eq_true rfl) rfl (m_X3_copyFrom C.2.2.2.2.2.2.2.2 l rfl rfl hσ1) (fgV tw_315 tw_316 tw_317 tw_68 tw_318) hd_X3_copyFrom ⟨rfl, rfl, Nat.le_of_ble_eq_true rfl, Nat.le_of_ble_eq_true rfl⟩ rfl hl.1 rfl (Nat.le_of_ble_eq_true rfl) (kd kX7_removeCrossing_0 4 rfl)) (fun H locs hP hS => ?_)
  refine lv_aload_n C.1 C.2.1 (kd kX7_removeCrossing_0 5 rfl) rfl (lv_at hl 0 rfl) ?_
  refine lv_aload_n C.1 C.2.1 (kd kX7_removeCrossing_0 6 rfl) rfl (lv_at hl 0 rfl) ?_
  refine fl_get (j := 0) (v := .ref (Γ.1 1)) C hP rfl (Nat.le_of_ble_eq_true rfl) rfl inX7 (Nat.le_of_ble_eq_true rfl) tw_283 rfl (kd kX7_removeCrossing_0 7 rfl) ?_
  refine lv_iload_n C.1 C.2.1 (kd kX7_removeCrossing_0 8 rfl) rfl (lv_at hl 1 rfl) ?_
  obtain ⟨r2_, σ2, hσ2, hf⟩ := fcall_some hf
  refine fl_i hS (fl_runV (As := [.int x1]) (rest := [.ref (Γ.1 0)]) C hP rfl (Nat.le_of_ble_eq_true rfl) rfl (m_X3_dropCrossing C.2.2.2.2.2.2.2.2 l rfl hσ2) (fgV tw_401 tw_402 tw_403 tw_68 tw_404) hd_X3_dropCrossing ⟨rfl, rfl, Nat.le_of_ble_eq_true rfl, Nat.le_of_ble_eq_true rfl⟩ rfl hl.1 rfl (Nat.le_of_ble_eq_true rfl) (kd kX7_removeCrossing_0 9 rfl)) (fun H locs hP hS => ?_)
  obtain ⟨r3_, σ3, hσ3, hf⟩ := fcall_some hf
  refine fl_i hS (fl_runV (As := [.int r2_]) (rest := []) C hP rfl (Nat.le_of_ble_eq_true rfl) rfl (m_X7_noted C.2.2.2.2.2.2.2.2 l  hσ3) (fgV tw_345 tw_347 tw_0 tw_67 tw_348) hd_X7_noted ⟨rfl, rfl, Nat.le_of_ble_eq_true rfl, Nat.le_of_ble_eq_true rfl⟩ rfl hl.1 rfl (Nat.le_of_ble_eq_true rfl) (kd kX7_removeCrossing_0 10 rfl)) (fun H locs hP hS => ?_)
  exact fl_iret C hP hS hf (kd kX7_removeCrossing_0 11 rfl)
def f_X7_setBerth (x1 : Int32) (x2 : Int32) (x3 : Int32) (σ : fS) : Option (Int32 × fS) := fcallv (f_X3_copyFrom 16 1 σ) (fun σ1 => fcall (f_X3_changeBerth 1 x1 x2 x3 σ1) (fun r2_ σ2 => fcall (f_X7_noted r2_ σ2) (fun r3_ σ3 => some (r3_, σ3))))
set_option maxRecDepth 100000 in
set_option maxHeartbeats 4000000 in
theorem m_X7_setBerth {Γ : fGm} (hI : fI Γ) (l : Launch) {x1 : Int32} {x2 : Int32} {x3 : Int32} {σ : fS} {r : Int32} {σ' : fS} (hf : f_X7_setBerth x1 x2 x3 σ = some (r, σ')) : Met l yX7_setBerth (.code yX7_setBerth cX7_setBerth 4 (some .int) :: lw_g) ({ frames := 5, cells := 0, slots := 0, locals := 124 } : Room) (fPre Γ [.ref (Γ.1 0), .int x1, .int x2, .int x3] σ) (fQi Γ r σ') 0 0 (fAd Γ) := by
  refine fl_enter (own := RX7) hI (by decide +kernel) rfl (Nat.le_of_ble_eq_true rfl) ?_
  intro p e s m args below meth c ls C hl hP hS
  have hl : lv_has ls 4 [(0, .ref (Γ.1 0)), (1, .int x1), (2, .int x2), (3, .int x3)] := hl
  obtain ⟨H, hH⟩ : ∃ H, H = s.heap := ⟨_, rfl⟩
  obtain ⟨locs, hL⟩ : ∃ L : List Loc, L = [] := ⟨_, rfl⟩
  have hP : fH Γ σ H := by rw [hH]; exact hP
  have hS : va_S (fAd Γ) s.heap H locs := by rw [hH, hL]; exact hS
  suffices hw : W p l e ({ frames := 5, cells := 0, slots := 0, locals := 124 } : Room) s m args below meth c H locs 0 0 (MQ below (fQi Γ r σ') args s 0 0 (fAd Γ)) (F0 m 0 ls []) by rw [hH, hL] at hw; exact hw
  unfold f_X7_setBerth at hf
  refine lv_aload_n C.1 C.2.1 (kd kX7_setBerth_0 0 rfl) rfl (lv_at hl 0 rfl) ?_
  refine fl_get (j := 1) (v := .ref (Γ.1 16)) C hP rfl (Nat.le_of_ble_eq_true rfl) rfl inX7 (Nat.le_of_ble_eq_true rfl) tw_284 rfl (kd kX7_setBerth_0 1 rfl) ?_
  refine lv_aload_n C.1 C.2.1 (kd kX7_setBerth_0 2 rfl) rfl (lv_at hl 0 rfl) ?_
  refine fl_get (j := 0) (v := .ref (Γ.1 1)) C hP rfl (Nat.le_of_ble_eq_true rfl) rfl inX7 (Nat.le_of_ble_eq_true rfl) tw_283 rfl (kd kX7_setBerth_0 3 rfl) ?_
  obtain ⟨σ1, hσ1, hf⟩ := fcallv_some hf
  refine fl_v hS (fl_runV (As := [.ref (Γ.1 1)]) (rest := []) C hP rfl (Nat.le_of_ble_eq_true rfl) rfl (m_X3_copyFrom C.2.2.2.2.2.2.2.2 l rfl rfl hσ1) (fgV tw_315 tw_316 tw_317 tw_68 tw_318) hd_X3_copyFrom ⟨rfl, rfl, Nat.le_of_ble_eq_true rfl, Nat.le_of_ble_eq_true rfl⟩ rfl hl.1 rfl (Nat.le_of_ble_eq_true rfl) (kd kX7_setBerth_0 4 rfl)) (fun H locs hP hS => ?_)
  refine lv_aload_n C.1 C.2.1 (kd kX7_setBerth_0 5 rfl) rfl (lv_at hl 0 rfl) ?_
  refine lv_aload_n C.1 C.2.1 (kd kX7_setBerth_0 6 rfl) rfl (lv_at hl 0 rfl) ?_
  refine fl_get (j := 0) (v := .ref (Γ.1 1)) C hP rfl (Nat.le_of_ble_eq_true rfl) rfl inX7 (Nat.le_of_ble_eq_true rfl) tw_283 rfl (kd kX7_setBerth_0 7 rfl) ?_
  refine lv_iload_n C.1 C.2.1 (kd kX7_setBerth_0 8 rfl) rfl (lv_at hl 1 rfl) ?_
  refine lv_iload_n C.1 C.2.1 (kd kX7_setBerth_0 9 rfl) rfl (lv_at hl 2 rfl) ?_
  refine lv_iload_n C.1 C.2.1 (kd kX7_setBerth_0 10 rfl) rfl (lv_at hl 3 rfl) ?_
  obtain ⟨r2_, σ2, hσ2, hf⟩ := fcall_some hf
  refine fl_i hS (fl_runV (As := [.int x1, .int x2, .int x3]) (rest := [.ref (Γ.1 0)]) C hP rfl (Nat.le_of_ble_eq_true rfl) rfl (m_X3_changeBerth C.2.2.2.2.2.2.2.2 l rfl hσ2) (fgV tw_426 tw_427 tw_428 tw_68 tw_429) hd_X3_changeBerth ⟨rfl, rfl, Nat.le_of_ble_eq_true rfl, Nat.le_of_ble_eq_true rfl⟩ rfl hl.1 rfl (Nat.le_of_ble_eq_true rfl) (kd kX7_setBerth_0 11 rfl)) (fun H locs hP hS => ?_)
  obtain ⟨r3_, σ3, hσ3, hf⟩ := fcall_some hf
  refine fl_i hS (fl_runV (As := [.int r2_]) (rest := []) C hP rfl (Nat.le_of_ble_eq_true rfl) rfl (m_X7_noted C.2.2.2.2.2.2.2.2 l  hσ3) (fgV tw_345 tw_347 tw_0 tw_67 tw_348) hd_X7_noted ⟨rfl, rfl, Nat.le_of_ble_eq_true rfl, Nat.le_of_ble_eq_true rfl⟩ rfl hl.1 rfl (Nat.le_of_ble_eq_true rfl) (kd kX7_setBerth_0 12 rfl)) (fun H locs hP hS => ?_)
  exact fl_iret C hP hS hf (kd kX7_setBerth_0 13 rfl)
def f_X7_setTide (x1 : Int32) (x2 : Int32) (σ : fS) : Option (Int32 × fS) := fcallv (f_X3_copyFrom 16 1 σ) (fun σ1 => fcall (f_X3_changeTide 1 x1 x2 σ1) (fun r2_ σ2 => fcall (f_X7_noted r2_ σ2) (fun r3_ σ3 => some (r3_, σ3))))
set_option maxRecDepth 100000 in
set_option maxHeartbeats 4000000 in
theorem m_X7_setTide {Γ : fGm} (hI : fI Γ) (l : Launch) {x1 : Int32} {x2 : Int32} {σ : fS} {r : Int32} {σ' : fS} (hf : f_X7_setTide x1 x2 σ = some (r, σ')) : Met l yX7_setTide (.code yX7_setTide cX7_setTide 3 (some .int) :: lw_g) ({ frames := 5, cells := 0, slots := 0, locals := 124 } : Room) (fPre Γ [.ref (Γ.1 0), .int x1, .int x2] σ) (fQi Γ r σ') 0 0 (fAd Γ) := by
  refine fl_enter (own := RX7) hI (by decide +kernel) rfl (Nat.le_of_ble_eq_true rfl) ?_
  intro p e s m args below meth c ls C hl hP hS
  have hl : lv_has ls 3 [(0, .ref (Γ.1 0)), (1, .int x1), (2, .int x2)] := hl
  obtain ⟨H, hH⟩ : ∃ H, H = s.heap := ⟨_, rfl⟩
  obtain ⟨locs, hL⟩ : ∃ L : List Loc, L = [] := ⟨_, rfl⟩
  have hP : fH Γ σ H := by rw [hH]; exact hP
  have hS : va_S (fAd Γ) s.heap H locs := by rw [hH, hL]; exact hS
  suffices hw : W p l e ({ frames := 5, cells := 0, slots := 0, locals := 124 } : Room) s m args below meth c H locs 0 0 (MQ below (fQi Γ r σ') args s 0 0 (fAd Γ)) (F0 m 0 ls []) by rw [hH, hL] at hw; exact hw
  unfold f_X7_setTide at hf
  refine lv_aload_n C.1 C.2.1 (kd kX7_setTide_0 0 rfl) rfl (lv_at hl 0 rfl) ?_
  refine fl_get (j := 1) (v := .ref (Γ.1 16)) C hP rfl (Nat.le_of_ble_eq_true rfl) rfl inX7 (Nat.le_of_ble_eq_true rfl) tw_284 rfl (kd kX7_setTide_0 1 rfl) ?_
  refine lv_aload_n C.1 C.2.1 (kd kX7_setTide_0 2 rfl) rfl (lv_at hl 0 rfl) ?_
  refine fl_get (j := 0) (v := .ref (Γ.1 1)) C hP rfl (Nat.le_of_ble_eq_true rfl) rfl inX7 (Nat.le_of_ble_eq_true rfl) tw_283 rfl (kd kX7_setTide_0 3 rfl) ?_
  obtain ⟨σ1, hσ1, hf⟩ := fcallv_some hf
  refine fl_v hS (fl_runV (As := [.ref (Γ.1 1)]) (rest := []) C hP rfl (Nat.le_of_ble_eq_true rfl) rfl (m_X3_copyFrom C.2.2.2.2.2.2.2.2 l rfl rfl hσ1) (fgV tw_315 tw_316 tw_317 tw_68 tw_318) hd_X3_copyFrom ⟨rfl, rfl, Nat.le_of_ble_eq_true rfl, Nat.le_of_ble_eq_true rfl⟩ rfl hl.1 rfl (Nat.le_of_ble_eq_true rfl) (kd kX7_setTide_0 4 rfl)) (fun H locs hP hS => ?_)
  refine lv_aload_n C.1 C.2.1 (kd kX7_setTide_0 5 rfl) rfl (lv_at hl 0 rfl) ?_
  refine lv_aload_n C.1 C.2.1 (kd kX7_setTide_0 6 rfl) rfl (lv_at hl 0 rfl) ?_
  refine fl_get (j := 0) (v := .ref (Γ.1 1)) C hP rfl (Nat.le_of_ble_eq_true rfl) rfl inX7 (Nat.le_of_ble_eq_true rfl) tw_283 rfl (kd kX7_setTide_0 7 rfl) ?_
  refine lv_iload_n C.1 C.2.1 (kd kX7_setTide_0 8 rfl) rfl (lv_at hl 1 rfl) ?_
  refine lv_iload_n C.1 C.2.1 (kd kX7_setTide_0 9 rfl) rfl (lv_at hl 2 rfl) ?_
  obtain ⟨r2_, σ2, hσ2, hf⟩ := fcall_some hf
  refine fl_i hS (fl_runV (As := [.int x1, .int x2]) (rest := [.ref (Γ.1 0)]) C hP rfl (Nat.le_of_ble_eq_true rfl) rfl (m_X3_changeTide C.2.2.2.2.2.2.2.2 l rfl hσ2) (fgV tw_434 tw_435 tw_436 tw_68 tw_437) hd_X3_changeTide ⟨rfl, rfl, Nat.le_of_ble_eq_true rfl, Nat.le_of_ble_eq_true rfl⟩ rfl hl.1 rfl (Nat.le_of_ble_eq_true rfl) (kd kX7_setTide_0 10 rfl)) (fun H locs hP hS => ?_)
  obtain ⟨r3_, σ3, hσ3, hf⟩ := fcall_some hf
  refine fl_i hS (fl_runV (As := [.int r2_]) (rest := []) C hP rfl (Nat.le_of_ble_eq_true rfl) rfl (m_X7_noted C.2.2.2.2.2.2.2.2 l  hσ3) (fgV tw_345 tw_347 tw_0 tw_67 tw_348) hd_X7_noted ⟨rfl, rfl, Nat.le_of_ble_eq_true rfl, Nat.le_of_ble_eq_true rfl⟩ rfl hl.1 rfl (Nat.le_of_ble_eq_true rfl) (kd kX7_setTide_0 11 rfl)) (fun H locs hP hS => ?_)
  exact fl_iret C hP hS hf (kd kX7_setTide_0 12 rfl)
def f_X7_setWind (x1 : Int32) (x2 : Int32) (σ : fS) : Option (Int32 × fS) := fcallv (f_X3_copyFrom 16 1 σ) (fun σ1 => fcall (f_X3_changeWind 1 x1 x2 σ1) (fun r2_ σ2 => fcall (f_X7_noted r2_ σ2) (fun r3_ σ3 => some (r3_, σ3))))
set_option maxRecDepth 100000 in
set_option maxHeartbeats 4000000 in
theorem m_X7_setWind {Γ : fGm} (hI : fI Γ) (l : Launch) {x1 : Int32} {x2 : Int32} {σ : fS} {r : Int32} {σ' : fS} (hf : f_X7_setWind x1 x2 σ = some (r, σ')) : Met l yX7_setWind (.code yX7_setWind cX7_setWind 3 (some .int) :: lw_g) ({ frames := 5, cells := 0, slots := 0, locals := 124 } : Room) (fPre Γ [.ref (Γ.1 0), .int x1, .int x2] σ) (fQi Γ r σ') 0 0 (fAd Γ) := by
  refine fl_enter (own := RX7) hI (by decide +kernel) rfl (Nat.le_of_ble_eq_true rfl) ?_
  intro p e s m args below meth c ls C hl hP hS
  have hl : lv_has ls 3 [(0, .ref (Γ.1 0)), (1, .int x1), (2, .int x2)] := hl
  obtain ⟨H, hH⟩ : ∃ H, H = s.heap := ⟨_, rfl⟩
  obtain ⟨locs, hL⟩ : ∃ L : List Loc, L = [] := ⟨_, rfl⟩
  have hP : fH Γ σ H := by rw [hH]; exact hP
  have hS : va_S (fAd Γ) s.heap H locs := by rw [hH, hL]; exact hS
  suffices hw : W p l e ({ frames := 5, cells := 0, slots := 0, locals := 124 } : Room) s m args below meth c H locs 0 0 (MQ below (fQi Γ r σ') args s 0 0 (fAd Γ)) (F0 m 0 ls []) by rw [hH, hL] at hw; exact hw
  unfold f_X7_setWind at hf
  refine lv_aload_n C.1 C.2.1 (kd kX7_setWind_0 0 rfl) rfl (lv_at hl 0 rfl) ?_
  refine fl_get (j := 1) (v := .ref (Γ.1 16)) C hP rfl (Nat.le_of_ble_eq_true rfl) rfl inX7 (Nat.le_of_ble_eq_true rfl) tw_284 rfl (kd kX7_setWind_0 1 rfl) ?_
  refine lv_aload_n C.1 C.2.1 (kd kX7_setWind_0 2 rfl) rfl (lv_at hl 0 rfl) ?_
  refine fl_get (j := 0) (v := .ref (Γ.1 1)) C hP rfl (Nat.le_of_ble_eq_true rfl) rfl inX7 (Nat.le_of_ble_eq_true rfl) tw_283 rfl (kd kX7_setWind_0 3 rfl) ?_
  obtain ⟨σ1, hσ1, hf⟩ := fcallv_some hf
  refine fl_v hS (fl_runV (As := [.ref (Γ.1 1)]) (rest := []) C hP rfl (Nat.le_of_ble_eq_true rfl) rfl (m_X3_copyFrom C.2.2.2.2.2.2.2.2 l rfl rfl hσ1) (fgV tw_315 tw_316 tw_317 tw_68 tw_318) hd_X3_copyFrom ⟨rfl, rfl, Nat.le_of_ble_eq_true rfl, Nat.le_of_ble_eq_true rfl⟩ rfl hl.1 rfl (Nat.le_of_ble_eq_true rfl) (kd kX7_setWind_0 4 rfl)) (fun H locs hP hS => ?_)
  refine lv_aload_n C.1 C.2.1 (kd kX7_setWind_0 5 rfl) rfl (lv_at hl 0 rfl) ?_
  refine lv_aload_n C.1 C.2.1 (kd kX7_setWind_0 6 rfl) rfl (lv_at hl 0 rfl) ?_
  refine fl_get (j := 0) (v := .ref (Γ.1 1)) C hP rfl (Nat.le_of_ble_eq_true rfl) rfl inX7 (Nat.le_of_ble_eq_true rfl) tw_283 rfl (kd kX7_setWind_0 7 rfl) ?_
  refine lv_iload_n C.1 C.2.1 (kd kX7_setWind_0 8 rfl) rfl (lv_at hl 1 rfl) ?_
  refine lv_iload_n C.1 C.2.1 (kd kX7_setWind_0 9 rfl) rfl (lv_at hl 2 rfl) ?_
  obtain ⟨r2_, σ2, hσ2, hf⟩ := fcall_some hf
  refine fl_i hS (fl_runV (As := [.int x1, .int x2]) (rest := [.ref (Γ.1 0)]) C hP rfl (Nat.le_of_ble_eq_true rfl) rfl (m_X3_changeWind C.2.2.2.2.2.2.2.2 l rfl hσ2) (fgV tw_442 tw_443 tw_444 tw_68 tw_445) hd_X3_changeWind ⟨rfl, rfl, Nat.le_of_ble_eq_true rfl, Nat.le_of_ble_eq_true rfl⟩ rfl hl.1 rfl (Nat.le_of_ble_eq_true rfl) (kd kX7_setWind_0 10 rfl)) (fun H locs hP hS => ?_)
  obtain ⟨r3_, σ3, hσ3, hf⟩ := fcall_some hf
  refine fl_i hS (fl_runV (As := [.int r2_]) (rest := []) C hP rfl (Nat.le_of_ble_eq_true rfl) rfl (m_X7_noted C.2.2.2.2.2.2.2.2 l  hσ3) (fgV tw_345 tw_347 tw_0 tw_67 tw_348) hd_X7_noted ⟨rfl, rfl, Nat.le_of_ble_eq_true rfl, Nat.le_of_ble_eq_true rfl⟩ rfl hl.1 rfl (Nat.le_of_ble_eq_true rfl) (kd kX7_setWind_0 11 rfl)) (fun H locs hP hS => ?_)
  exact fl_iret C hP hS hf (kd kX7_setWind_0 12 rfl)
def f_X7_setMargin (x1 : Int32) (σ : fS) : Option (Int32 × fS) := fcallv (f_X3_copyFrom 16 1 σ) (fun σ1 => fcall (f_X3_changeMargin 1 x1 σ1) (fun r2_ σ2 => fcall (f_X7_noted r2_ σ2) (fun r3_ σ3 => some (r3_, σ3))))
set_option maxRecDepth 100000 in
set_option maxHeartbeats 4000000 in
theorem m_X7_setMargin {Γ : fGm} (hI : fI Γ) (l : Launch) {x1 : Int32} {σ : fS} {r : Int32} {σ' : fS} (hf : f_X7_setMargin x1 σ = some (r, σ')) : Met l yX7_setMargin (.code yX7_setMargin cX7_setMargin 2 (some .int) :: lw_g) ({ frames := 5, cells := 0, slots := 0, locals := 124 } : Room) (fPre Γ [.ref (Γ.1 0), .int x1] σ) (fQi Γ r σ') 0 0 (fAd Γ) := by
  refine fl_enter (own := RX7) hI (by decide +kernel) rfl (Nat.le_of_ble_eq_true rfl) ?_
  intro p e s m args below meth c ls C hl hP hS
  have hl : lv_has ls 2 [(0, .ref (Γ.1 0)), (1, .int x1)] := hl
  obtain ⟨H, hH⟩ : ∃ H, H = s.heap := ⟨_, rfl⟩
  obtain ⟨locs, hL⟩ : ∃ L : List Loc, L = [] := ⟨_, rfl⟩
  have hP : fH Γ σ H := by rw [hH]; exact hP
  have hS : va_S (fAd Γ) s.heap H locs := by rw [hH, hL]; exact hS
  suffices hw : W p l e ({ frames := 5, cells := 0, slots := 0, locals := 124 } : Room) s m args below meth c H locs 0 0 (MQ below (fQi Γ r σ') args s 0 0 (fAd Γ)) (F0 m 0 ls []) by rw [hH, hL] at hw; exact hw
  unfold f_X7_setMargin at hf
  refine lv_aload_n C.1 C.2.1 (kd kX7_setMargin_0 0 rfl) rfl (lv_at hl 0 rfl) ?_
  refine fl_get (j := 1) (v := .ref (Γ.1 16)) C hP rfl (Nat.le_of_ble_eq_true rfl) rfl inX7 (Nat.le_of_ble_eq_true rfl) tw_284 rfl (kd kX7_setMargin_0 1 rfl) ?_
  refine lv_aload_n C.1 C.2.1 (kd kX7_setMargin_0 2 rfl) rfl (lv_at hl 0 rfl) ?_
  refine fl_get (j := 0) (v := .ref (Γ.1 1)) C hP rfl (Nat.le_of_ble_eq_true rfl) rfl inX7 (Nat.le_of_ble_eq_true rfl) tw_283 rfl (kd kX7_setMargin_0 3 rfl) ?_
  obtain ⟨σ1, hσ1, hf⟩ := fcallv_some hf
  refine fl_v hS (fl_runV (As := [.ref (Γ.1 1)]) (rest := []) C hP rfl (Nat.le_of_ble_eq_true rfl) rfl (m_X3_copyFrom C.2.2.2.2.2.2.2.2 l rfl rfl hσ1) (fgV tw_315 tw_316 tw_317 tw_68 tw_318) hd_X3_copyFrom ⟨rfl, rfl, Nat.le_of_ble_eq_true rfl, Nat.le_of_ble_eq_true rfl⟩ rfl hl.1 rfl (Nat.le_of_ble_eq_true rfl) (kd kX7_setMargin_0 4 rfl)) (fun H locs hP hS => ?_)
  refine lv_aload_n C.1 C.2.1 (kd kX7_setMargin_0 5 rfl) rfl (lv_at hl 0 rfl) ?_
  refine lv_aload_n C.1 C.2.1 (kd kX7_setMargin_0 6 rfl) rfl (lv_at hl 0 rfl) ?_
  refine fl_get (j := 0) (v := .ref (Γ.1 1)) C hP rfl (Nat.le_of_ble_eq_true rfl) rfl inX7 (Nat.le_of_ble_eq_true rfl) tw_283 rfl (kd kX7_setMargin_0 7 rfl) ?_
  refine lv_iload_n C.1 C.2.1 (kd kX7_setMargin_0 8 rfl) rfl (lv_at hl 1 rfl) ?_
  obtain ⟨r2_, σ2, hσ2, hf⟩ := fcall_some hf
  refine fl_i hS (fl_runV (As := [.int x1]) (rest := [.ref (Γ.1 0)]) C hP rfl (Nat.le_of_ble_eq_true rfl) rfl (m_X3_changeMargin C.2.2.2.2.2.2.2.2 l rfl hσ2) (fgV tw_450 tw_451 tw_452 tw_68 tw_453) hd_X3_changeMargin ⟨rfl, rfl, Nat.le_of_ble_eq_true rfl, Nat.le_of_ble_eq_true rfl⟩ rfl hl.1 rfl (Nat.le_of_ble_eq_true rfl) (kd kX7_setMargin_0 9 rfl)) (fun H locs hP hS => ?_)
  obtain ⟨r3_, σ3, hσ3, hf⟩ := fcall_some hf
  refine fl_i hS (fl_runV (As := [.int r2_]) (rest := []) C hP rfl (Nat.le_of_ble_eq_true rfl) rfl (m_X7_noted C.2.2.2.2.2.2.2.2 l  hσ3) (fgV tw_345 tw_347 tw_0 tw_67 tw_348) hd_X7_noted ⟨rfl, rfl, Nat.le_of_ble_eq_true rfl, Nat.le_of_ble_eq_true rfl⟩ rfl hl.1 rfl (Nat.le_of_ble_eq_true rfl) (kd kX7_setMargin_0 10 rfl)) (fun H locs hP hS => ?_)
  exact fl_iret C hP hS hf (kd kX7_setMargin_0 11 rfl)
def f_X7_append (x1 : Int32) (σ : fS) : Option (Int32 × fS) := fcall (f_X6_take x1 σ) (fun r1_ σ1 => some (r1_, σ1))
set_option maxRecDepth 100000 in
set_option maxHeartbeats 4000000 in
theorem m_X7_append {Γ : fGm} (hI : fI Γ) (l : Launch) {x1 : Int32} {σ : fS} {r : Int32} {σ' : fS} (hf : f_X7_append x1 σ = some (r, σ')) : Met l yX7_append (.code yX7_append cX7_append 2 (some .int) :: lw_g) ({ frames := 2, cells := 0, slots := 0, locals := 46 } : Room) (fPre Γ [.ref (Γ.1 0), .int x1] σ) (fQi Γ r σ') 0 0 (fAd Γ) := by
  refine fl_enter (own := RX7) hI (by decide +kernel) rfl (Nat.le_of_ble_eq_true rfl) ?_
  intro p e s m args below meth c ls C hl hP hS
  have hl : lv_has ls 2 [(0, .ref (Γ.1 0)), (1, .int x1)] := hl
  obtain ⟨H, hH⟩ : ∃ H, H = s.heap := ⟨_, rfl⟩
  obtain ⟨locs, hL⟩ : ∃ L : List Loc, L = [] := ⟨_, rfl⟩
  have hP : fH Γ σ H := by rw [hH]; exact hP
  have hS : va_S (fAd Γ) s.heap H locs := by rw [hH, hL]; exact hS
  suffices hw : W p l e ({ frames := 2, cells := 0, slots := 0, locals := 46 } : Room) s m args below meth c H locs 0 0 (MQ below (fQi Γ r σ') args s 0 0 (fAd Γ)) (F0 m 0 ls []) by rw [hH, hL] at hw; exact hw
  unfold f_X7_append at hf
  refine lv_aload_n C.1 C.2.1 (kd kX7_append_0 0 rfl) rfl (lv_at hl 0 rfl) ?_
  refine fl_get (j := 6) (v := .ref (Γ.1 157)) C hP rfl (Nat.le_of_ble_eq_true rfl) rfl inX7 (Nat.le_of_ble_eq_true rfl) tw_289 rfl (kd kX7_append_0 1 rfl) ?_
  refine lv_iload_n C.1 C.2.1 (kd kX7_append_0 2 rfl) rfl (lv_at hl 1 rfl) ?_
  obtain ⟨r1_, σ1, hσ1, hf⟩ := fcall_some hf
  refine fl_i hS (fl_runV (As := [.int x1]) (rest := []) C hP rfl (Nat.le_of_ble_eq_true rfl) rfl (m_X6_take C.2.2.2.2.2.2.2.2 l  hσ1) (fgV tw_458 tw_459 tw_460 tw_73 tw_461) hd_X6_take ⟨rfl, rfl, Nat.le_of_ble_eq_true rfl, Nat.le_of_ble_eq_true rfl⟩ rfl hl.1 rfl (Nat.le_of_ble_eq_true rfl) (kd kX7_append_0 3 rfl)) (fun H locs hP hS => ?_)
  exact fl_iret C hP hS hf (kd kX7_append_0 4 rfl)
def f_X7_read_b41 (v1 : Int32) (σ : fS) : Option (Int32 × fS) := fcall (f_X7_noted v1 σ) (fun r1_ σ1 => some (r1_, σ1))
set_option maxRecDepth 100000 in
set_option maxHeartbeats 4000000 in
theorem w_X7_read_b41 {r : Int32} {σ' : fS}  (C : fC Γ p s m args meth c cX7_read (some .int) RX7 2) : ∀ (v1 : Int32) (σ : fS) (H : Heap) (locs : List Loc) (ls : Array Slot), f_X7_read_b41 v1 σ = some (r, σ') → fH Γ σ H → va_S (fAd Γ) s.heap H locs → lv_has ls 2 [(0, .ref (Γ.1 0)), (1, .int v1)] → W p l e ({ frames := 5, cells := 0, slots := 0, locals := 124 } : Room) s m args below meth c H locs 0 0 (MQ below (fQi Γ r σ') args s 0 0 (fAd Γ)) (F0 m 41 ls []) := by
  intro v1 σ H locs ls hf hP hS hl
  unfold f_X7_read_b41 at hf
  refine lv_aload_n C.1 C.2.1 (kd kX7_read_0 19 rfl) rfl (lv_at hl 0 rfl) ?_
  refine lv_iload_n C.1 C.2.1 (kd kX7_read_0 20 rfl) rfl (lv_at hl 1 rfl) ?_
  obtain ⟨r1_, σ1, hσ1, hf⟩ := fcall_some hf
  refine fl_i hS (fl_runV (As := [.int v1]) (rest := []) C hP rfl (Nat.le_of_ble_eq_true rfl) rfl (m_X7_noted C.2.2.2.2.2.2.2.2 l  hσ1) (fgV tw_345 tw_347 tw_0 tw_67 tw_348) hd_X7_noted ⟨rfl, rfl, Nat.le_of_ble_eq_true rfl, Nat.le_of_ble_eq_true rfl⟩ rfl hl.1 rfl (Nat.le_of_ble_eq_true rfl) (kd kX7_read_0 21 rfl)) (fun H locs hP hS => ?_)
  exact fl_iret C hP hS hf (kd kX7_read_0 22 rfl)
def f_X7_read (σ : fS) : Option (Int32 × fS) := fcallv (f_X3_copyFrom 16 1 σ) (fun σ1 => fcall (f_X6_makeEntries 1 σ1) (fun r2_ σ2 => (if r2_ = (-10005 : Int32) then fcallv (f_X3_copyFrom 1 16 σ2) (fun σ3 => f_X7_read_b41 (r2_) σ3) else f_X7_read_b41 (r2_) σ2)))
set_option maxRecDepth 100000 in
set_option maxHeartbeats 4000000 in
theorem m_X7_read {Γ : fGm} (hI : fI Γ) (l : Launch) {σ : fS} {r : Int32} {σ' : fS} (hf : f_X7_read  σ = some (r, σ')) : Met l yX7_read (.code yX7_read cX7_read 2 (some .int) :: lw_g) ({ frames := 5, cells := 0, slots := 0, locals := 124 } : Room) (fPre Γ [.ref (Γ.1 0)] σ) (fQi Γ r σ') 0 0 (fAd Γ) := by
  refine fl_enter (own := RX7) hI (by decide +kernel) rfl (Nat.le_of_ble_eq_true rfl) ?_
  intro p e s m args below meth c ls C hl hP hS
  have hl : lv_has ls 2 [(0, .ref (Γ.1 0))] := hl
  obtain ⟨H, hH⟩ : ∃ H, H = s.heap := ⟨_, rfl⟩
  obtain ⟨locs, hL⟩ : ∃ L : List Loc, L = [] := ⟨_, rfl⟩
  have hP : fH Γ σ H := by rw [hH]; exact hP
  have hS : va_S (fAd Γ) s.heap H locs := by rw [hH, hL]; exact hS
  suffices hw : W p l e ({ frames := 5, cells := 0, slots := 0, locals := 124 } : Room) s m args below meth c H locs 0 0 (MQ below (fQi Γ r σ') args s 0 0 (fAd Γ)) (F0 m 0 ls []) by rw [hH, hL] at hw; exact hw
  unfold f_X7_read at hf
  refine lv_aload_n C.1 C.2.1 (kd kX7_read_0 0 rfl) rfl (lv_at hl 0 rfl) ?_
  refine fl_get (j := 1) (v := .ref (Γ.1 16)) C hP rfl (Nat.le_of_ble_eq_true rfl) rfl inX7 (Nat.le_of_ble_eq_true rfl) tw_284 rfl (kd kX7_read_0 1 rfl) ?_
  refine lv_aload_n C.1 C.2.1 (kd kX7_read_0 2 rfl) rfl (lv_at hl 0 rfl) ?_
  refine fl_get (j := 0) (v := .ref (Γ.1 1)) C hP rfl (Nat.le_of_ble_eq_true rfl) rfl inX7 (Nat.le_of_ble_eq_true rfl) tw_283 rfl (kd kX7_read_0 3 rfl) ?_
  obtain ⟨σ1, hσ1, hf⟩ := fcallv_some hf
  refine fl_v hS (fl_runV (As := [.ref (Γ.1 1)]) (rest := []) C hP rfl (Nat.le_of_ble_eq_true rfl) rfl (m_X3_copyFrom C.2.2.2.2.2.2.2.2 l rfl rfl hσ1) (fgV tw_315 tw_316 tw_317 tw_68 tw_318) hd_X3_copyFrom ⟨rfl, rfl, Nat.le_of_ble_eq_true rfl, Nat.le_of_ble_eq_true rfl⟩ rfl hl.1 rfl (Nat.le_of_ble_eq_true rfl) (kd kX7_read_0 4 rfl)) (fun H locs hP hS => ?_)
  refine lv_aload_n C.1 C.2.1 (kd kX7_read_0 5 rfl) rfl (lv_at hl 0 rfl) ?_
  refine fl_get (j := 6) (v := .ref (Γ.1 157)) C hP rfl (Nat.le_of_ble_eq_true rfl) rfl inX7 (Nat.le_of_ble_eq_true rfl) tw_289 rfl (kd kX7_read_0 6 rfl) ?_
  refine lv_aload_n C.1 C.2.1 (kd kX7_read_0 7 rfl) rfl (lv_at hl 0 rfl) ?_
  refine fl_get (j := 0) (v := .ref (Γ.1 1)) C hP rfl (Nat.le_of_ble_eq_true rfl) rfl inX7 (Nat.le_of_ble_eq_true rfl) tw_283 rfl (kd kX7_read_0 8 rfl) ?_
  obtain ⟨r2_, σ2, hσ2, hf⟩ := fcall_some hf
  refine fl_i hS (fl_runV (As := [.ref (Γ.1 1)]) (rest := []) C hP rfl (Nat.le_of_ble_eq_true rfl) rfl (m_X6_makeEntries C.2.2.2.2.2.2.2.2 l rfl hσ2) (fgV tw_467 tw_468 tw_469 tw_73 tw_470) hd_X6_makeEntries ⟨rfl, rfl, Nat.le_of_ble_eq_true rfl, Nat.le_of_ble_eq_true rfl⟩ rfl hl.1 rfl (Nat.le_of_ble_eq_true rfl) (kd kX7_read_0 9 rfl)) (fun H locs hP hS => ?_)
  refine lv_istore_n (lv' := [(1, .int r2_), (0, .ref (Γ.1 0))]) C.1 C.2.1 (kd kX7_read_0 10 rfl) rfl hl (Nat.le_of_ble_eq_true rfl) rfl (fun ls hl => ?_)
  refine lv_iload_n C.1 C.2.1 (kd kX7_read_0 11 rfl) rfl (lv_at hl 0 rfl) ?_
  refine lv_sipush (v := (-10005 : Int32)) C.1 C.2.1 (kd kX7_read_0 12 rfl) (by decide) ?_
  refine lv_icmp_ne (tgt := 41) C.1 C.2.1 (kd kX7_read_0 13 rfl) (by decide) (fun q => ?_) (fun q => ?_)
  · have hf := fif_neg q hf
    exact w_X7_read_b41 C (r2_) σ2 H locs ls hf hP hS (lv_sub hl [1, 0] rfl)
  have hf := fif_pos q hf
  refine lv_aload_n C.1 C.2.1 (kd kX7_read_0 14 rfl) rfl (lv_at hl 1 rfl) ?_
  refine fl_get (j := 0) (v := .ref (Γ.1 1)) C hP rfl (Nat.le_of_ble_eq_true rfl) rfl inX7 (Nat.le_of_ble_eq_true rfl) tw_283 rfl (kd kX7_read_0 15 rfl) ?_
  refine lv_aload_n C.1 C.2.1 (kd kX7_read_0 16 rfl) rfl (lv_at hl 1 rfl) ?_
  refine fl_get (j := 1) (v := .ref (Γ.1 16)) C hP rfl (Nat.le_of_ble_eq_true rfl) rfl inX7 (Nat.le_of_ble_eq_true rfl) tw_284 rfl (kd kX7_read_0 17 rfl) ?_
  obtain ⟨σ3, hσ3, hf⟩ := fcallv_some hf
  refine fl_v hS (fl_runV (As := [.ref (Γ.1 16)]) (rest := []) C hP rfl (Nat.le_of_ble_eq_true rfl) rfl (m_X3_copyFrom C.2.2.2.2.2.2.2.2 l rfl rfl hσ3) (fgV tw_315 tw_316 tw_317 tw_68 tw_318) hd_X3_copyFrom ⟨rfl, rfl, Nat.le_of_ble_eq_true rfl, Nat.le_of_ble_eq_true rfl⟩ rfl hl.1 rfl (Nat.le_of_ble_eq_true rfl) (kd kX7_read_0 18 rfl)) (fun H locs hP hS => ?_)
  exact w_X7_read_b41 C (r2_) σ3 H locs ls hf hP hS (lv_sub hl [1, 0] rfl)
def f_X7_faultPosition (σ : fS) : Option (Int32 × fS) := some ((σ 157 1), σ)
set_option maxRecDepth 100000 in
set_option maxHeartbeats 4000000 in
theorem m_X7_faultPosition {Γ : fGm} (hI : fI Γ) (l : Launch) {σ : fS} {r : Int32} {σ' : fS} (hf : f_X7_faultPosition  σ = some (r, σ')) : Met l yX7_faultPosition (.code yX7_faultPosition cX7_faultPosition 1 (some .int) :: lw_g) ({ frames := 0, cells := 0, slots := 0, locals := 0 } : Room) (fPre Γ [.ref (Γ.1 0)] σ) (fQi Γ r σ') 0 0 (fAd Γ) := by
  refine fl_enter (own := RX7) hI (by decide +kernel) rfl (Nat.le_of_ble_eq_true rfl) ?_
  intro p e s m args below meth c ls C hl hP hS
  have hl : lv_has ls 1 [(0, .ref (Γ.1 0))] := hl
  obtain ⟨H, hH⟩ : ∃ H, H = s.heap := ⟨_, rfl⟩
  obtain ⟨locs, hL⟩ : ∃ L : List Loc, L = [] := ⟨_, rfl⟩
  have hP : fH Γ σ H := by rw [hH]; exact hP
  have hS : va_S (fAd Γ) s.heap H locs := by rw [hH, hL]; exact hS
  suffices hw : W p l e ({ frames := 0, cells := 0, slots := 0, locals := 0 } : Room) s m args below meth c H locs 0 0 (MQ below (fQi Γ r σ') args s 0 0 (fAd Γ)) (F0 m 0 ls []) by rw [hH, hL] at hw; exact hw
  unfold f_X7_faultPosition at hf
  refine lv_aload_n C.1 C.2.1 (kd kX7_faultPosition_0 0 rfl) rfl (lv_at hl 0 rfl) ?_
  refine fl_get (j := 6) (v := .ref (Γ.1 157)) C hP rfl (Nat.le_of_ble_eq_true rfl) rfl inX7 (Nat.le_of_ble_eq_true rfl) tw_289 rfl (kd kX7_faultPosition_0 1 rfl) ?_
  refine fl_get (j := 1) (v := .int (σ 157 1)) C hP rfl (Nat.le_of_ble_eq_true rfl) rfl inX6 (Nat.le_of_ble_eq_true rfl) tw_251 rfl (kd kX7_faultPosition_0 2 rfl) ?_
  exact fl_iret C hP hS hf (kd kX7_faultPosition_0 3 rfl)
def f_X7_undo (σ : fS) : Option (Int32 × fS) := fcall (f_X1_takeBack 1 σ) (fun r1_ σ1 => some (r1_, σ1))
set_option maxRecDepth 100000 in
set_option maxHeartbeats 4000000 in
theorem m_X7_undo {Γ : fGm} (hI : fI Γ) (l : Launch) {σ : fS} {r : Int32} {σ' : fS} (hf : f_X7_undo  σ = some (r, σ')) : Met l yX7_undo (.code yX7_undo cX7_undo 1 (some .int) :: lw_g) ({ frames := 4, cells := 0, slots := 0, locals := 103 } : Room) (fPre Γ [.ref (Γ.1 0)] σ) (fQi Γ r σ') 0 0 (fAd Γ) := by
  refine fl_enter (own := RX7) hI (by decide +kernel) rfl (Nat.le_of_ble_eq_true rfl) ?_
  intro p e s m args below meth c ls C hl hP hS
  have hl : lv_has ls 1 [(0, .ref (Γ.1 0))] := hl
  obtain ⟨H, hH⟩ : ∃ H, H = s.heap := ⟨_, rfl⟩
  obtain ⟨locs, hL⟩ : ∃ L : List Loc, L = [] := ⟨_, rfl⟩
  have hP : fH Γ σ H := by rw [hH]; exact hP
  have hS : va_S (fAd Γ) s.heap H locs := by rw [hH, hL]; exact hS
  suffices hw : W p l e ({ frames := 4, cells := 0, slots := 0, locals := 103 } : Room) s m args below meth c H locs 0 0 (MQ below (fQi Γ r σ') args s 0 0 (fAd Γ)) (F0 m 0 ls []) by rw [hH, hL] at hw; exact hw
  unfold f_X7_undo at hf
  refine lv_aload_n C.1 C.2.1 (kd kX7_undo_0 0 rfl) rfl (lv_at hl 0 rfl) ?_
  refine fl_get (j := 3) (v := .ref (Γ.1 46)) C hP rfl (Nat.le_of_ble_eq_true rfl) rfl inX7 (Nat.le_of_ble_eq_true rfl) tw_286 rfl (kd kX7_undo_0 1 rfl) ?_
  refine lv_aload_n C.1 C.2.1 (kd kX7_undo_0 2 rfl) rfl (lv_at hl 0 rfl) ?_
  refine fl_get (j := 0) (v := .ref (Γ.1 1)) C hP rfl (Nat.le_of_ble_eq_true rfl) rfl inX7 (Nat.le_of_ble_eq_true rfl) tw_283 rfl (kd kX7_undo_0 3 rfl) ?_
  obtain ⟨r1_, σ1, hσ1, hf⟩ := fcall_some hf
  refine fl_i hS (fl_runV (As := [.ref (Γ.1 1)]) (rest := []) C hP rfl (Nat.le_of_ble_eq_true rfl) rfl (m_X1_takeBack C.2.2.2.2.2.2.2.2 l rfl hσ1) (fgV tw_519 tw_520 tw_521 tw_70 tw_522) hd_X1_takeBack ⟨rfl, rfl, Nat.le_of_ble_eq_true rfl, Nat.le_of_ble_eq_true rfl⟩ rfl hl.1 rfl (Nat.le_of_ble_eq_true rfl) (kd kX7_undo_0 4 rfl)) (fun H locs hP hS => ?_)
  exact fl_iret C hP hS hf (kd kX7_undo_0 5 rfl)
def f_X7_count (x1 : Int32) (σ : fS) : Option (Int32 × fS) := (if x1 = (0 : Int32) then fcall (f_X5_size 2 4 4 σ) (fun r1_ σ1 => some (r1_, σ1)) else if x1 = (1 : Int32) then fcall (f_X5_size 4 3 2 σ) (fun r2_ σ2 => some (r2_, σ2)) else if x1 = (2 : Int32) then fcall (f_X5_size 6 12 4 σ) (fun r3_ σ3 => some (r3_, σ3)) else if x1 = (3 : Int32) then fcall (f_X5_size 8 24 3 σ) (fun r4_ σ4 => some (r4_, σ4)) else if x1 = (4 : Int32) then fcall (f_X5_size 10 8 4 σ) (fun r5_ σ5 => some (r5_, σ5)) else if x1 = (5 : Int32) then some ((σ 157 0), σ) else if x1 = (6 : Int32) then some ((σ 1 7), σ) else some ((-10002 : Int32), σ))
set_option maxRecDepth 100000 in
set_option maxHeartbeats 4000000 in
theorem m_X7_count {Γ : fGm} (hI : fI Γ) (l : Launch) {x1 : Int32} {σ : fS} {r : Int32} {σ' : fS} (hf : f_X7_count x1 σ = some (r, σ')) : Met l yX7_count (.code yX7_count cX7_count 2 (some .int) :: lw_g) ({ frames := 1, cells := 0, slots := 0, locals := 20 } : Room) (fPre Γ [.ref (Γ.1 0), .int x1] σ) (fQi Γ r σ') 0 0 (fAd Γ) := by
  refine fl_enter (own := RX7) hI (by decide +kernel) rfl (Nat.le_of_ble_eq_true rfl) ?_
  intro p e s m args below meth c ls C hl hP hS
  have hl : lv_has ls 2 [(0, .ref (Γ.1 0)), (1, .int x1)] := hl
  obtain ⟨H, hH⟩ : ∃ H, H = s.heap := ⟨_, rfl⟩
  obtain ⟨locs, hL⟩ : ∃ L : List Loc, L = [] := ⟨_, rfl⟩
  have hP : fH Γ σ H := by rw [hH]; exact hP
  have hS : va_S (fAd Γ) s.heap H locs := by rw [hH, hL]; exact hS
  suffices hw : W p l e ({ frames := 1, cells := 0, slots := 0, locals := 20 } : Room) s m args below meth c H locs 0 0 (MQ below (fQi Γ r σ') args s 0 0 (fAd Γ)) (F0 m 0 ls []) by rw [hH, hL] at hw; exact hw
  unfold f_X7_count at hf
  refine lv_iload_n C.1 C.2.1 (kd kX7_count_0 0 rfl) rfl (lv_at hl 1 rfl) ?_
  by_cases q0 : x1 = (0 : Int32)
  · have hf := fif_pos q0 hf
    refine lv_tableIn (tgt := 44) C.1 C.2.1 (kd kX7_count_0 1 rfl) (by rw [q0] <;> decide) (by rw [q0] <;> decide) (by rw [q0] <;> rfl) (by decide) ?_
    refine lv_aload_n C.1 C.2.1 (kd kX7_count_0 2 rfl) rfl (lv_at hl 0 rfl) ?_
    refine fl_get (j := 0) (v := .ref (Γ.1 1)) C hP rfl (Nat.le_of_ble_eq_true rfl) rfl inX7 (Nat.le_of_ble_eq_true rfl) tw_283 rfl (kd kX7_count_0 3 rfl) ?_
    refine fl_get (j := 0) (v := .ref (Γ.1 2)) C hP rfl (Nat.le_of_ble_eq_true rfl) rfl inX3 (Nat.le_of_ble_eq_true rfl) tw_114 rfl (kd kX7_count_0 4 rfl) ?_
    obtain ⟨r1_, σ1, hσ1, hf⟩ := fcall_some hf
    refine fl_i hS (fl_runV (As := []) (rest := []) C hP rfl (Nat.le_of_ble_eq_true rfl) rfl (m_X5_size C.2.2.2.2.2.2.2.2 l rfl hσ1) (fgV tw_527 tw_414 tw_415 tw_69 tw_416) hd_X5_size ⟨rfl, rfl, Nat.le_of_ble_eq_true rfl, Nat.le_of_ble_eq_true rfl⟩ rfl hl.1 rfl (Nat.le_of_ble_eq_true rfl) (kd kX7_count_0 5 rfl)) (fun H locs hP hS => ?_)
    exact fl_iret C hP hS hf (kd kX7_count_0 6 rfl)
  have hf := fif_neg q0 hf
  have z0 : ¬ x1.toInt = 0 := fi_ne q0 (by decide)
  by_cases q1 : x1 = (1 : Int32)
  · have hf := fif_pos q1 hf
    refine lv_tableIn (tgt := 55) C.1 C.2.1 (kd kX7_count_0 1 rfl) (by rw [q1] <;> decide) (by rw [q1] <;> decide) (by rw [q1] <;> rfl) (by decide) ?_
    refine lv_aload_n C.1 C.2.1 (kd kX7_count_0 7 rfl) rfl (lv_at hl 0 rfl) ?_
    refine fl_get (j := 0) (v := .ref (Γ.1 1)) C hP rfl (Nat.le_of_ble_eq_true rfl) rfl inX7 (Nat.le_of_ble_eq_true rfl) tw_283 rfl (kd kX7_count_0 8 rfl) ?_
    refine fl_get (j := 1) (v := .ref (Γ.1 4)) C hP rfl (Nat.le_of_ble_eq_true rfl) rfl inX3 (Nat.le_of_ble_eq_true rfl) tw_116 rfl (kd kX7_count_0 9 rfl) ?_
    obtain ⟨r2_, σ2, hσ2, hf⟩ := fcall_some hf
    refine fl_i hS (fl_runV (As := []) (rest := []) C hP rfl (Nat.le_of_ble_eq_true rfl) rfl (m_X5_size C.2.2.2.2.2.2.2.2 l rfl hσ2) (fgV tw_527 tw_414 tw_415 tw_69 tw_416) hd_X5_size ⟨rfl, rfl, Nat.le_of_ble_eq_true rfl, Nat.le_of_ble_eq_true rfl⟩ rfl hl.1 rfl (Nat.le_of_ble_eq_true rfl) (kd kX7_count_0 10 rfl)) (fun H locs hP hS => ?_)
    exact fl_iret C hP hS hf (kd kX7_count_0 11 rfl)
  have hf := fif_neg q1 hf
  have z1 : ¬ x1.toInt = 1 := fi_ne q1 (by decide)
  by_cases q2 : x1 = (2 : Int32)
  · have hf := fif_pos q2 hf
    refine lv_tableIn (tgt := 66) C.1 C.2.1 (kd kX7_count_0 1 rfl) (by rw [q2] <;> decide) (by rw [q2] <;> decide) (by rw [q2] <;> rfl) (by decide) ?_
    refine lv_aload_n C.1 C.2.1 (kd kX7_count_0 12 rfl) rfl (lv_at hl 0 rfl) ?_
    refine fl_get (j := 0) (v := .ref (Γ.1 1)) C hP rfl (Nat.le_of_ble_eq_true rfl) rfl inX7 (Nat.le_of_ble_eq_true rfl) tw_283 rfl (kd kX7_count_0 13 rfl) ?_
    refine fl_get (j := 2) (v := .ref (Γ.1 6)) C hP rfl (Nat.le_of_ble_eq_true rfl) rfl inX3 (Nat.le_of_ble_eq_true rfl) tw_120 rfl (kd kX7_count_0 14 rfl) ?_
    obtain ⟨r3_, σ3, hσ3, hf⟩ := fcall_some hf
    refine fl_i hS (fl_runV (As := []) (rest := []) C hP rfl (Nat.le_of_ble_eq_true rfl) rfl (m_X5_size C.2.2.2.2.2.2.2.2 l rfl hσ3) (fgV tw_527 tw_414 tw_415 tw_69 tw_416) hd_X5_size ⟨rfl, rfl, Nat.le_of_ble_eq_true rfl, Nat.le_of_ble_eq_true rfl⟩ rfl hl.1 rfl (Nat.le_of_ble_eq_true rfl) (kd kX7_count_0 15 rfl)) (fun H locs hP hS => ?_)
    exact fl_iret C hP hS hf (kd kX7_count_0 16 rfl)
  have hf := fif_neg q2 hf
  have z2 : ¬ x1.toInt = 2 := fi_ne q2 (by decide)
  by_cases q3 : x1 = (3 : Int32)
  · have hf := fif_pos q3 hf
    refine lv_tableIn (tgt := 77) C.1 C.2.1 (kd kX7_count_0 1 rfl) (by rw [q3] <;> decide) (by rw [q3] <;> decide) (by rw [q3] <;> rfl) (by decide) ?_
    refine lv_aload_n C.1 C.2.1 (kd kX7_count_0 17 rfl) rfl (lv_at hl 0 rfl) ?_
    refine fl_get (j := 0) (v := .ref (Γ.1 1)) C hP rfl (Nat.le_of_ble_eq_true rfl) rfl inX7 (Nat.le_of_ble_eq_true rfl) tw_283 rfl (kd kX7_count_0 18 rfl) ?_
    refine fl_get (j := 3) (v := .ref (Γ.1 8)) C hP rfl (Nat.le_of_ble_eq_true rfl) rfl inX3 (Nat.le_of_ble_eq_true rfl) tw_123 rfl (kd kX7_count_0 19 rfl) ?_
    obtain ⟨r4_, σ4, hσ4, hf⟩ := fcall_some hf
    refine fl_i hS (fl_runV (As := []) (rest := []) C hP rfl (Nat.le_of_ble_eq_true rfl) rfl (m_X5_size C.2.2.2.2.2.2.2.2 l rfl hσ4) (fgV tw_527 tw_414 tw_415 tw_69 tw_416) hd_X5_size ⟨rfl, rfl, Nat.le_of_ble_eq_true rfl, Nat.le_of_ble_eq_true rfl⟩ rfl hl.1 rfl (Nat.le_of_ble_eq_true rfl) (kd kX7_count_0 20 rfl)) (fun H locs hP hS => ?_)
    exact fl_iret C hP hS hf (kd kX7_count_0 21 rfl)
  have hf := fif_neg q3 hf
  have z3 : ¬ x1.toInt = 3 := fi_ne q3 (by decide)
  by_cases q4 : x1 = (4 : Int32)
  · have hf := fif_pos q4 hf
    refine lv_tableIn (tgt := 88) C.1 C.2.1 (kd kX7_count_0 1 rfl) (by rw [q4] <;> decide) (by rw [q4] <;> decide) (by rw [q4] <;> rfl) (by decide) ?_
    refine lv_aload_n C.1 C.2.1 (kd kX7_count_0 22 rfl) rfl (lv_at hl 0 rfl) ?_
    refine fl_get (j := 0) (v := .ref (Γ.1 1)) C hP rfl (Nat.le_of_ble_eq_true rfl) rfl inX7 (Nat.le_of_ble_eq_true rfl) tw_283 rfl (kd kX7_count_0 23 rfl) ?_
    refine fl_get (j := 4) (v := .ref (Γ.1 10)) C hP rfl (Nat.le_of_ble_eq_true rfl) rfl inX3 (Nat.le_of_ble_eq_true rfl) tw_126 rfl (kd kX7_count_0 24 rfl) ?_
    obtain ⟨r5_, σ5, hσ5, hf⟩ := fcall_some hf
    refine fl_i hS (fl_runV (As := []) (rest := []) C hP rfl (Nat.le_of_ble_eq_true rfl) rfl (m_X5_size C.2.2.2.2.2.2.2.2 l rfl hσ5) (fgV tw_527 tw_414 tw_415 tw_69 tw_416) hd_X5_size ⟨rfl, rfl, Nat.le_of_ble_eq_true rfl, Nat.le_of_ble_eq_true rfl⟩ rfl hl.1 rfl (Nat.le_of_ble_eq_true rfl) (kd kX7_count_0 25 rfl)) (fun H locs hP hS => ?_)
    exact fl_iret C hP hS hf (kd kX7_count_0 26 rfl)
  have hf := fif_neg q4 hf
  have z4 : ¬ x1.toInt = 4 := fi_ne q4 (by decide)
  by_cases q5 : x1 = (5 : Int32)
  · have hf := fif_pos q5 hf
    refine lv_tableIn (tgt := 99) C.1 C.2.1 (kd kX7_count_0 1 rfl) (by rw [q5] <;> decide) (by rw [q5] <;> decide) (by rw [q5] <;> rfl) (by decide) ?_
    refine lv_aload_n C.1 C.2.1 (kd kX7_count_0 27 rfl) rfl (lv_at hl 0 rfl) ?_
    refine fl_get (j := 6) (v := .ref (Γ.1 157)) C hP rfl (Nat.le_of_ble_eq_true rfl) rfl inX7 (Nat.le_of_ble_eq_true rfl) tw_289 rfl (kd kX7_count_0 28 rfl) ?_
    refine fl_get (j := 0) (v := .int (σ 157 0)) C hP rfl (Nat.le_of_ble_eq_true rfl) rfl inX6 (Nat.le_of_ble_eq_true rfl) tw_249 rfl (kd kX7_count_0 29 rfl) ?_
    exact fl_iret C hP hS hf (kd kX7_count_0 30 rfl)
  have hf := fif_neg q5 hf
  have z5 : ¬ x1.toInt = 5 := fi_ne q5 (by decide)
  by_cases q6 : x1 = (6 : Int32)
  · have hf := fif_pos q6 hf
    refine lv_tableIn (tgt := 107) C.1 C.2.1 (kd kX7_count_0 1 rfl) (by rw [q6] <;> decide) (by rw [q6] <;> decide) (by rw [q6] <;> rfl) (by decide) ?_
    refine lv_aload_n C.1 C.2.1 (kd kX7_count_0 31 rfl) rfl (lv_at hl 0 rfl) ?_
    refine fl_get (j := 0) (v := .ref (Γ.1 1)) C hP rfl (Nat.le_of_ble_eq_true rfl) rfl inX7 (Nat.le_of_ble_eq_true rfl) tw_283 rfl (kd kX7_count_0 32 rfl) ?_
    refine fl_get (j := 7) (v := .int (σ 1 7)) C hP rfl (Nat.le_of_ble_eq_true rfl) rfl inX3 (Nat.le_of_ble_eq_true rfl) tw_132 rfl (kd kX7_count_0 33 rfl) ?_
    exact fl_iret C hP hS hf (kd kX7_count_0 34 rfl)
  have hf := fif_neg q6 hf
  have z6 : ¬ x1.toInt = 6 := fi_ne q6 (by decide)
  refine lv_tableOut (tgt := 115) C.1 C.2.1 (kd kX7_count_0 1 rfl) (by omega) (by decide) ?_
  refine lv_sipush (v := (-10002 : Int32)) C.1 C.2.1 (kd kX7_count_0 35 rfl) (by decide) ?_
  exact fl_iret C hP hS hf (kd kX7_count_0 36 rfl)
def f_X7_ship (x1 : Int32) (x2 : Int32) (σ : fS) : Option (Int32 × fS) := fcall (f_X5_has 2 4 4 x1 σ) (fun r1_ σ1 => (if r1_ = 0 then some ((-10001 : Int32), σ1) else fcall (f_X7_isOutside x2 (0 : Int32) (4 : Int32) σ1) (fun r2_ σ2 => (if r2_ = 0 then (if (4 : Int32) ≤ x2 then fcallv (f_X0_make 1 σ2) (fun σ3 => fcall (f_X0_countSailing 1 (0 : Int32) x1 σ3) (fun r4_ σ4 => some (r4_, σ4))) else fcall (f_X5_at 2 4 4 x1 x2 σ2) (fun r5_ σ5 => some (r5_, σ5))) else some ((-10002 : Int32), σ2)))))
set_option maxRecDepth 100000 in
set_option maxHeartbeats 4000000 in
theorem m_X7_ship {Γ : fGm} (hI : fI Γ) (l : Launch) {x1 : Int32} {x2 : Int32} {σ : fS} {r : Int32} {σ' : fS} (hf : f_X7_ship x1 x2 σ = some (r, σ')) : Met l yX7_ship (.code yX7_ship cX7_ship 3 (some .int) :: lw_g) ({ frames := 7, cells := 0, slots := 0, locals := 165 } : Room) (fPre Γ [.ref (Γ.1 0), .int x1, .int x2] σ) (fQi Γ r σ') 0 0 (fAd Γ) := by
  refine fl_enter (own := RX7) hI (by decide +kernel) rfl (Nat.le_of_ble_eq_true rfl) ?_
  intro p e s m args below meth c ls C hl hP hS
  have hl : lv_has ls 3 [(0, .ref (Γ.1 0)), (1, .int x1), (2, .int x2)] := hl
  obtain ⟨H, hH⟩ : ∃ H, H = s.heap := ⟨_, rfl⟩
  obtain ⟨locs, hL⟩ : ∃ L : List Loc, L = [] := ⟨_, rfl⟩
  have hP : fH Γ σ H := by rw [hH]; exact hP
  have hS : va_S (fAd Γ) s.heap H locs := by rw [hH, hL]; exact hS
  suffices hw : W p l e ({ frames := 7, cells := 0, slots := 0, locals := 165 } : Room) s m args below meth c H locs 0 0 (MQ below (fQi Γ r σ') args s 0 0 (fAd Γ)) (F0 m 0 ls []) by rw [hH, hL] at hw; exact hw
  unfold f_X7_ship at hf
  refine lv_aload_n C.1 C.2.1 (kd kX7_ship_0 0 rfl) rfl (lv_at hl 0 rfl) ?_
  refine fl_get (j := 0) (v := .ref (Γ.1 1)) C hP rfl (Nat.le_of_ble_eq_true rfl) rfl inX7 (Nat.le_of_ble_eq_true rfl) tw_283 rfl (kd kX7_ship_0 1 rfl) ?_
  refine fl_get (j := 0) (v := .ref (Γ.1 2)) C hP rfl (Nat.le_of_ble_eq_true rfl) rfl inX3 (Nat.le_of_ble_eq_true rfl) tw_114 rfl (kd kX7_ship_0 2 rfl) ?_
  refine lv_iload_n C.1 C.2.1 (kd kX7_ship_0 3 rfl) rfl (lv_at hl 1 rfl) ?_
  obtain ⟨r1_, σ1, hσ1, hf⟩ := fcall_some hf
  refine fl_i hS (fl_runV (As := [.int x1]) (rest := []) C hP rfl (Nat.le_of_ble_eq_true rfl) rfl (m_X5_has C.2.2.2.2.2.2.2.2 l rfl hσ1) (fgV tw_532 tw_378 tw_379 tw_69 tw_380) hd_X5_has ⟨rfl, rfl, Nat.le_of_ble_eq_true rfl, Nat.le_of_ble_eq_true rfl⟩ rfl hl.1 rfl (Nat.le_of_ble_eq_true rfl) (kd kX7_ship_0 4 rfl)) (fun H locs hP hS => ?_)
  refine lv_if_ne (tgt := 18) C.1 C.2.1 (kd kX7_ship_0 5 rfl) (by decide) (fun q => ?_) (fun q => ?_)
  · have hf := fif_neg q hf
    refine lv_iload_n C.1 C.2.1 (kd kX7_ship_0 8 rfl) rfl (lv_at hl 2 rfl) ?_
    refine lv_iconst (v := (0 : Int32)) C.1 C.2.1 (kd kX7_ship_0 9 rfl) (by decide) ?_
    refine lv_iconst (v := (4 : Int32)) C.1 C.2.1 (kd kX7_ship_0 10 rfl) (by decide) ?_
    obtain ⟨r2_, σ2, hσ2, hf⟩ := fcall_some hf
    refine fl_i hS (fl_runS (As := [.int x2, .int (0 : Int32), .int (4 : Int32)]) (rest := []) C hP (m_X7_isOutside C.2.2.2.2.2.2.2.2 l  hσ2) (fgS tw_533 tw_334 tw_67 tw_335) hs_X7_isOutside ⟨rfl, rfl, Nat.le_of_ble_eq_true rfl, Nat.le_of_ble_eq_true rfl⟩ rfl hl.1 rfl (Nat.le_of_ble_eq_true rfl) (kd kX7_ship_0 11 rfl)) (fun H locs hP hS => ?_)
    refine lv_if_eq (tgt := 31) C.1 C.2.1 (kd kX7_ship_0 12 rfl) (by decide) (fun q => ?_) (fun q => ?_)
    · have hf := fif_pos q hf
      refine lv_iload_n C.1 C.2.1 (kd kX7_ship_0 15 rfl) rfl (lv_at hl 2 rfl) ?_
      refine lv_iconst (v := (4 : Int32)) C.1 C.2.1 (kd kX7_ship_0 16 rfl) (by decide) ?_
      refine lv_icmp_ge (tgt := 49) C.1 C.2.1 (kd kX7_ship_0 17 rfl) (by decide) (fun q => ?_) (fun q => ?_)
      · have hf := fif_pos q hf
        refine lv_aload_n C.1 C.2.1 (kd kX7_ship_0 25 rfl) rfl (lv_at hl 0 rfl) ?_
        refine fl_get (j := 4) (v := .ref (Γ.1 138)) C hP rfl (Nat.le_of_ble_eq_true rfl) rfl inX7 (Nat.le_of_ble_eq_true rfl) tw_287 rfl (kd kX7_ship_0 26 rfl) ?_
        refine lv_aload_n C.1 C.2.1 (kd kX7_ship_0 27 rfl) rfl (lv_at hl 0 rfl) ?_
        refine fl_get (j := 0) (v := .ref (Γ.1 1)) C hP rfl (Nat.le_of_ble_eq_true rfl) rfl inX7 (Nat.le_of_ble_eq_true rfl) tw_283 rfl (kd kX7_ship_0 28 rfl) ?_
        obtain ⟨σ3, hσ3, hf⟩ := fcallv_some hf
        refine fl_v hS (fl_runV (As := [.ref (Γ.1 1)]) (rest := []) C hP rfl (Nat.le_of_ble_eq_true rfl) rfl (m_X0_make C.2.2.2.2.2.2.2.2 l rfl hσ3) (fgV tw_535 tw_536 tw_537 tw_71 tw_538) hd_X0_make ⟨rfl, rfl, Nat.le_of_ble_eq_true rfl, Nat.le_of_ble_eq_true rfl⟩ rfl hl.1 rfl (Nat.le_of_ble_eq_true rfl) (kd kX7_ship_0 29 rfl)) (fun H locs hP hS => ?_)
        refine lv_aload_n C.1 C.2.1 (kd kX7_ship_0 30 rfl) rfl (lv_at hl 0 rfl) ?_
        refine fl_get (j := 4) (v := .ref (Γ.1 138)) C hP rfl (Nat.le_of_ble_eq_true rfl) rfl inX7 (Nat.le_of_ble_eq_true rfl) tw_287 rfl (kd kX7_ship_0 31 rfl) ?_
        refine lv_aload_n C.1 C.2.1 (kd kX7_ship_0 32 rfl) rfl (lv_at hl 0 rfl) ?_
        refine fl_get (j := 0) (v := .ref (Γ.1 1)) C hP rfl (Nat.le_of_ble_eq_true rfl) rfl inX7 (Nat.le_of_ble_eq_true rfl) tw_283 rfl (kd kX7_ship_0 33 rfl) ?_
        refine lv_iconst (v := (0 : Int32)) C.1 C.2.1 (kd kX7_ship_0 34 rfl) (by decide) ?_
        refine lv_iload_n C.1 C.2.1 (kd kX7_ship_0 35 rfl) rfl (lv_at hl 1 rfl) ?_
        obtain ⟨r4_, σ4, hσ4, hf⟩ := fcall_some hf
        refine fl_i hS (fl_runV (As := [.ref (Γ.1 1), .int (0 : Int32), .int x1]) (rest := []) C hP rfl (Nat.le_of_ble_eq_true rfl) rfl (m_X0_countSailing C.2.2.2.2.2.2.2.2 l rfl hσ4) (fgV tw_596 tw_597 tw_598 tw_71 tw_599) hd_X0_countSailing ⟨rfl, rfl, Nat.le_of_ble_eq_true rfl, Nat.le_of_ble_eq_true rfl⟩ rfl hl.1 rfl (Nat.le_of_ble_eq_true rfl) (kd kX7_ship_0 36 rfl)) (fun H locs hP hS => ?_)
        exact fl_iret C hP hS hf (kd kX7_ship_0 37 rfl)
      have hf := fif_neg q hf
      refine lv_aload_n C.1 C.2.1 (kd kX7_ship_0 18 rfl) rfl (lv_at hl 0 rfl) ?_
      refine fl_get (j := 0) (v := .ref (Γ.1 1)) C hP rfl (Nat.le_of_ble_eq_true rfl) rfl inX7 (Nat.le_of_ble_eq_true rfl) tw_283 rfl (kd kX7_ship_0 19 rfl) ?_
      refine fl_get (j := 0) (v := .ref (Γ.1 2)) C hP rfl (Nat.le_of_ble_eq_true rfl) rfl inX3 (Nat.le_of_ble_eq_true rfl) tw_114 rfl (kd kX7_ship_0 20 rfl) ?_
      refine lv_iload_n C.1 C.2.1 (kd kX7_ship_0 21 rfl) rfl (lv_at hl 1 rfl) ?_
      refine lv_iload_n C.1 C.2.1 (kd kX7_ship_0 22 rfl) rfl (lv_at hl 2 rfl) ?_
      obtain ⟨r5_, σ5, hσ5, hf⟩ := fcall_some hf
      refine fl_i hS (fl_runV (As := [.int x1, .int x2]) (rest := []) C hP rfl (Nat.le_of_ble_eq_true rfl) rfl (m_X5_at C.2.2.2.2.2.2.2.2 l rfl hσ5) (fgV tw_534 tw_418 tw_419 tw_69 tw_420) hd_X5_at ⟨rfl, rfl, Nat.le_of_ble_eq_true rfl, Nat.le_of_ble_eq_true rfl⟩ rfl hl.1 rfl (Nat.le_of_ble_eq_true rfl) (kd kX7_ship_0 23 rfl)) (fun H locs hP hS => ?_)
      exact fl_iret C hP hS hf (kd kX7_ship_0 24 rfl)
    have hf := fif_neg q hf
    refine lv_sipush (v := (-10002 : Int32)) C.1 C.2.1 (kd kX7_ship_0 13 rfl) (by decide) ?_
    exact fl_iret C hP hS hf (kd kX7_ship_0 14 rfl)
  have hf := fif_pos q hf
  refine lv_sipush (v := (-10001 : Int32)) C.1 C.2.1 (kd kX7_ship_0 6 rfl) (by decide) ?_
  exact fl_iret C hP hS hf (kd kX7_ship_0 7 rfl)
def f_X7_berth (x1 : Int32) (x2 : Int32) (σ : fS) : Option (Int32 × fS) := fcall (f_X5_has 4 3 2 x1 σ) (fun r1_ σ1 => (if r1_ = 0 then some ((-10001 : Int32), σ1) else fcall (f_X7_isOutside x2 (0 : Int32) (2 : Int32) σ1) (fun r2_ σ2 => (if r2_ = 0 then (if (2 : Int32) ≤ x2 then fcallv (f_X0_make 1 σ2) (fun σ3 => fcall (f_X0_countSailing 1 (1 : Int32) x1 σ3) (fun r4_ σ4 => some (r4_, σ4))) else fcall (f_X5_at 4 3 2 x1 x2 σ2) (fun r5_ σ5 => some (r5_, σ5))) else some ((-10002 : Int32), σ2)))))
set_option maxRecDepth 100000 in
set_option maxHeartbeats 4000000 in
theorem m_X7_berth {Γ : fGm} (hI : fI Γ) (l : Launch) {x1 : Int32} {x2 : Int32} {σ : fS} {r : Int32} {σ' : fS} (hf : f_X7_berth x1 x2 σ = some (r, σ')) : Met l yX7_berth (.code yX7_berth cX7_berth 3 (some .int) :: lw_g) ({ frames := 7, cells := 0, slots := 0, locals := 165 } : Room) (fPre Γ [.ref (Γ.1 0), .int x1, .int x2] σ) (fQi Γ r σ') 0 0 (fAd Γ) := by
  refine fl_enter (own := RX7) hI (by decide +kernel) rfl (Nat.le_of_ble_eq_true rfl) ?_
  intro p e s m args below meth c ls C hl hP hS
  have hl : lv_has ls 3 [(0, .ref (Γ.1 0)), (1, .int x1), (2, .int x2)] := hl
  obtain ⟨H, hH⟩ : ∃ H, H = s.heap := ⟨_, rfl⟩
  obtain ⟨locs, hL⟩ : ∃ L : List Loc, L = [] := ⟨_, rfl⟩
  have hP : fH Γ σ H := by rw [hH]; exact hP
  have hS : va_S (fAd Γ) s.heap H locs := by rw [hH, hL]; exact hS
  suffices hw : W p l e ({ frames := 7, cells := 0, slots := 0, locals := 165 } : Room) s m args below meth c H locs 0 0 (MQ below (fQi Γ r σ') args s 0 0 (fAd Γ)) (F0 m 0 ls []) by rw [hH, hL] at hw; exact hw
  unfold f_X7_berth at hf
  refine lv_aload_n C.1 C.2.1 (kd kX7_berth_0 0 rfl) rfl (lv_at hl 0 rfl) ?_
  refine fl_get (j := 0) (v := .ref (Γ.1 1)) C hP rfl (Nat.le_of_ble_eq_true rfl) rfl inX7 (Nat.le_of_ble_eq_true rfl) tw_283 rfl (kd kX7_berth_0 1 rfl) ?_
  refine fl_get (j := 1) (v := .ref (Γ.1 4)) C hP rfl (Nat.le_of_ble_eq_true rfl) rfl inX3 (Nat.le_of_ble_eq_true rfl) tw_116 rfl (kd kX7_berth_0 2 rfl) ?_
  refine lv_iload_n C.1 C.2.1 (kd kX7_berth_0 3 rfl) rfl (lv_at hl 1 rfl) ?_
  obtain ⟨r1_, σ1, hσ1, hf⟩ := fcall_some hf
  refine fl_i hS (fl_runV (As := [.int x1]) (rest := []) C hP rfl (Nat.le_of_ble_eq_true rfl) rfl (m_X5_has C.2.2.2.2.2.2.2.2 l rfl hσ1) (fgV tw_532 tw_378 tw_379 tw_69 tw_380) hd_X5_has ⟨rfl, rfl, Nat.le_of_ble_eq_true rfl, Nat.le_of_ble_eq_true rfl⟩ rfl hl.1 rfl (Nat.le_of_ble_eq_true rfl) (kd kX7_berth_0 4 rfl)) (fun H locs hP hS => ?_)
  refine lv_if_ne (tgt := 18) C.1 C.2.1 (kd kX7_berth_0 5 rfl) (by decide) (fun q => ?_) (fun q => ?_)
  · have hf := fif_neg q hf
    refine lv_iload_n C.1 C.2.1 (kd kX7_berth_0 8 rfl) rfl (lv_at hl 2 rfl) ?_
    refine lv_iconst (v := (0 : Int32)) C.1 C.2.1 (kd kX7_berth_0 9 rfl) (by decide) ?_
    refine lv_iconst (v := (2 : Int32)) C.1 C.2.1 (kd kX7_berth_0 10 rfl) (by decide) ?_
    obtain ⟨r2_, σ2, hσ2, hf⟩ := fcall_some hf
    refine fl_i hS (fl_runS (As := [.int x2, .int (0 : Int32), .int (2 : Int32)]) (rest := []) C hP (m_X7_isOutside C.2.2.2.2.2.2.2.2 l  hσ2) (fgS tw_533 tw_334 tw_67 tw_335) hs_X7_isOutside ⟨rfl, rfl, Nat.le_of_ble_eq_true rfl, Nat.le_of_ble_eq_true rfl⟩ rfl hl.1 rfl (Nat.le_of_ble_eq_true rfl) (kd kX7_berth_0 11 rfl)) (fun H locs hP hS => ?_)
    refine lv_if_eq (tgt := 31) C.1 C.2.1 (kd kX7_berth_0 12 rfl) (by decide) (fun q => ?_) (fun q => ?_)
    · have hf := fif_pos q hf
      refine lv_iload_n C.1 C.2.1 (kd kX7_berth_0 15 rfl) rfl (lv_at hl 2 rfl) ?_
      refine lv_iconst (v := (2 : Int32)) C.1 C.2.1 (kd kX7_berth_0 16 rfl) (by decide) ?_
      refine lv_icmp_ge (tgt := 49) C.1 C.2.1 (kd kX7_berth_0 17 rfl) (by decide) (fun q => ?_) (fun q => ?_)
      · have hf := fif_pos q hf
        refine lv_aload_n C.1 C.2.1 (kd kX7_berth_0 25 rfl) rfl (lv_at hl 0 rfl) ?_
        refine fl_get (j := 4) (v := .ref (Γ.1 138)) C hP rfl (Nat.le_of_ble_eq_true rfl) rfl inX7 (Nat.le_of_ble_eq_true rfl) tw_287 rfl (kd kX7_berth_0 26 rfl) ?_
        refine lv_aload_n C.1 C.2.1 (kd kX7_berth_0 27 rfl) rfl (lv_at hl 0 rfl) ?_
        refine fl_get (j := 0) (v := .ref (Γ.1 1)) C hP rfl (Nat.le_of_ble_eq_true rfl) rfl inX7 (Nat.le_of_ble_eq_true rfl) tw_283 rfl (kd kX7_berth_0 28 rfl) ?_
        obtain ⟨σ3, hσ3, hf⟩ := fcallv_some hf
        refine fl_v hS (fl_runV (As := [.ref (Γ.1 1)]) (rest := []) C hP rfl (Nat.le_of_ble_eq_true rfl) rfl (m_X0_make C.2.2.2.2.2.2.2.2 l rfl hσ3) (fgV tw_535 tw_536 tw_537 tw_71 tw_538) hd_X0_make ⟨rfl, rfl, Nat.le_of_ble_eq_true rfl, Nat.le_of_ble_eq_true rfl⟩ rfl hl.1 rfl (Nat.le_of_ble_eq_true rfl) (kd kX7_berth_0 29 rfl)) (fun H locs hP hS => ?_)
        refine lv_aload_n C.1 C.2.1 (kd kX7_berth_0 30 rfl) rfl (lv_at hl 0 rfl) ?_
        refine fl_get (j := 4) (v := .ref (Γ.1 138)) C hP rfl (Nat.le_of_ble_eq_true rfl) rfl inX7 (Nat.le_of_ble_eq_true rfl) tw_287 rfl (kd kX7_berth_0 31 rfl) ?_
        refine lv_aload_n C.1 C.2.1 (kd kX7_berth_0 32 rfl) rfl (lv_at hl 0 rfl) ?_
        refine fl_get (j := 0) (v := .ref (Γ.1 1)) C hP rfl (Nat.le_of_ble_eq_true rfl) rfl inX7 (Nat.le_of_ble_eq_true rfl) tw_283 rfl (kd kX7_berth_0 33 rfl) ?_
        refine lv_iconst (v := (1 : Int32)) C.1 C.2.1 (kd kX7_berth_0 34 rfl) (by decide) ?_
        refine lv_iload_n C.1 C.2.1 (kd kX7_berth_0 35 rfl) rfl (lv_at hl 1 rfl) ?_
        obtain ⟨r4_, σ4, hσ4, hf⟩ := fcall_some hf
        refine fl_i hS (fl_runV (As := [.ref (Γ.1 1), .int (1 : Int32), .int x1]) (rest := []) C hP rfl (Nat.le_of_ble_eq_true rfl) rfl (m_X0_countSailing C.2.2.2.2.2.2.2.2 l rfl hσ4) (fgV tw_596 tw_597 tw_598 tw_71 tw_599) hd_X0_countSailing ⟨rfl, rfl, Nat.le_of_ble_eq_true rfl, Nat.le_of_ble_eq_true rfl⟩ rfl hl.1 rfl (Nat.le_of_ble_eq_true rfl) (kd kX7_berth_0 36 rfl)) (fun H locs hP hS => ?_)
        exact fl_iret C hP hS hf (kd kX7_berth_0 37 rfl)
      have hf := fif_neg q hf
      refine lv_aload_n C.1 C.2.1 (kd kX7_berth_0 18 rfl) rfl (lv_at hl 0 rfl) ?_
      refine fl_get (j := 0) (v := .ref (Γ.1 1)) C hP rfl (Nat.le_of_ble_eq_true rfl) rfl inX7 (Nat.le_of_ble_eq_true rfl) tw_283 rfl (kd kX7_berth_0 19 rfl) ?_
      refine fl_get (j := 1) (v := .ref (Γ.1 4)) C hP rfl (Nat.le_of_ble_eq_true rfl) rfl inX3 (Nat.le_of_ble_eq_true rfl) tw_116 rfl (kd kX7_berth_0 20 rfl) ?_
      refine lv_iload_n C.1 C.2.1 (kd kX7_berth_0 21 rfl) rfl (lv_at hl 1 rfl) ?_
      refine lv_iload_n C.1 C.2.1 (kd kX7_berth_0 22 rfl) rfl (lv_at hl 2 rfl) ?_
      obtain ⟨r5_, σ5, hσ5, hf⟩ := fcall_some hf
      refine fl_i hS (fl_runV (As := [.int x1, .int x2]) (rest := []) C hP rfl (Nat.le_of_ble_eq_true rfl) rfl (m_X5_at C.2.2.2.2.2.2.2.2 l rfl hσ5) (fgV tw_534 tw_418 tw_419 tw_69 tw_420) hd_X5_at ⟨rfl, rfl, Nat.le_of_ble_eq_true rfl, Nat.le_of_ble_eq_true rfl⟩ rfl hl.1 rfl (Nat.le_of_ble_eq_true rfl) (kd kX7_berth_0 23 rfl)) (fun H locs hP hS => ?_)
      exact fl_iret C hP hS hf (kd kX7_berth_0 24 rfl)
    have hf := fif_neg q hf
    refine lv_sipush (v := (-10002 : Int32)) C.1 C.2.1 (kd kX7_berth_0 13 rfl) (by decide) ?_
    exact fl_iret C hP hS hf (kd kX7_berth_0 14 rfl)
  have hf := fif_pos q hf
  refine lv_sipush (v := (-10001 : Int32)) C.1 C.2.1 (kd kX7_berth_0 6 rfl) (by decide) ?_
  exact fl_iret C hP hS hf (kd kX7_berth_0 7 rfl)
def f_X7_crossing (x1 : Int32) (x2 : Int32) (σ : fS) : Option (Int32 × fS) := fcall (f_X5_has 6 12 4 x1 σ) (fun r1_ σ1 => (if r1_ = 0 then some ((-10001 : Int32), σ1) else fcall (f_X7_isOutside x2 (0 : Int32) (9 : Int32) σ1) (fun r2_ σ2 => (if r2_ = 0 then (if (4 : Int32) ≤ x2 then fcallv (f_X0_make 1 σ2) (fun σ3 => (if (8 : Int32) ≤ x2 then fcallv (f_X2_make 1 σ3) (fun σ4 => (if x2 = (8 : Int32) then fcall (f_X2_countAboard 1 x1 σ4) (fun r5_ σ5 => some (r5_, σ5)) else fb x1 12 (some ((σ4 146 x1.toNatClampNeg), σ4)))) else fcall (f_X0_tell x1 x2 σ3) (fun r6_ σ6 => some (r6_, σ6)))) else fcall (f_X5_at 6 12 4 x1 x2 σ2) (fun r7_ σ7 => some (r7_, σ7))) else some ((-10002 : Int32), σ2)))))
set_option maxRecDepth 100000 in
set_option maxHeartbeats 4000000 in
theorem m_X7_crossing {Γ : fGm} (hI : fI Γ) (l : Launch) {x1 : Int32} {x2 : Int32} {σ : fS} {r : Int32} {σ' : fS} (hf : f_X7_crossing x1 x2 σ = some (r, σ')) : Met l yX7_crossing (.code yX7_crossing cX7_crossing 3 (some .int) :: lw_g) ({ frames := 7, cells := 0, slots := 0, locals := 165 } : Room) (fPre Γ [.ref (Γ.1 0), .int x1, .int x2] σ) (fQi Γ r σ') 0 0 (fAd Γ) := by
  refine fl_enter (own := RX7) hI (by decide +kernel) rfl (Nat.le_of_ble_eq_true rfl) ?_
  intro p e s m args below meth c ls C hl hP hS
  have hl : lv_has ls 3 [(0, .ref (Γ.1 0)), (1, .int x1), (2, .int x2)] := hl
  obtain ⟨H, hH⟩ : ∃ H, H = s.heap := ⟨_, rfl⟩
  obtain ⟨locs, hL⟩ : ∃ L : List Loc, L = [] := ⟨_, rfl⟩
  have hP : fH Γ σ H := by rw [hH]; exact hP
  have hS : va_S (fAd Γ) s.heap H locs := by rw [hH, hL]; exact hS
  suffices hw : W p l e ({ frames := 7, cells := 0, slots := 0, locals := 165 } : Room) s m args below meth c H locs 0 0 (MQ below (fQi Γ r σ') args s 0 0 (fAd Γ)) (F0 m 0 ls []) by rw [hH, hL] at hw; exact hw
  unfold f_X7_crossing at hf
  refine lv_aload_n C.1 C.2.1 (kd kX7_crossing_0 0 rfl) rfl (lv_at hl 0 rfl) ?_
  refine fl_get (j := 0) (v := .ref (Γ.1 1)) C hP rfl (Nat.le_of_ble_eq_true rfl) rfl inX7 (Nat.le_of_ble_eq_true rfl) tw_283 rfl (kd kX7_crossing_0 1 rfl) ?_
  refine fl_get (j := 2) (v := .ref (Γ.1 6)) C hP rfl (Nat.le_of_ble_eq_true rfl) rfl inX3 (Nat.le_of_ble_eq_true rfl) tw_120 rfl (kd kX7_crossing_0 2 rfl) ?_
  refine lv_iload_n C.1 C.2.1 (kd kX7_crossing_0 3 rfl) rfl (lv_at hl 1 rfl) ?_
  obtain ⟨r1_, σ1, hσ1, hf⟩ := fcall_some hf
  refine fl_i hS (fl_runV (As := [.int x1]) (rest := []) C hP rfl (Nat.le_of_ble_eq_true rfl) rfl (m_X5_has C.2.2.2.2.2.2.2.2 l rfl hσ1) (fgV tw_532 tw_378 tw_379 tw_69 tw_380) hd_X5_has ⟨rfl, rfl, Nat.le_of_ble_eq_true rfl, Nat.le_of_ble_eq_true rfl⟩ rfl hl.1 rfl (Nat.le_of_ble_eq_true rfl) (kd kX7_crossing_0 4 rfl)) (fun H locs hP hS => ?_)
  refine lv_if_ne (tgt := 18) C.1 C.2.1 (kd kX7_crossing_0 5 rfl) (by decide) (fun q => ?_) (fun q => ?_)
  · have hf := fif_neg q hf
    refine lv_iload_n C.1 C.2.1 (kd kX7_crossing_0 8 rfl) rfl (lv_at hl 2 rfl) ?_
    refine lv_iconst (v := (0 : Int32)) C.1 C.2.1 (kd kX7_crossing_0 9 rfl) (by decide) ?_
    refine lv_bipush (v := (9 : Int32)) C.1 C.2.1 (kd kX7_crossing_0 10 rfl) (by decide) ?_
    obtain ⟨r2_, σ2, hσ2, hf⟩ := fcall_some hf
    refine fl_i hS (fl_runS (As := [.int x2, .int (0 : Int32), .int (9 : Int32)]) (rest := []) C hP (m_X7_isOutside C.2.2.2.2.2.2.2.2 l  hσ2) (fgS tw_533 tw_334 tw_67 tw_335) hs_X7_isOutside ⟨rfl, rfl, Nat.le_of_ble_eq_true rfl, Nat.le_of_ble_eq_true rfl⟩ rfl hl.1 rfl (Nat.le_of_ble_eq_true rfl) (kd kX7_crossing_0 11 rfl)) (fun H locs hP hS => ?_)
    refine lv_if_eq (tgt := 32) C.1 C.2.1 (kd kX7_crossing_0 12 rfl) (by decide) (fun q => ?_) (fun q => ?_)
    · have hf := fif_pos q hf
      refine lv_iload_n C.1 C.2.1 (kd kX7_crossing_0 15 rfl) rfl (lv_at hl 2 rfl) ?_
      refine lv_iconst (v := (4 : Int32)) C.1 C.2.1 (kd kX7_crossing_0 16 rfl) (by decide) ?_
      refine lv_icmp_ge (tgt := 50) C.1 C.2.1 (kd kX7_crossing_0 17 rfl) (by decide) (fun q => ?_) (fun q => ?_)
      · have hf := fif_pos q hf
        refine lv_aload_n C.1 C.2.1 (kd kX7_crossing_0 25 rfl) rfl (lv_at hl 0 rfl) ?_
        refine fl_get (j := 4) (v := .ref (Γ.1 138)) C hP rfl (Nat.le_of_ble_eq_true rfl) rfl inX7 (Nat.le_of_ble_eq_true rfl) tw_287 rfl (kd kX7_crossing_0 26 rfl) ?_
        refine lv_aload_n C.1 C.2.1 (kd kX7_crossing_0 27 rfl) rfl (lv_at hl 0 rfl) ?_
        refine fl_get (j := 0) (v := .ref (Γ.1 1)) C hP rfl (Nat.le_of_ble_eq_true rfl) rfl inX7 (Nat.le_of_ble_eq_true rfl) tw_283 rfl (kd kX7_crossing_0 28 rfl) ?_
        obtain ⟨σ3, hσ3, hf⟩ := fcallv_some hf
        refine fl_v hS (fl_runV (As := [.ref (Γ.1 1)]) (rest := []) C hP rfl (Nat.le_of_ble_eq_true rfl) rfl (m_X0_make C.2.2.2.2.2.2.2.2 l rfl hσ3) (fgV tw_535 tw_536 tw_537 tw_71 tw_538) hd_X0_make ⟨rfl, rfl, Nat.le_of_ble_eq_true rfl, Nat.le_of_ble_eq_true rfl⟩ rfl hl.1 rfl (Nat.le_of_ble_eq_true rfl) (kd kX7_crossing_0 29 rfl)) (fun H locs hP hS => ?_)
        refine lv_iload_n C.1 C.2.1 (kd kX7_crossing_0 30 rfl) rfl (lv_at hl 2 rfl) ?_
        refine lv_bipush (v := (8 : Int32)) C.1 C.2.1 (kd kX7_crossing_0 31 rfl) (by decide) ?_
        refine lv_icmp_ge (tgt := 77) C.1 C.2.1 (kd kX7_crossing_0 32 rfl) (by decide) (fun q => ?_) (fun q => ?_)
        · have hf := fif_pos q hf
          refine lv_aload_n C.1 C.2.1 (kd kX7_crossing_0 39 rfl) rfl (lv_at hl 0 rfl) ?_
          refine fl_get (j := 5) (v := .ref (Γ.1 145)) C hP rfl (Nat.le_of_ble_eq_true rfl) rfl inX7 (Nat.le_of_ble_eq_true rfl) tw_288 rfl (kd kX7_crossing_0 40 rfl) ?_
          refine lv_aload_n C.1 C.2.1 (kd kX7_crossing_0 41 rfl) rfl (lv_at hl 0 rfl) ?_
          refine fl_get (j := 0) (v := .ref (Γ.1 1)) C hP rfl (Nat.le_of_ble_eq_true rfl) rfl inX7 (Nat.le_of_ble_eq_true rfl) tw_283 rfl (kd kX7_crossing_0 42 rfl) ?_
          refine lv_aload_n C.1 C.2.1 (kd kX7_crossing_0 43 rfl) rfl (lv_at hl 0 rfl) ?_
          refine fl_get (j := 4) (v := .ref (Γ.1 138)) C hP rfl (Nat.le_of_ble_eq_true rfl) rfl inX7 (Nat.le_of_ble_eq_true rfl) tw_287 rfl (kd kX7_crossing_0 44 rfl) ?_
          obtain ⟨σ4, hσ4, hf⟩ := fcallv_some hf
          refine fl_v hS (fl_runV (As := [.ref (Γ.1 1), .ref (Γ.1 138)]) (rest := []) C hP rfl (Nat.le_of_ble_eq_true rfl) rfl (m_X2_make C.2.2.2.2.2.2.2.2 l rfl hσ4) (fgV tw_612 tw_613 tw_614 tw_72 tw_615) hd_X2_make ⟨rfl, rfl, Nat.le_of_ble_eq_true rfl, Nat.le_of_ble_eq_true rfl⟩ rfl hl.1 rfl (Nat.le_of_ble_eq_true rfl) (kd kX7_crossing_0 45 rfl)) (fun H locs hP hS => ?_)
          refine lv_iload_n C.1 C.2.1 (kd kX7_crossing_0 46 rfl) rfl (lv_at hl 2 rfl) ?_
          refine lv_bipush (v := (8 : Int32)) C.1 C.2.1 (kd kX7_crossing_0 47 rfl) (by decide) ?_
          refine lv_icmp_ne (tgt := 113) C.1 C.2.1 (kd kX7_crossing_0 48 rfl) (by decide) (fun q => ?_) (fun q => ?_)
          · have hf := fif_neg q hf
            refine lv_aload_n C.1 C.2.1 (kd kX7_crossing_0 56 rfl) rfl (lv_at hl 0 rfl) ?_
            refine fl_get (j := 5) (v := .ref (Γ.1 145)) C hP rfl (Nat.le_of_ble_eq_true rfl) rfl inX7 (Nat.le_of_ble_eq_true rfl) tw_288 rfl (kd kX7_crossing_0 57 rfl) ?_
            refine fl_get (j := 0) (v := .ref (Γ.1 146)) C hP rfl (Nat.le_of_ble_eq_true rfl) rfl inX2 (Nat.le_of_ble_eq_true rfl) tw_204 rfl (kd kX7_crossing_0 58 rfl) ?_
            refine lv_iload_n C.1 C.2.1 (kd kX7_crossing_0 59 rfl) rfl (lv_at hl 1 rfl) ?_
            obtain ⟨hq, hf⟩ := fb_some hf
            refine fl_iald C hP rfl hq (kd kX7_crossing_1 0 rfl) ?_
            exact fl_iret C hP hS hf (kd kX7_crossing_1 1 rfl)
          have hf := fif_pos q hf
          refine lv_aload_n C.1 C.2.1 (kd kX7_crossing_0 49 rfl) rfl (lv_at hl 0 rfl) ?_
          refine fl_get (j := 5) (v := .ref (Γ.1 145)) C hP rfl (Nat.le_of_ble_eq_true rfl) rfl inX7 (Nat.le_of_ble_eq_true rfl) tw_288 rfl (kd kX7_crossing_0 50 rfl) ?_
          refine lv_aload_n C.1 C.2.1 (kd kX7_crossing_0 51 rfl) rfl (lv_at hl 0 rfl) ?_
          refine fl_get (j := 0) (v := .ref (Γ.1 1)) C hP rfl (Nat.le_of_ble_eq_true rfl) rfl inX7 (Nat.le_of_ble_eq_true rfl) tw_283 rfl (kd kX7_crossing_0 52 rfl) ?_
          refine lv_iload_n C.1 C.2.1 (kd kX7_crossing_0 53 rfl) rfl (lv_at hl 1 rfl) ?_
          obtain ⟨r5_, σ5, hσ5, hf⟩ := fcall_some hf
          refine fl_i hS (fl_runV (As := [.ref (Γ.1 1), .int x1]) (rest := []) C hP rfl (Nat.le_of_ble_eq_true rfl) rfl (m_X2_countAboard C.2.2.2.2.2.2.2.2 l rfl hσ5) (fgV tw_659 tw_660 tw_661 tw_72 tw_662) hd_X2_countAboard ⟨rfl, rfl, Nat.le_of_ble_eq_true rfl, Nat.le_of_ble_eq_true rfl⟩ rfl hl.1 rfl (Nat.le_of_ble_eq_true rfl) (kd kX7_crossing_0 54 rfl)) (fun H locs hP hS => ?_)
          refine lv_goto (tgt := 122) C.1 C.2.1 (kd kX7_crossing_0 55 rfl) (by decide) ?_
          exact fl_iret C hP hS hf (kd kX7_crossing_1 1 rfl)
        have hf := fif_neg q hf
        refine lv_aload_n C.1 C.2.1 (kd kX7_crossing_0 33 rfl) rfl (lv_at hl 0 rfl) ?_
        refine fl_get (j := 4) (v := .ref (Γ.1 138)) C hP rfl (Nat.le_of_ble_eq_true rfl) rfl inX7 (Nat.le_of_ble_eq_true rfl) tw_287 rfl (kd kX7_crossing_0 34 rfl) ?_
        refine lv_iload_n C.1 C.2.1 (kd kX7_crossing_0 35 rfl) rfl (lv_at hl 1 rfl) ?_
        refine lv_iload_n C.1 C.2.1 (kd kX7_crossing_0 36 rfl) rfl (lv_at hl 2 rfl) ?_
        obtain ⟨r6_, σ6, hσ6, hf⟩ := fcall_some hf
        refine fl_i hS (fl_runV (As := [.int x1, .int x2]) (rest := []) C hP rfl (Nat.le_of_ble_eq_true rfl) rfl (m_X0_tell C.2.2.2.2.2.2.2.2 l  hσ6) (fgV tw_608 tw_609 tw_610 tw_71 tw_611) hd_X0_tell ⟨rfl, rfl, Nat.le_of_ble_eq_true rfl, Nat.le_of_ble_eq_true rfl⟩ rfl hl.1 rfl (Nat.le_of_ble_eq_true rfl) (kd kX7_crossing_0 37 rfl)) (fun H locs hP hS => ?_)
        exact fl_iret C hP hS hf (kd kX7_crossing_0 38 rfl)
      have hf := fif_neg q hf
      refine lv_aload_n C.1 C.2.1 (kd kX7_crossing_0 18 rfl) rfl (lv_at hl 0 rfl) ?_
      refine fl_get (j := 0) (v := .ref (Γ.1 1)) C hP rfl (Nat.le_of_ble_eq_true rfl) rfl inX7 (Nat.le_of_ble_eq_true rfl) tw_283 rfl (kd kX7_crossing_0 19 rfl) ?_
      refine fl_get (j := 2) (v := .ref (Γ.1 6)) C hP rfl (Nat.le_of_ble_eq_true rfl) rfl inX3 (Nat.le_of_ble_eq_true rfl) tw_120 rfl (kd kX7_crossing_0 20 rfl) ?_
      refine lv_iload_n C.1 C.2.1 (kd kX7_crossing_0 21 rfl) rfl (lv_at hl 1 rfl) ?_
      refine lv_iload_n C.1 C.2.1 (kd kX7_crossing_0 22 rfl) rfl (lv_at hl 2 rfl) ?_
      obtain ⟨r7_, σ7, hσ7, hf⟩ := fcall_some hf
      refine fl_i hS (fl_runV (As := [.int x1, .int x2]) (rest := []) C hP rfl (Nat.le_of_ble_eq_true rfl) rfl (m_X5_at C.2.2.2.2.2.2.2.2 l rfl hσ7) (fgV tw_534 tw_418 tw_419 tw_69 tw_420) hd_X5_at ⟨rfl, rfl, Nat.le_of_ble_eq_true rfl, Nat.le_of_ble_eq_true rfl⟩ rfl hl.1 rfl (Nat.le_of_ble_eq_true rfl) (kd kX7_crossing_0 23 rfl)) (fun H locs hP hS => ?_)
      exact fl_iret C hP hS hf (kd kX7_crossing_0 24 rfl)
    have hf := fif_neg q hf
    refine lv_sipush (v := (-10002 : Int32)) C.1 C.2.1 (kd kX7_crossing_0 13 rfl) (by decide) ?_
    exact fl_iret C hP hS hf (kd kX7_crossing_0 14 rfl)
  have hf := fif_pos q hf
  refine lv_sipush (v := (-10001 : Int32)) C.1 C.2.1 (kd kX7_crossing_0 6 rfl) (by decide) ?_
  exact fl_iret C hP hS hf (kd kX7_crossing_0 7 rfl)
def f_X7_decided (x1 : Int32) (σ : fS) : Option (Int32 × fS) := fcall (f_X5_has 6 12 4 x1 σ) (fun r1_ σ1 => (if r1_ = 0 then some ((-10001 : Int32), σ1) else fcallv (f_X0_make 1 σ1) (fun σ2 => fb x1 12 (some ((σ2 139 x1.toNatClampNeg), σ2)))))
set_option maxRecDepth 100000 in
set_option maxHeartbeats 4000000 in
theorem m_X7_decided {Γ : fGm} (hI : fI Γ) (l : Launch) {x1 : Int32} {σ : fS} {r : Int32} {σ' : fS} (hf : f_X7_decided x1 σ = some (r, σ')) : Met l yX7_decided (.code yX7_decided cX7_decided 2 (some .int) :: lw_g) ({ frames := 7, cells := 0, slots := 0, locals := 165 } : Room) (fPre Γ [.ref (Γ.1 0), .int x1] σ) (fQi Γ r σ') 0 0 (fAd Γ) := by
  refine fl_enter (own := RX7) hI (by decide +kernel) rfl (Nat.le_of_ble_eq_true rfl) ?_
  intro p e s m args below meth c ls C hl hP hS
  have hl : lv_has ls 2 [(0, .ref (Γ.1 0)), (1, .int x1)] := hl
  obtain ⟨H, hH⟩ : ∃ H, H = s.heap := ⟨_, rfl⟩
  obtain ⟨locs, hL⟩ : ∃ L : List Loc, L = [] := ⟨_, rfl⟩
  have hP : fH Γ σ H := by rw [hH]; exact hP
  have hS : va_S (fAd Γ) s.heap H locs := by rw [hH, hL]; exact hS
  suffices hw : W p l e ({ frames := 7, cells := 0, slots := 0, locals := 165 } : Room) s m args below meth c H locs 0 0 (MQ below (fQi Γ r σ') args s 0 0 (fAd Γ)) (F0 m 0 ls []) by rw [hH, hL] at hw; exact hw
  unfold f_X7_decided at hf
  refine lv_aload_n C.1 C.2.1 (kd kX7_decided_0 0 rfl) rfl (lv_at hl 0 rfl) ?_
  refine fl_get (j := 0) (v := .ref (Γ.1 1)) C hP rfl (Nat.le_of_ble_eq_true rfl) rfl inX7 (Nat.le_of_ble_eq_true rfl) tw_283 rfl (kd kX7_decided_0 1 rfl) ?_
  refine fl_get (j := 2) (v := .ref (Γ.1 6)) C hP rfl (Nat.le_of_ble_eq_true rfl) rfl inX3 (Nat.le_of_ble_eq_true rfl) tw_120 rfl (kd kX7_decided_0 2 rfl) ?_
  refine lv_iload_n C.1 C.2.1 (kd kX7_decided_0 3 rfl) rfl (lv_at hl 1 rfl) ?_
  obtain ⟨r1_, σ1, hσ1, hf⟩ := fcall_some hf
  refine fl_i hS (fl_runV (As := [.int x1]) (rest := []) C hP rfl (Nat.le_of_ble_eq_true rfl) rfl (m_X5_has C.2.2.2.2.2.2.2.2 l rfl hσ1) (fgV tw_532 tw_378 tw_379 tw_69 tw_380) hd_X5_has ⟨rfl, rfl, Nat.le_of_ble_eq_true rfl, Nat.le_of_ble_eq_true rfl⟩ rfl hl.1 rfl (Nat.le_of_ble_eq_true rfl) (kd kX7_decided_0 4 rfl)) (fun H locs hP hS => ?_)
  refine lv_if_ne (tgt := 18) C.1 C.2.1 (kd kX7_decided_0 5 rfl) (by decide) (fun q => ?_) (fun q => ?_)
  · have hf := fif_neg q hf
    refine lv_aload_n C.1 C.2.1 (kd kX7_decided_0 8 rfl) rfl (lv_at hl 0 rfl) ?_
    refine fl_get (j := 4) (v := .ref (Γ.1 138)) C hP rfl (Nat.le_of_ble_eq_true rfl) rfl inX7 (Nat.le_of_ble_eq_true rfl) tw_287 rfl (kd kX7_decided_0 9 rfl) ?_
    refine lv_aload_n C.1 C.2.1 (kd kX7_decided_0 10 rfl) rfl (lv_at hl 0 rfl) ?_
    refine fl_get (j := 0) (v := .ref (Γ.1 1)) C hP rfl (Nat.le_of_ble_eq_true rfl) rfl inX7 (Nat.le_of_ble_eq_true rfl) tw_283 rfl (kd kX7_decided_0 11 rfl) ?_
    obtain ⟨σ2, hσ2, hf⟩ := fcallv_some hf
    refine fl_v hS (fl_runV (As := [.ref (Γ.1 1)]) (rest := []) C hP rfl (Nat.le_of_ble_eq_true rfl) rfl (m_X0_make C.2.2.2.2.2.2.2.2 l rfl hσ2) (fgV tw_535 tw_536 tw_537 tw_71 tw_538) hd_X0_make ⟨rfl, rfl, Nat.le_of_ble_eq_true rfl, Nat.le_of_ble_eq_true rfl⟩ rfl hl.1 rfl (Nat.le_of_ble_eq_true rfl) (kd kX7_decided_0 12 rfl)) (fun H locs hP hS => ?_)
    refine lv_aload_n C.1 C.2.1 (kd kX7_decided_0 13 rfl) rfl (lv_at hl 0 rfl) ?_
    refine fl_get (j := 4) (v := .ref (Γ.1 138)) C hP rfl (Nat.le_of_ble_eq_true rfl) rfl inX7 (Nat.le_of_ble_eq_true rfl) tw_287 rfl (kd kX7_decided_0 14 rfl) ?_
    refine fl_get (j := 0) (v := .ref (Γ.1 139)) C hP rfl (Nat.le_of_ble_eq_true rfl) rfl inX0 (Nat.le_of_ble_eq_true rfl) tw_177 rfl (kd kX7_decided_0 15 rfl) ?_
    refine lv_iload_n C.1 C.2.1 (kd kX7_decided_0 16 rfl) rfl (lv_at hl 1 rfl) ?_
    obtain ⟨hq, hf⟩ := fb_some hf
    refine fl_iald C hP rfl hq (kd kX7_decided_0 17 rfl) ?_
    exact fl_iret C hP hS hf (kd kX7_decided_0 18 rfl)
  have hf := fif_pos q hf
  refine lv_sipush (v := (-10001 : Int32)) C.1 C.2.1 (kd kX7_decided_0 6 rfl) (by decide) ?_
  exact fl_iret C hP hS hf (kd kX7_decided_0 7 rfl)
def f_X7_vehicle (x1 : Int32) (x2 : Int32) (σ : fS) : Option (Int32 × fS) := fcall (f_X5_has 8 24 3 x1 σ) (fun r1_ σ1 => (if r1_ = 0 then some ((-10001 : Int32), σ1) else fcall (f_X7_isOutside x2 (0 : Int32) (6 : Int32) σ1) (fun r2_ σ2 => (if r2_ = 0 then (if (3 : Int32) ≤ x2 then fcallv (f_X0_make 1 σ2) (fun σ3 => fcallv (f_X2_make 1 σ3) (fun σ4 => fcall (f_X2_tell x1 x2 σ4) (fun r5_ σ5 => some (r5_, σ5)))) else fcall (f_X5_at 8 24 3 x1 x2 σ2) (fun r6_ σ6 => some (r6_, σ6))) else some ((-10002 : Int32), σ2)))))
set_option maxRecDepth 100000 in
set_option maxHeartbeats 4000000 in
theorem m_X7_vehicle {Γ : fGm} (hI : fI Γ) (l : Launch) {x1 : Int32} {x2 : Int32} {σ : fS} {r : Int32} {σ' : fS} (hf : f_X7_vehicle x1 x2 σ = some (r, σ')) : Met l yX7_vehicle (.code yX7_vehicle cX7_vehicle 3 (some .int) :: lw_g) ({ frames := 7, cells := 0, slots := 0, locals := 165 } : Room) (fPre Γ [.ref (Γ.1 0), .int x1, .int x2] σ) (fQi Γ r σ') 0 0 (fAd Γ) := by
  refine fl_enter (own := RX7) hI (by decide +kernel) rfl (Nat.le_of_ble_eq_true rfl) ?_
  intro p e s m args below meth c ls C hl hP hS
  have hl : lv_has ls 3 [(0, .ref (Γ.1 0)), (1, .int x1), (2, .int x2)] := hl
  obtain ⟨H, hH⟩ : ∃ H, H = s.heap := ⟨_, rfl⟩
  obtain ⟨locs, hL⟩ : ∃ L : List Loc, L = [] := ⟨_, rfl⟩
  have hP : fH Γ σ H := by rw [hH]; exact hP
  have hS : va_S (fAd Γ) s.heap H locs := by rw [hH, hL]; exact hS
  suffices hw : W p l e ({ frames := 7, cells := 0, slots := 0, locals := 165 } : Room) s m args below meth c H locs 0 0 (MQ below (fQi Γ r σ') args s 0 0 (fAd Γ)) (F0 m 0 ls []) by rw [hH, hL] at hw; exact hw
  unfold f_X7_vehicle at hf
  refine lv_aload_n C.1 C.2.1 (kd kX7_vehicle_0 0 rfl) rfl (lv_at hl 0 rfl) ?_
  refine fl_get (j := 0) (v := .ref (Γ.1 1)) C hP rfl (Nat.le_of_ble_eq_true rfl) rfl inX7 (Nat.le_of_ble_eq_true rfl) tw_283 rfl (kd kX7_vehicle_0 1 rfl) ?_
  refine fl_get (j := 3) (v := .ref (Γ.1 8)) C hP rfl (Nat.le_of_ble_eq_true rfl) rfl inX3 (Nat.le_of_ble_eq_true rfl) tw_123 rfl (kd kX7_vehicle_0 2 rfl) ?_
  refine lv_iload_n C.1 C.2.1 (kd kX7_vehicle_0 3 rfl) rfl (lv_at hl 1 rfl) ?_
  obtain ⟨r1_, σ1, hσ1, hf⟩ := fcall_some hf
  refine fl_i hS (fl_runV (As := [.int x1]) (rest := []) C hP rfl (Nat.le_of_ble_eq_true rfl) rfl (m_X5_has C.2.2.2.2.2.2.2.2 l rfl hσ1) (fgV tw_532 tw_378 tw_379 tw_69 tw_380) hd_X5_has ⟨rfl, rfl, Nat.le_of_ble_eq_true rfl, Nat.le_of_ble_eq_true rfl⟩ rfl hl.1 rfl (Nat.le_of_ble_eq_true rfl) (kd kX7_vehicle_0 4 rfl)) (fun H locs hP hS => ?_)
  refine lv_if_ne (tgt := 18) C.1 C.2.1 (kd kX7_vehicle_0 5 rfl) (by decide) (fun q => ?_) (fun q => ?_)
  · have hf := fif_neg q hf
    refine lv_iload_n C.1 C.2.1 (kd kX7_vehicle_0 8 rfl) rfl (lv_at hl 2 rfl) ?_
    refine lv_iconst (v := (0 : Int32)) C.1 C.2.1 (kd kX7_vehicle_0 9 rfl) (by decide) ?_
    refine lv_bipush (v := (6 : Int32)) C.1 C.2.1 (kd kX7_vehicle_0 10 rfl) (by decide) ?_
    obtain ⟨r2_, σ2, hσ2, hf⟩ := fcall_some hf
    refine fl_i hS (fl_runS (As := [.int x2, .int (0 : Int32), .int (6 : Int32)]) (rest := []) C hP (m_X7_isOutside C.2.2.2.2.2.2.2.2 l  hσ2) (fgS tw_533 tw_334 tw_67 tw_335) hs_X7_isOutside ⟨rfl, rfl, Nat.le_of_ble_eq_true rfl, Nat.le_of_ble_eq_true rfl⟩ rfl hl.1 rfl (Nat.le_of_ble_eq_true rfl) (kd kX7_vehicle_0 11 rfl)) (fun H locs hP hS => ?_)
    refine lv_if_eq (tgt := 32) C.1 C.2.1 (kd kX7_vehicle_0 12 rfl) (by decide) (fun q => ?_) (fun q => ?_)
    · have hf := fif_pos q hf
      refine lv_iload_n C.1 C.2.1 (kd kX7_vehicle_0 15 rfl) rfl (lv_at hl 2 rfl) ?_
      refine lv_iconst (v := (3 : Int32)) C.1 C.2.1 (kd kX7_vehicle_0 16 rfl) (by decide) ?_
      refine lv_icmp_ge (tgt := 50) C.1 C.2.1 (kd kX7_vehicle_0 17 rfl) (by decide) (fun q => ?_) (fun q => ?_)
      · have hf := fif_pos q hf
        refine lv_aload_n C.1 C.2.1 (kd kX7_vehicle_0 25 rfl) rfl (lv_at hl 0 rfl) ?_
        refine fl_get (j := 4) (v := .ref (Γ.1 138)) C hP rfl (Nat.le_of_ble_eq_true rfl) rfl inX7 (Nat.le_of_ble_eq_true rfl) tw_287 rfl (kd kX7_vehicle_0 26 rfl) ?_
        refine lv_aload_n C.1 C.2.1 (kd kX7_vehicle_0 27 rfl) rfl (lv_at hl 0 rfl) ?_
        refine fl_get (j := 0) (v := .ref (Γ.1 1)) C hP rfl (Nat.le_of_ble_eq_true rfl) rfl inX7 (Nat.le_of_ble_eq_true rfl) tw_283 rfl (kd kX7_vehicle_0 28 rfl) ?_
        obtain ⟨σ3, hσ3, hf⟩ := fcallv_some hf
        refine fl_v hS (fl_runV (As := [.ref (Γ.1 1)]) (rest := []) C hP rfl (Nat.le_of_ble_eq_true rfl) rfl (m_X0_make C.2.2.2.2.2.2.2.2 l rfl hσ3) (fgV tw_535 tw_536 tw_537 tw_71 tw_538) hd_X0_make ⟨rfl, rfl, Nat.le_of_ble_eq_true rfl, Nat.le_of_ble_eq_true rfl⟩ rfl hl.1 rfl (Nat.le_of_ble_eq_true rfl) (kd kX7_vehicle_0 29 rfl)) (fun H locs hP hS => ?_)
        refine lv_aload_n C.1 C.2.1 (kd kX7_vehicle_0 30 rfl) rfl (lv_at hl 0 rfl) ?_
        refine fl_get (j := 5) (v := .ref (Γ.1 145)) C hP rfl (Nat.le_of_ble_eq_true rfl) rfl inX7 (Nat.le_of_ble_eq_true rfl) tw_288 rfl (kd kX7_vehicle_0 31 rfl) ?_
        refine lv_aload_n C.1 C.2.1 (kd kX7_vehicle_0 32 rfl) rfl (lv_at hl 0 rfl) ?_
        refine fl_get (j := 0) (v := .ref (Γ.1 1)) C hP rfl (Nat.le_of_ble_eq_true rfl) rfl inX7 (Nat.le_of_ble_eq_true rfl) tw_283 rfl (kd kX7_vehicle_0 33 rfl) ?_
        refine lv_aload_n C.1 C.2.1 (kd kX7_vehicle_0 34 rfl) rfl (lv_at hl 0 rfl) ?_
        refine fl_get (j := 4) (v := .ref (Γ.1 138)) C hP rfl (Nat.le_of_ble_eq_true rfl) rfl inX7 (Nat.le_of_ble_eq_true rfl) tw_287 rfl (kd kX7_vehicle_0 35 rfl) ?_
        obtain ⟨σ4, hσ4, hf⟩ := fcallv_some hf
        refine fl_v hS (fl_runV (As := [.ref (Γ.1 1), .ref (Γ.1 138)]) (rest := []) C hP rfl (Nat.le_of_ble_eq_true rfl) rfl (m_X2_make C.2.2.2.2.2.2.2.2 l rfl hσ4) (fgV tw_612 tw_613 tw_614 tw_72 tw_615) hd_X2_make ⟨rfl, rfl, Nat.le_of_ble_eq_true rfl, Nat.le_of_ble_eq_true rfl⟩ rfl hl.1 rfl (Nat.le_of_ble_eq_true rfl) (kd kX7_vehicle_0 36 rfl)) (fun H locs hP hS => ?_)
        refine lv_aload_n C.1 C.2.1 (kd kX7_vehicle_0 37 rfl) rfl (lv_at hl 0 rfl) ?_
        refine fl_get (j := 5) (v := .ref (Γ.1 145)) C hP rfl (Nat.le_of_ble_eq_true rfl) rfl inX7 (Nat.le_of_ble_eq_true rfl) tw_288 rfl (kd kX7_vehicle_0 38 rfl) ?_
        refine lv_iload_n C.1 C.2.1 (kd kX7_vehicle_0 39 rfl) rfl (lv_at hl 1 rfl) ?_
        refine lv_iload_n C.1 C.2.1 (kd kX7_vehicle_0 40 rfl) rfl (lv_at hl 2 rfl) ?_
        obtain ⟨r5_, σ5, hσ5, hf⟩ := fcall_some hf
        refine fl_i hS (fl_runV (As := [.int x1, .int x2]) (rest := []) C hP rfl (Nat.le_of_ble_eq_true rfl) rfl (m_X2_tell C.2.2.2.2.2.2.2.2 l  hσ5) (fgV tw_671 tw_672 tw_673 tw_72 tw_674) hd_X2_tell ⟨rfl, rfl, Nat.le_of_ble_eq_true rfl, Nat.le_of_ble_eq_true rfl⟩ rfl hl.1 rfl (Nat.le_of_ble_eq_true rfl) (kd kX7_vehicle_0 41 rfl)) (fun H locs hP hS => ?_)
        exact fl_iret C hP hS hf (kd kX7_vehicle_0 42 rfl)
      have hf := fif_neg q hf
      refine lv_aload_n C.1 C.2.1 (kd kX7_vehicle_0 18 rfl) rfl (lv_at hl 0 rfl) ?_
      refine fl_get (j := 0) (v := .ref (Γ.1 1)) C hP rfl (Nat.le_of_ble_eq_true rfl) rfl inX7 (Nat.le_of_ble_eq_true rfl) tw_283 rfl (kd kX7_vehicle_0 19 rfl) ?_
      refine fl_get (j := 3) (v := .ref (Γ.1 8)) C hP rfl (Nat.le_of_ble_eq_true rfl) rfl inX3 (Nat.le_of_ble_eq_true rfl) tw_123 rfl (kd kX7_vehicle_0 20 rfl) ?_
      refine lv_iload_n C.1 C.2.1 (kd kX7_vehicle_0 21 rfl) rfl (lv_at hl 1 rfl) ?_
      refine lv_iload_n C.1 C.2.1 (kd kX7_vehicle_0 22 rfl) rfl (lv_at hl 2 rfl) ?_
      obtain ⟨r6_, σ6, hσ6, hf⟩ := fcall_some hf
      refine fl_i hS (fl_runV (As := [.int x1, .int x2]) (rest := []) C hP rfl (Nat.le_of_ble_eq_true rfl) rfl (m_X5_at C.2.2.2.2.2.2.2.2 l rfl hσ6) (fgV tw_534 tw_418 tw_419 tw_69 tw_420) hd_X5_at ⟨rfl, rfl, Nat.le_of_ble_eq_true rfl, Nat.le_of_ble_eq_true rfl⟩ rfl hl.1 rfl (Nat.le_of_ble_eq_true rfl) (kd kX7_vehicle_0 23 rfl)) (fun H locs hP hS => ?_)
      exact fl_iret C hP hS hf (kd kX7_vehicle_0 24 rfl)
    have hf := fif_neg q hf
    refine lv_sipush (v := (-10002 : Int32)) C.1 C.2.1 (kd kX7_vehicle_0 13 rfl) (by decide) ?_
    exact fl_iret C hP hS hf (kd kX7_vehicle_0 14 rfl)
  have hf := fif_pos q hf
  refine lv_sipush (v := (-10001 : Int32)) C.1 C.2.1 (kd kX7_vehicle_0 6 rfl) (by decide) ?_
  exact fl_iret C hP hS hf (kd kX7_vehicle_0 7 rfl)
def f_X7_connection (x1 : Int32) (x2 : Int32) (σ : fS) : Option (Int32 × fS) := fcall (f_X5_has 10 8 4 x1 σ) (fun r1_ σ1 => (if r1_ = 0 then some ((-10001 : Int32), σ1) else fcall (f_X7_isOutside x2 (0 : Int32) (4 : Int32) σ1) (fun r2_ σ2 => (if r2_ = 0 then (if (4 : Int32) ≤ x2 then fcallv (f_X0_make 1 σ2) (fun σ3 => fb x1 8 (some ((σ3 144 x1.toNatClampNeg), σ3))) else fcall (f_X5_at 10 8 4 x1 x2 σ2) (fun r4_ σ4 => some (r4_, σ4))) else some ((-10002 : Int32), σ2)))))
set_option maxRecDepth 100000 in
set_option maxHeartbeats 4000000 in
theorem m_X7_connection {Γ : fGm} (hI : fI Γ) (l : Launch) {x1 : Int32} {x2 : Int32} {σ : fS} {r : Int32} {σ' : fS} (hf : f_X7_connection x1 x2 σ = some (r, σ')) : Met l yX7_connection (.code yX7_connection cX7_connection 3 (some .int) :: lw_g) ({ frames := 7, cells := 0, slots := 0, locals := 165 } : Room) (fPre Γ [.ref (Γ.1 0), .int x1, .int x2] σ) (fQi Γ r σ') 0 0 (fAd Γ) := by
  refine fl_enter (own := RX7) hI (by decide +kernel) rfl (Nat.le_of_ble_eq_true rfl) ?_
  intro p e s m args below meth c ls C hl hP hS
  have hl : lv_has ls 3 [(0, .ref (Γ.1 0)), (1, .int x1), (2, .int x2)] := hl
  obtain ⟨H, hH⟩ : ∃ H, H = s.heap := ⟨_, rfl⟩
  obtain ⟨locs, hL⟩ : ∃ L : List Loc, L = [] := ⟨_, rfl⟩
  have hP : fH Γ σ H := by rw [hH]; exact hP
  have hS : va_S (fAd Γ) s.heap H locs := by rw [hH, hL]; exact hS
  suffices hw : W p l e ({ frames := 7, cells := 0, slots := 0, locals := 165 } : Room) s m args below meth c H locs 0 0 (MQ below (fQi Γ r σ') args s 0 0 (fAd Γ)) (F0 m 0 ls []) by rw [hH, hL] at hw; exact hw
  unfold f_X7_connection at hf
  refine lv_aload_n C.1 C.2.1 (kd kX7_connection_0 0 rfl) rfl (lv_at hl 0 rfl) ?_
  refine fl_get (j := 0) (v := .ref (Γ.1 1)) C hP rfl (Nat.le_of_ble_eq_true rfl) rfl inX7 (Nat.le_of_ble_eq_true rfl) tw_283 rfl (kd kX7_connection_0 1 rfl) ?_
  refine fl_get (j := 4) (v := .ref (Γ.1 10)) C hP rfl (Nat.le_of_ble_eq_true rfl) rfl inX3 (Nat.le_of_ble_eq_true rfl) tw_126 rfl (kd kX7_connection_0 2 rfl) ?_
  refine lv_iload_n C.1 C.2.1 (kd kX7_connection_0 3 rfl) rfl (lv_at hl 1 rfl) ?_
  obtain ⟨r1_, σ1, hσ1, hf⟩ := fcall_some hf
  refine fl_i hS (fl_runV (As := [.int x1]) (rest := []) C hP rfl (Nat.le_of_ble_eq_true rfl) rfl (m_X5_has C.2.2.2.2.2.2.2.2 l rfl hσ1) (fgV tw_532 tw_378 tw_379 tw_69 tw_380) hd_X5_has ⟨rfl, rfl, Nat.le_of_ble_eq_true rfl, Nat.le_of_ble_eq_true rfl⟩ rfl hl.1 rfl (Nat.le_of_ble_eq_true rfl) (kd kX7_connection_0 4 rfl)) (fun H locs hP hS => ?_)
  refine lv_if_ne (tgt := 18) C.1 C.2.1 (kd kX7_connection_0 5 rfl) (by decide) (fun q => ?_) (fun q => ?_)
  · have hf := fif_neg q hf
    refine lv_iload_n C.1 C.2.1 (kd kX7_connection_0 8 rfl) rfl (lv_at hl 2 rfl) ?_
    refine lv_iconst (v := (0 : Int32)) C.1 C.2.1 (kd kX7_connection_0 9 rfl) (by decide) ?_
    refine lv_iconst (v := (4 : Int32)) C.1 C.2.1 (kd kX7_connection_0 10 rfl) (by decide) ?_
    obtain ⟨r2_, σ2, hσ2, hf⟩ := fcall_some hf
    refine fl_i hS (fl_runS (As := [.int x2, .int (0 : Int32), .int (4 : Int32)]) (rest := []) C hP (m_X7_isOutside C.2.2.2.2.2.2.2.2 l  hσ2) (fgS tw_533 tw_334 tw_67 tw_335) hs_X7_isOutside ⟨rfl, rfl, Nat.le_of_ble_eq_true rfl, Nat.le_of_ble_eq_true rfl⟩ rfl hl.1 rfl (Nat.le_of_ble_eq_true rfl) (kd kX7_connection_0 11 rfl)) (fun H locs hP hS => ?_)
    refine lv_if_eq (tgt := 31) C.1 C.2.1 (kd kX7_connection_0 12 rfl) (by decide) (fun q => ?_) (fun q => ?_)
    · have hf := fif_pos q hf
      refine lv_iload_n C.1 C.2.1 (kd kX7_connection_0 15 rfl) rfl (lv_at hl 2 rfl) ?_
      refine lv_iconst (v := (4 : Int32)) C.1 C.2.1 (kd kX7_connection_0 16 rfl) (by decide) ?_
      refine lv_icmp_ge (tgt := 49) C.1 C.2.1 (kd kX7_connection_0 17 rfl) (by decide) (fun q => ?_) (fun q => ?_)
      · have hf := fif_pos q hf
        refine lv_aload_n C.1 C.2.1 (kd kX7_connection_0 25 rfl) rfl (lv_at hl 0 rfl) ?_
        refine fl_get (j := 4) (v := .ref (Γ.1 138)) C hP rfl (Nat.le_of_ble_eq_true rfl) rfl inX7 (Nat.le_of_ble_eq_true rfl) tw_287 rfl (kd kX7_connection_0 26 rfl) ?_
        refine lv_aload_n C.1 C.2.1 (kd kX7_connection_0 27 rfl) rfl (lv_at hl 0 rfl) ?_
        refine fl_get (j := 0) (v := .ref (Γ.1 1)) C hP rfl (Nat.le_of_ble_eq_true rfl) rfl inX7 (Nat.le_of_ble_eq_true rfl) tw_283 rfl (kd kX7_connection_0 28 rfl) ?_
        obtain ⟨σ3, hσ3, hf⟩ := fcallv_some hf
        refine fl_v hS (fl_runV (As := [.ref (Γ.1 1)]) (rest := []) C hP rfl (Nat.le_of_ble_eq_true rfl) rfl (m_X0_make C.2.2.2.2.2.2.2.2 l rfl hσ3) (fgV tw_535 tw_536 tw_537 tw_71 tw_538) hd_X0_make ⟨rfl, rfl, Nat.le_of_ble_eq_true rfl, Nat.le_of_ble_eq_true rfl⟩ rfl hl.1 rfl (Nat.le_of_ble_eq_true rfl) (kd kX7_connection_0 29 rfl)) (fun H locs hP hS => ?_)
        refine lv_aload_n C.1 C.2.1 (kd kX7_connection_0 30 rfl) rfl (lv_at hl 0 rfl) ?_
        refine fl_get (j := 4) (v := .ref (Γ.1 138)) C hP rfl (Nat.le_of_ble_eq_true rfl) rfl inX7 (Nat.le_of_ble_eq_true rfl) tw_287 rfl (kd kX7_connection_0 31 rfl) ?_
        refine fl_get (j := 5) (v := .ref (Γ.1 144)) C hP rfl (Nat.le_of_ble_eq_true rfl) rfl inX0 (Nat.le_of_ble_eq_true rfl) tw_183 rfl (kd kX7_connection_0 32 rfl) ?_
        refine lv_iload_n C.1 C.2.1 (kd kX7_connection_0 33 rfl) rfl (lv_at hl 1 rfl) ?_
        obtain ⟨hq, hf⟩ := fb_some hf
        refine fl_iald C hP rfl hq (kd kX7_connection_0 34 rfl) ?_
        exact fl_iret C hP hS hf (kd kX7_connection_0 35 rfl)
      have hf := fif_neg q hf
      refine lv_aload_n C.1 C.2.1 (kd kX7_connection_0 18 rfl) rfl (lv_at hl 0 rfl) ?_
      refine fl_get (j := 0) (v := .ref (Γ.1 1)) C hP rfl (Nat.le_of_ble_eq_true rfl) rfl inX7 (Nat.le_of_ble_eq_true rfl) tw_283 rfl (kd kX7_connection_0 19 rfl) ?_
      refine fl_get (j := 4) (v := .ref (Γ.1 10)) C hP rfl (Nat.le_of_ble_eq_true rfl) rfl inX3 (Nat.le_of_ble_eq_true rfl) tw_126 rfl (kd kX7_connection_0 20 rfl) ?_
      refine lv_iload_n C.1 C.2.1 (kd kX7_connection_0 21 rfl) rfl (lv_at hl 1 rfl) ?_
      refine lv_iload_n C.1 C.2.1 (kd kX7_connection_0 22 rfl) rfl (lv_at hl 2 rfl) ?_
      obtain ⟨r4_, σ4, hσ4, hf⟩ := fcall_some hf
      refine fl_i hS (fl_runV (As := [.int x1, .int x2]) (rest := []) C hP rfl (Nat.le_of_ble_eq_true rfl) rfl (m_X5_at C.2.2.2.2.2.2.2.2 l rfl hσ4) (fgV tw_534 tw_418 tw_419 tw_69 tw_420) hd_X5_at ⟨rfl, rfl, Nat.le_of_ble_eq_true rfl, Nat.le_of_ble_eq_true rfl⟩ rfl hl.1 rfl (Nat.le_of_ble_eq_true rfl) (kd kX7_connection_0 23 rfl)) (fun H locs hP hS => ?_)
      exact fl_iret C hP hS hf (kd kX7_connection_0 24 rfl)
    have hf := fif_neg q hf
    refine lv_sipush (v := (-10002 : Int32)) C.1 C.2.1 (kd kX7_connection_0 13 rfl) (by decide) ?_
    exact fl_iret C hP hS hf (kd kX7_connection_0 14 rfl)
  have hf := fif_pos q hf
  refine lv_sipush (v := (-10001 : Int32)) C.1 C.2.1 (kd kX7_connection_0 6 rfl) (by decide) ?_
  exact fl_iret C hP hS hf (kd kX7_connection_0 7 rfl)
def f_X7_tide (x1 : Int32) (σ : fS) : Option (Int32 × fS) := fcall (f_X5_has 12 49 1 x1 σ) (fun r1_ σ1 => (if r1_ = 0 then some ((-10001 : Int32), σ1) else fcall (f_X5_at 12 49 1 x1 (0 : Int32) σ1) (fun r2_ σ2 => some (r2_, σ2))))
set_option maxRecDepth 100000 in
set_option maxHeartbeats 4000000 in
theorem m_X7_tide {Γ : fGm} (hI : fI Γ) (l : Launch) {x1 : Int32} {σ : fS} {r : Int32} {σ' : fS} (hf : f_X7_tide x1 σ = some (r, σ')) : Met l yX7_tide (.code yX7_tide cX7_tide 2 (some .int) :: lw_g) ({ frames := 1, cells := 0, slots := 0, locals := 22 } : Room) (fPre Γ [.ref (Γ.1 0), .int x1] σ) (fQi Γ r σ') 0 0 (fAd Γ) := by
  refine fl_enter (own := RX7) hI (by decide +kernel) rfl (Nat.le_of_ble_eq_true rfl) ?_
  intro p e s m args below meth c ls C hl hP hS
  have hl : lv_has ls 2 [(0, .ref (Γ.1 0)), (1, .int x1)] := hl
  obtain ⟨H, hH⟩ : ∃ H, H = s.heap := ⟨_, rfl⟩
  obtain ⟨locs, hL⟩ : ∃ L : List Loc, L = [] := ⟨_, rfl⟩
  have hP : fH Γ σ H := by rw [hH]; exact hP
  have hS : va_S (fAd Γ) s.heap H locs := by rw [hH, hL]; exact hS
  suffices hw : W p l e ({ frames := 1, cells := 0, slots := 0, locals := 22 } : Room) s m args below meth c H locs 0 0 (MQ below (fQi Γ r σ') args s 0 0 (fAd Γ)) (F0 m 0 ls []) by rw [hH, hL] at hw; exact hw
  unfold f_X7_tide at hf
  refine lv_aload_n C.1 C.2.1 (kd kX7_tide_0 0 rfl) rfl (lv_at hl 0 rfl) ?_
  refine fl_get (j := 0) (v := .ref (Γ.1 1)) C hP rfl (Nat.le_of_ble_eq_true rfl) rfl inX7 (Nat.le_of_ble_eq_true rfl) tw_283 rfl (kd kX7_tide_0 1 rfl) ?_
  refine fl_get (j := 5) (v := .ref (Γ.1 12)) C hP rfl (Nat.le_of_ble_eq_true rfl) rfl inX3 (Nat.le_of_ble_eq_true rfl) tw_128 rfl (kd kX7_tide_0 2 rfl) ?_
  refine lv_iload_n C.1 C.2.1 (kd kX7_tide_0 3 rfl) rfl (lv_at hl 1 rfl) ?_
  obtain ⟨r1_, σ1, hσ1, hf⟩ := fcall_some hf
  refine fl_i hS (fl_runV (As := [.int x1]) (rest := []) C hP rfl (Nat.le_of_ble_eq_true rfl) rfl (m_X5_has C.2.2.2.2.2.2.2.2 l rfl hσ1) (fgV tw_532 tw_378 tw_379 tw_69 tw_380) hd_X5_has ⟨rfl, rfl, Nat.le_of_ble_eq_true rfl, Nat.le_of_ble_eq_true rfl⟩ rfl hl.1 rfl (Nat.le_of_ble_eq_true rfl) (kd kX7_tide_0 4 rfl)) (fun H locs hP hS => ?_)
  refine lv_if_eq (tgt := 29) C.1 C.2.1 (kd kX7_tide_0 5 rfl) (by decide) (fun q => ?_) (fun q => ?_)
  · have hf := fif_pos q hf
    refine lv_sipush (v := (-10001 : Int32)) C.1 C.2.1 (kd kX7_tide_0 13 rfl) (by decide) ?_
    exact fl_iret C hP hS hf (kd kX7_tide_0 14 rfl)
  have hf := fif_neg q hf
  refine lv_aload_n C.1 C.2.1 (kd kX7_tide_0 6 rfl) rfl (lv_at hl 0 rfl) ?_
  refine fl_get (j := 0) (v := .ref (Γ.1 1)) C hP rfl (Nat.le_of_ble_eq_true rfl) rfl inX7 (Nat.le_of_ble_eq_true rfl) tw_283 rfl (kd kX7_tide_0 7 rfl) ?_
  refine fl_get (j := 5) (v := .ref (Γ.1 12)) C hP rfl (Nat.le_of_ble_eq_true rfl) rfl inX3 (Nat.le_of_ble_eq_true rfl) tw_128 rfl (kd kX7_tide_0 8 rfl) ?_
  refine lv_iload_n C.1 C.2.1 (kd kX7_tide_0 9 rfl) rfl (lv_at hl 1 rfl) ?_
  refine lv_iconst (v := (0 : Int32)) C.1 C.2.1 (kd kX7_tide_0 10 rfl) (by decide) ?_
  obtain ⟨r2_, σ2, hσ2, hf⟩ := fcall_some hf
  refine fl_i hS (fl_runV (As := [.int x1, .int (0 : Int32)]) (rest := []) C hP rfl (Nat.le_of_ble_eq_true rfl) rfl (m_X5_at C.2.2.2.2.2.2.2.2 l rfl hσ2) (fgV tw_534 tw_418 tw_419 tw_69 tw_420) hd_X5_at ⟨rfl, rfl, Nat.le_of_ble_eq_true rfl, Nat.le_of_ble_eq_true rfl⟩ rfl hl.1 rfl (Nat.le_of_ble_eq_true rfl) (kd kX7_tide_0 11 rfl)) (fun H locs hP hS => ?_)
  refine lv_goto (tgt := 32) C.1 C.2.1 (kd kX7_tide_0 12 rfl) (by decide) ?_
  exact fl_iret C hP hS hf (kd kX7_tide_0 14 rfl)
def f_X7_wind (x1 : Int32) (σ : fS) : Option (Int32 × fS) := fcall (f_X5_has 14 48 1 x1 σ) (fun r1_ σ1 => (if r1_ = 0 then some ((-10001 : Int32), σ1) else fcall (f_X5_at 14 48 1 x1 (0 : Int32) σ1) (fun r2_ σ2 => some (r2_, σ2))))
set_option maxRecDepth 100000 in
set_option maxHeartbeats 4000000 in
theorem m_X7_wind {Γ : fGm} (hI : fI Γ) (l : Launch) {x1 : Int32} {σ : fS} {r : Int32} {σ' : fS} (hf : f_X7_wind x1 σ = some (r, σ')) : Met l yX7_wind (.code yX7_wind cX7_wind 2 (some .int) :: lw_g) ({ frames := 1, cells := 0, slots := 0, locals := 22 } : Room) (fPre Γ [.ref (Γ.1 0), .int x1] σ) (fQi Γ r σ') 0 0 (fAd Γ) := by
  refine fl_enter (own := RX7) hI (by decide +kernel) rfl (Nat.le_of_ble_eq_true rfl) ?_
  intro p e s m args below meth c ls C hl hP hS
  have hl : lv_has ls 2 [(0, .ref (Γ.1 0)), (1, .int x1)] := hl
  obtain ⟨H, hH⟩ : ∃ H, H = s.heap := ⟨_, rfl⟩
  obtain ⟨locs, hL⟩ : ∃ L : List Loc, L = [] := ⟨_, rfl⟩
  have hP : fH Γ σ H := by rw [hH]; exact hP
  have hS : va_S (fAd Γ) s.heap H locs := by rw [hH, hL]; exact hS
  suffices hw : W p l e ({ frames := 1, cells := 0, slots := 0, locals := 22 } : Room) s m args below meth c H locs 0 0 (MQ below (fQi Γ r σ') args s 0 0 (fAd Γ)) (F0 m 0 ls []) by rw [hH, hL] at hw; exact hw
  unfold f_X7_wind at hf
  refine lv_aload_n C.1 C.2.1 (kd kX7_wind_0 0 rfl) rfl (lv_at hl 0 rfl) ?_
  refine fl_get (j := 0) (v := .ref (Γ.1 1)) C hP rfl (Nat.le_of_ble_eq_true rfl) rfl inX7 (Nat.le_of_ble_eq_true rfl) tw_283 rfl (kd kX7_wind_0 1 rfl) ?_
  refine fl_get (j := 6) (v := .ref (Γ.1 14)) C hP rfl (Nat.le_of_ble_eq_true rfl) rfl inX3 (Nat.le_of_ble_eq_true rfl) tw_130 rfl (kd kX7_wind_0 2 rfl) ?_
  refine lv_iload_n C.1 C.2.1 (kd kX7_wind_0 3 rfl) rfl (lv_at hl 1 rfl) ?_
  obtain ⟨r1_, σ1, hσ1, hf⟩ := fcall_some hf
  refine fl_i hS (fl_runV (As := [.int x1]) (rest := []) C hP rfl (Nat.le_of_ble_eq_true rfl) rfl (m_X5_has C.2.2.2.2.2.2.2.2 l rfl hσ1) (fgV tw_532 tw_378 tw_379 tw_69 tw_380) hd_X5_has ⟨rfl, rfl, Nat.le_of_ble_eq_true rfl, Nat.le_of_ble_eq_true rfl⟩ rfl hl.1 rfl (Nat.le_of_ble_eq_true rfl) (kd kX7_wind_0 4 rfl)) (fun H locs hP hS => ?_)
  refine lv_if_eq (tgt := 29) C.1 C.2.1 (kd kX7_wind_0 5 rfl) (by decide) (fun q => ?_) (fun q => ?_)
  · have hf := fif_pos q hf
    refine lv_sipush (v := (-10001 : Int32)) C.1 C.2.1 (kd kX7_wind_0 13 rfl) (by decide) ?_
    exact fl_iret C hP hS hf (kd kX7_wind_0 14 rfl)
  have hf := fif_neg q hf
  refine lv_aload_n C.1 C.2.1 (kd kX7_wind_0 6 rfl) rfl (lv_at hl 0 rfl) ?_
  refine fl_get (j := 0) (v := .ref (Γ.1 1)) C hP rfl (Nat.le_of_ble_eq_true rfl) rfl inX7 (Nat.le_of_ble_eq_true rfl) tw_283 rfl (kd kX7_wind_0 7 rfl) ?_
  refine fl_get (j := 6) (v := .ref (Γ.1 14)) C hP rfl (Nat.le_of_ble_eq_true rfl) rfl inX3 (Nat.le_of_ble_eq_true rfl) tw_130 rfl (kd kX7_wind_0 8 rfl) ?_
  refine lv_iload_n C.1 C.2.1 (kd kX7_wind_0 9 rfl) rfl (lv_at hl 1 rfl) ?_
  refine lv_iconst (v := (0 : Int32)) C.1 C.2.1 (kd kX7_wind_0 10 rfl) (by decide) ?_
  obtain ⟨r2_, σ2, hσ2, hf⟩ := fcall_some hf
  refine fl_i hS (fl_runV (As := [.int x1, .int (0 : Int32)]) (rest := []) C hP rfl (Nat.le_of_ble_eq_true rfl) rfl (m_X5_at C.2.2.2.2.2.2.2.2 l rfl hσ2) (fgV tw_534 tw_418 tw_419 tw_69 tw_420) hd_X5_at ⟨rfl, rfl, Nat.le_of_ble_eq_true rfl, Nat.le_of_ble_eq_true rfl⟩ rfl hl.1 rfl (Nat.le_of_ble_eq_true rfl) (kd kX7_wind_0 11 rfl)) (fun H locs hP hS => ?_)
  refine lv_goto (tgt := 32) C.1 C.2.1 (kd kX7_wind_0 12 rfl) (by decide) ?_
  exact fl_iret C hP hS hf (kd kX7_wind_0 14 rfl)
def f_X7_height (x1 : Int32) (σ : fS) : Option (Int32 × fS) := fcall (f_X7_isOutside x1 (0 : Int32) (2879 : Int32) σ) (fun r1_ σ1 => (if r1_ = 0 then fcall (f_X3_floatHeightAt 1 x1 σ1) (fun r2_ σ2 => some ((FP.f2i r2_), σ2)) else some ((-10002 : Int32), σ1)))
set_option maxRecDepth 100000 in
set_option maxHeartbeats 4000000 in
theorem m_X7_height {Γ : fGm} (hI : fI Γ) (l : Launch) {x1 : Int32} {σ : fS} {r : Int32} {σ' : fS} (hf : f_X7_height x1 σ = some (r, σ')) : Met l yX7_height (.code yX7_height cX7_height 2 (some .int) :: lw_g) ({ frames := 2, cells := 0, slots := 0, locals := 46 } : Room) (fPre Γ [.ref (Γ.1 0), .int x1] σ) (fQi Γ r σ') 0 0 (fAd Γ) := by
  refine fl_enter (own := RX7) hI (by decide +kernel) rfl (Nat.le_of_ble_eq_true rfl) ?_
  intro p e s m args below meth c ls C hl hP hS
  have hl : lv_has ls 2 [(0, .ref (Γ.1 0)), (1, .int x1)] := hl
  obtain ⟨H, hH⟩ : ∃ H, H = s.heap := ⟨_, rfl⟩
  obtain ⟨locs, hL⟩ : ∃ L : List Loc, L = [] := ⟨_, rfl⟩
  have hP : fH Γ σ H := by rw [hH]; exact hP
  have hS : va_S (fAd Γ) s.heap H locs := by rw [hH, hL]; exact hS
  suffices hw : W p l e ({ frames := 2, cells := 0, slots := 0, locals := 46 } : Room) s m args below meth c H locs 0 0 (MQ below (fQi Γ r σ') args s 0 0 (fAd Γ)) (F0 m 0 ls []) by rw [hH, hL] at hw; exact hw
  unfold f_X7_height at hf
  refine lv_iload_n C.1 C.2.1 (kd kX7_height_0 0 rfl) rfl (lv_at hl 1 rfl) ?_
  refine lv_iconst (v := (0 : Int32)) C.1 C.2.1 (kd kX7_height_0 1 rfl) (by decide) ?_
  refine lv_sipush (v := (2879 : Int32)) C.1 C.2.1 (kd kX7_height_0 2 rfl) (by decide) ?_
  obtain ⟨r1_, σ1, hσ1, hf⟩ := fcall_some hf
  refine fl_i hS (fl_runS (As := [.int x1, .int (0 : Int32), .int (2879 : Int32)]) (rest := []) C hP (m_X7_isOutside C.2.2.2.2.2.2.2.2 l  hσ1) (fgS tw_533 tw_334 tw_67 tw_335) hs_X7_isOutside ⟨rfl, rfl, Nat.le_of_ble_eq_true rfl, Nat.le_of_ble_eq_true rfl⟩ rfl hl.1 rfl (Nat.le_of_ble_eq_true rfl) (kd kX7_height_0 3 rfl)) (fun H locs hP hS => ?_)
  refine lv_if_eq (tgt := 17) C.1 C.2.1 (kd kX7_height_0 4 rfl) (by decide) (fun q => ?_) (fun q => ?_)
  · have hf := fif_pos q hf
    refine lv_aload_n C.1 C.2.1 (kd kX7_height_0 7 rfl) rfl (lv_at hl 0 rfl) ?_
    refine fl_get (j := 0) (v := .ref (Γ.1 1)) C hP rfl (Nat.le_of_ble_eq_true rfl) rfl inX7 (Nat.le_of_ble_eq_true rfl) tw_283 rfl (kd kX7_height_0 8 rfl) ?_
    refine lv_iload_n C.1 C.2.1 (kd kX7_height_0 9 rfl) rfl (lv_at hl 1 rfl) ?_
    obtain ⟨r2_, σ2, hσ2, hf⟩ := fcall_some hf
    refine fl_f hS (fl_runV (As := [.int x1]) (rest := []) C hP rfl (Nat.le_of_ble_eq_true rfl) rfl (m_X3_floatHeightAt C.2.2.2.2.2.2.2.2 l rfl hσ2) (fgV tw_691 tw_571 tw_572 tw_68 tw_573) hd_X3_floatHeightAt ⟨rfl, rfl, Nat.le_of_ble_eq_true rfl, Nat.le_of_ble_eq_true rfl⟩ rfl hl.1 rfl (Nat.le_of_ble_eq_true rfl) (kd kX7_height_0 10 rfl)) (fun H locs hP hS => ?_)
    refine lv_f2i C.1 C.2.1 (kd kX7_height_0 11 rfl) ?_
    exact fl_iret C hP hS hf (kd kX7_height_0 12 rfl)
  have hf := fif_neg q hf
  refine lv_sipush (v := (-10002 : Int32)) C.1 C.2.1 (kd kX7_height_0 5 rfl) (by decide) ?_
  refine lv_goto (tgt := 26) C.1 C.2.1 (kd kX7_height_0 6 rfl) (by decide) ?_
  exact fl_iret C hP hS hf (kd kX7_height_0 12 rfl)
def f_X7_heightBits (x1 : Int32) (σ : fS) : Option (Int32 × fS) := fcall (f_X7_isOutside x1 (0 : Int32) (2879 : Int32) σ) (fun r1_ σ1 => (if r1_ = 0 then fcall (f_X3_floatHeightAt 1 x1 σ1) (fun r2_ σ2 => fcall (f_X7_bitsOf r2_ σ2) (fun r3_ σ3 => some (r3_, σ3))) else some ((1 : Int32), σ1)))
set_option maxRecDepth 100000 in
set_option maxHeartbeats 4000000 in
theorem m_X7_heightBits {Γ : fGm} (hI : fI Γ) (l : Launch) {x1 : Int32} {σ : fS} {r : Int32} {σ' : fS} (hf : f_X7_heightBits x1 σ = some (r, σ')) : Met l yX7_heightBits (.code yX7_heightBits cX7_heightBits 2 (some .int) :: lw_g) ({ frames := 2, cells := 0, slots := 0, locals := 46 } : Room) (fPre Γ [.ref (Γ.1 0), .int x1] σ) (fQi Γ r σ') 0 0 (fAd Γ) := by
  refine fl_enter (own := RX7) hI (by decide +kernel) rfl (Nat.le_of_ble_eq_true rfl) ?_
  intro p e s m args below meth c ls C hl hP hS
  have hl : lv_has ls 2 [(0, .ref (Γ.1 0)), (1, .int x1)] := hl
  obtain ⟨H, hH⟩ : ∃ H, H = s.heap := ⟨_, rfl⟩
  obtain ⟨locs, hL⟩ : ∃ L : List Loc, L = [] := ⟨_, rfl⟩
  have hP : fH Γ σ H := by rw [hH]; exact hP
  have hS : va_S (fAd Γ) s.heap H locs := by rw [hH, hL]; exact hS
  suffices hw : W p l e ({ frames := 2, cells := 0, slots := 0, locals := 46 } : Room) s m args below meth c H locs 0 0 (MQ below (fQi Γ r σ') args s 0 0 (fAd Γ)) (F0 m 0 ls []) by rw [hH, hL] at hw; exact hw
  unfold f_X7_heightBits at hf
  refine lv_iload_n C.1 C.2.1 (kd kX7_heightBits_0 0 rfl) rfl (lv_at hl 1 rfl) ?_
  refine lv_iconst (v := (0 : Int32)) C.1 C.2.1 (kd kX7_heightBits_0 1 rfl) (by decide) ?_
  refine lv_sipush (v := (2879 : Int32)) C.1 C.2.1 (kd kX7_heightBits_0 2 rfl) (by decide) ?_
  obtain ⟨r1_, σ1, hσ1, hf⟩ := fcall_some hf
  refine fl_i hS (fl_runS (As := [.int x1, .int (0 : Int32), .int (2879 : Int32)]) (rest := []) C hP (m_X7_isOutside C.2.2.2.2.2.2.2.2 l  hσ1) (fgS tw_533 tw_334 tw_67 tw_335) hs_X7_isOutside ⟨rfl, rfl, Nat.le_of_ble_eq_true rfl, Nat.le_of_ble_eq_true rfl⟩ rfl hl.1 rfl (Nat.le_of_ble_eq_true rfl) (kd kX7_heightBits_0 3 rfl)) (fun H locs hP hS => ?_)
  refine lv_if_eq (tgt := 15) C.1 C.2.1 (kd kX7_heightBits_0 4 rfl) (by decide) (fun q => ?_) (fun q => ?_)
  · have hf := fif_pos q hf
    refine lv_aload_n C.1 C.2.1 (kd kX7_heightBits_0 7 rfl) rfl (lv_at hl 0 rfl) ?_
    refine fl_get (j := 0) (v := .ref (Γ.1 1)) C hP rfl (Nat.le_of_ble_eq_true rfl) rfl inX7 (Nat.le_of_ble_eq_true rfl) tw_283 rfl (kd kX7_heightBits_0 8 rfl) ?_
    refine lv_iload_n C.1 C.2.1 (kd kX7_heightBits_0 9 rfl) rfl (lv_at hl 1 rfl) ?_
    obtain ⟨r2_, σ2, hσ2, hf⟩ := fcall_some hf
    refine fl_f hS (fl_runV (As := [.int x1]) (rest := []) C hP rfl (Nat.le_of_ble_eq_true rfl) rfl (m_X3_floatHeightAt C.2.2.2.2.2.2.2.2 l rfl hσ2) (fgV tw_691 tw_571 tw_572 tw_68 tw_573) hd_X3_floatHeightAt ⟨rfl, rfl, Nat.le_of_ble_eq_true rfl, Nat.le_of_ble_eq_true rfl⟩ rfl hl.1 rfl (Nat.le_of_ble_eq_true rfl) (kd kX7_heightBits_0 10 rfl)) (fun H locs hP hS => ?_)
    obtain ⟨r3_, σ3, hσ3, hf⟩ := fcall_some hf
    refine fl_i hS (fl_runS (As := [.float r2_]) (rest := []) C hP (m_X7_bitsOf C.2.2.2.2.2.2.2.2 l  hσ3) (fgS tw_696 tw_697 tw_67 tw_698) hs_X7_bitsOf ⟨rfl, rfl, Nat.le_of_ble_eq_true rfl, Nat.le_of_ble_eq_true rfl⟩ rfl hl.1 rfl (Nat.le_of_ble_eq_true rfl) (kd kX7_heightBits_0 11 rfl)) (fun H locs hP hS => ?_)
    exact fl_iret C hP hS hf (kd kX7_heightBits_0 12 rfl)
  have hf := fif_neg q hf
  refine lv_iconst (v := (1 : Int32)) C.1 C.2.1 (kd kX7_heightBits_0 5 rfl) (by decide) ?_
  refine lv_goto (tgt := 26) C.1 C.2.1 (kd kX7_heightBits_0 6 rfl) (by decide) ?_
  exact fl_iret C hP hS hf (kd kX7_heightBits_0 12 rfl)
def f_X7_water (x1 : Int32) (x2 : Int32) (σ : fS) : Option (Int32 × fS) := fcall (f_X5_has 4 3 2 x1 σ) (fun r1_ σ1 => (if r1_ = 0 then some ((-10001 : Int32), σ1) else fcall (f_X7_isOutside x2 (0 : Int32) (2879 : Int32) σ1) (fun r2_ σ2 => (if r2_ = 0 then fcall (f_X3_waterAt 1 x1 x2 σ2) (fun r3_ σ3 => some (r3_, σ3)) else some ((-10002 : Int32), σ2)))))
set_option maxRecDepth 100000 in
set_option maxHeartbeats 4000000 in
theorem m_X7_water {Γ : fGm} (hI : fI Γ) (l : Launch) {x1 : Int32} {x2 : Int32} {σ : fS} {r : Int32} {σ' : fS} (hf : f_X7_water x1 x2 σ = some (r, σ')) : Met l yX7_water (.code yX7_water cX7_water 3 (some .int) :: lw_g) ({ frames := 3, cells := 0, slots := 0, locals := 68 } : Room) (fPre Γ [.ref (Γ.1 0), .int x1, .int x2] σ) (fQi Γ r σ') 0 0 (fAd Γ) := by
  refine fl_enter (own := RX7) hI (by decide +kernel) rfl (Nat.le_of_ble_eq_true rfl) ?_
  intro p e s m args below meth c ls C hl hP hS
  have hl : lv_has ls 3 [(0, .ref (Γ.1 0)), (1, .int x1), (2, .int x2)] := hl
  obtain ⟨H, hH⟩ : ∃ H, H = s.heap := ⟨_, rfl⟩
  obtain ⟨locs, hL⟩ : ∃ L : List Loc, L = [] := ⟨_, rfl⟩
  have hP : fH Γ σ H := by rw [hH]; exact hP
  have hS : va_S (fAd Γ) s.heap H locs := by rw [hH, hL]; exact hS
  suffices hw : W p l e ({ frames := 3, cells := 0, slots := 0, locals := 68 } : Room) s m args below meth c H locs 0 0 (MQ below (fQi Γ r σ') args s 0 0 (fAd Γ)) (F0 m 0 ls []) by rw [hH, hL] at hw; exact hw
  unfold f_X7_water at hf
  refine lv_aload_n C.1 C.2.1 (kd kX7_water_0 0 rfl) rfl (lv_at hl 0 rfl) ?_
  refine fl_get (j := 0) (v := .ref (Γ.1 1)) C hP rfl (Nat.le_of_ble_eq_true rfl) rfl inX7 (Nat.le_of_ble_eq_true rfl) tw_283 rfl (kd kX7_water_0 1 rfl) ?_
  refine fl_get (j := 1) (v := .ref (Γ.1 4)) C hP rfl (Nat.le_of_ble_eq_true rfl) rfl inX3 (Nat.le_of_ble_eq_true rfl) tw_116 rfl (kd kX7_water_0 2 rfl) ?_
  refine lv_iload_n C.1 C.2.1 (kd kX7_water_0 3 rfl) rfl (lv_at hl 1 rfl) ?_
  obtain ⟨r1_, σ1, hσ1, hf⟩ := fcall_some hf
  refine fl_i hS (fl_runV (As := [.int x1]) (rest := []) C hP rfl (Nat.le_of_ble_eq_true rfl) rfl (m_X5_has C.2.2.2.2.2.2.2.2 l rfl hσ1) (fgV tw_532 tw_378 tw_379 tw_69 tw_380) hd_X5_has ⟨rfl, rfl, Nat.le_of_ble_eq_true rfl, Nat.le_of_ble_eq_true rfl⟩ rfl hl.1 rfl (Nat.le_of_ble_eq_true rfl) (kd kX7_water_0 4 rfl)) (fun H locs hP hS => ?_)
  refine lv_if_ne (tgt := 18) C.1 C.2.1 (kd kX7_water_0 5 rfl) (by decide) (fun q => ?_) (fun q => ?_)
  · have hf := fif_neg q hf
    refine lv_iload_n C.1 C.2.1 (kd kX7_water_0 8 rfl) rfl (lv_at hl 2 rfl) ?_
    refine lv_iconst (v := (0 : Int32)) C.1 C.2.1 (kd kX7_water_0 9 rfl) (by decide) ?_
    refine lv_sipush (v := (2879 : Int32)) C.1 C.2.1 (kd kX7_water_0 10 rfl) (by decide) ?_
    obtain ⟨r2_, σ2, hσ2, hf⟩ := fcall_some hf
    refine fl_i hS (fl_runS (As := [.int x2, .int (0 : Int32), .int (2879 : Int32)]) (rest := []) C hP (m_X7_isOutside C.2.2.2.2.2.2.2.2 l  hσ2) (fgS tw_533 tw_334 tw_67 tw_335) hs_X7_isOutside ⟨rfl, rfl, Nat.le_of_ble_eq_true rfl, Nat.le_of_ble_eq_true rfl⟩ rfl hl.1 rfl (Nat.le_of_ble_eq_true rfl) (kd kX7_water_0 11 rfl)) (fun H locs hP hS => ?_)
    refine lv_if_eq (tgt := 35) C.1 C.2.1 (kd kX7_water_0 12 rfl) (by decide) (fun q => ?_) (fun q => ?_)
    · have hf := fif_pos q hf
      refine lv_aload_n C.1 C.2.1 (kd kX7_water_0 15 rfl) rfl (lv_at hl 0 rfl) ?_
      refine fl_get (j := 0) (v := .ref (Γ.1 1)) C hP rfl (Nat.le_of_ble_eq_true rfl) rfl inX7 (Nat.le_of_ble_eq_true rfl) tw_283 rfl (kd kX7_water_0 16 rfl) ?_
      refine lv_iload_n C.1 C.2.1 (kd kX7_water_0 17 rfl) rfl (lv_at hl 1 rfl) ?_
      refine lv_iload_n C.1 C.2.1 (kd kX7_water_0 18 rfl) rfl (lv_at hl 2 rfl) ?_
      obtain ⟨r3_, σ3, hσ3, hf⟩ := fcall_some hf
      refine fl_i hS (fl_runV (As := [.int x1, .int x2]) (rest := []) C hP rfl (Nat.le_of_ble_eq_true rfl) rfl (m_X3_waterAt C.2.2.2.2.2.2.2.2 l rfl hσ3) (fgV tw_706 tw_567 tw_568 tw_68 tw_569) hd_X3_waterAt ⟨rfl, rfl, Nat.le_of_ble_eq_true rfl, Nat.le_of_ble_eq_true rfl⟩ rfl hl.1 rfl (Nat.le_of_ble_eq_true rfl) (kd kX7_water_0 19 rfl)) (fun H locs hP hS => ?_)
      exact fl_iret C hP hS hf (kd kX7_water_0 20 rfl)
    have hf := fif_neg q hf
    refine lv_sipush (v := (-10002 : Int32)) C.1 C.2.1 (kd kX7_water_0 13 rfl) (by decide) ?_
    refine lv_goto (tgt := 44) C.1 C.2.1 (kd kX7_water_0 14 rfl) (by decide) ?_
    exact fl_iret C hP hS hf (kd kX7_water_0 20 rfl)
  have hf := fif_pos q hf
  refine lv_sipush (v := (-10001 : Int32)) C.1 C.2.1 (kd kX7_water_0 6 rfl) (by decide) ?_
  exact fl_iret C hP hS hf (kd kX7_water_0 7 rfl)
def f_X7_firstTime_b50 : Nat → Int32 → Int32 → Int32 → fS → Option (Int32 × fS)
  | 0, _, _, _, _ => none
  | n_ + 1, v1, v2, v4, σ => (if (2879 : Int32) < v4 then some ((-10004 : Int32), σ) else fcall (f_X3_isDeepEnough 1 v1 v2 v4 σ) (fun r1_ σ1 => (if r1_ = 0 then (fun v1 v2 v4 σ => f_X7_firstTime_b50 n_ v1 v2 v4 σ) (v1) (v2) ((v4 + (1 : Int32))) σ1 else some (v4, σ1))))
set_option maxRecDepth 100000 in
set_option maxHeartbeats 4000000 in
theorem w_X7_firstTime_b50 {r : Int32} {σ' : fS}  (C : fC Γ p s m args meth c cX7_firstTime (some .int) RX7 5) : ∀ (n_ : Nat) (v1 : Int32) (v2 : Int32) (v4 : Int32) (σ : fS) (H : Heap) (locs : List Loc) (ls : Array Slot), f_X7_firstTime_b50 n_ v1 v2 v4 σ = some (r, σ') → fH Γ σ H → va_S (fAd Γ) s.heap H locs → lv_has ls 5 [(0, .ref (Γ.1 0)), (1, .int v1), (2, .int v2), (4, .int v4)] → W p l e ({ frames := 4, cells := 0, slots := 0, locals := 91 } : Room) s m args below meth c H locs 0 0 (MQ below (fQi Γ r σ') args s 0 0 (fAd Γ)) (F0 m 50 ls []) := by
  intro n_
  induction n_ with
  | zero =>
    intro v1 v2 v4 σ H locs ls hf
    cases hf
  | succ n_ ih =>
    intro v1 v2 v4 σ H locs ls hf hP hS hl
    have hf : (if (2879 : Int32) < v4 then some ((-10004 : Int32), σ) else fcall (f_X3_isDeepEnough 1 v1 v2 v4 σ) (fun r1_ σ1 => (if r1_ = 0 then (fun v1 v2 v4 σ => f_X7_firstTime_b50 n_ v1 v2 v4 σ) (v1) (v2) ((v4 + (1 : Int32))) σ1 else some (v4, σ1)))) = some (r, σ') := hf
    have hK50 := ih
    refine lv_iload C.1 C.2.1 (kd kX7_firstTime_0 23 rfl) (lv_at hl 3 rfl) ?_
    refine lv_sipush (v := (2879 : Int32)) C.1 C.2.1 (kd kX7_firstTime_0 24 rfl) (by decide) ?_
    refine lv_icmp_gt (tgt := 81) C.1 C.2.1 (kd kX7_firstTime_0 25 rfl) (by decide) (fun q => ?_) (fun q => ?_)
    · have hf := fif_pos q hf
      refine lv_sipush (v := (-10004 : Int32)) C.1 C.2.1 (kd kX7_firstTime_0 37 rfl) (by decide) ?_
      exact fl_iret C hP hS hf (kd kX7_firstTime_0 38 rfl)
    have hf := fif_neg q hf
    refine lv_aload_n C.1 C.2.1 (kd kX7_firstTime_0 26 rfl) rfl (lv_at hl 0 rfl) ?_
    refine fl_get (j := 0) (v := .ref (Γ.1 1)) C hP rfl (Nat.le_of_ble_eq_true rfl) rfl inX7 (Nat.le_of_ble_eq_true rfl) tw_283 rfl (kd kX7_firstTime_0 27 rfl) ?_
    refine lv_iload_n C.1 C.2.1 (kd kX7_firstTime_0 28 rfl) rfl (lv_at hl 1 rfl) ?_
    refine lv_iload_n C.1 C.2.1 (kd kX7_firstTime_0 29 rfl) rfl (lv_at hl 2 rfl) ?_
    refine lv_iload C.1 C.2.1 (kd kX7_firstTime_0 30 rfl) (lv_at hl 3 rfl) ?_
    obtain ⟨r1_, σ1, hσ1, hf⟩ := fcall_some hf
    refine fl_i hS (fl_runV (As := [.int v1, .int v2, .int v4]) (rest := []) C hP rfl (Nat.le_of_ble_eq_true rfl) rfl (m_X3_isDeepEnough C.2.2.2.2.2.2.2.2 l rfl hσ1) (fgV tw_711 tw_563 tw_564 tw_68 tw_565) hd_X3_isDeepEnough ⟨rfl, rfl, Nat.le_of_ble_eq_true rfl, Nat.le_of_ble_eq_true rfl⟩ rfl hl.1 rfl (Nat.le_of_ble_eq_true rfl) (kd kX7_firstTime_0 31 rfl)) (fun H locs hP hS => ?_)
    refine lv_if_eq (tgt := 75) C.1 C.2.1 (kd kX7_firstTime_0 32 rfl) (by decide) (fun q => ?_) (fun q => ?_)
    · have hf := fif_pos q hf
      refine lv_iinc (v := (v4 + (1 : Int32))) (lv' := [(4, .int (v4 + (1 : Int32))), (0, .ref (Γ.1 0)), (1, .int v1), (2, .int v2)]) C.1 C.2.1 (kd kX7_firstTime_0 35 rfl) hl (k := 3) rfl rfl (Nat.le_of_ble_eq_true rfl) rfl (fun ls hl => ?_)
      refine lv_goto (tgt := 50) C.1 C.2.1 (kd kX7_firstTime_0 36 rfl) (by decide) ?_
      exact hK50 (v1) (v2) ((v4 + (1 : Int32))) σ1 H locs ls hf hP hS (lv_sub hl [1, 2, 3, 0] rfl)
    have hf := fif_neg q hf
    refine lv_iload C.1 C.2.1 (kd kX7_firstTime_0 33 rfl) (lv_at hl 3 rfl) ?_
    exact fl_iret C hP hS hf (kd kX7_firstTime_0 34 rfl)
def f_X7_firstTime (x1 : Int32) (x2 : Int32) (x3 : Int32) (σ : fS) : Option (Int32 × fS) := fcall (f_X5_has 4 3 2 x1 σ) (fun r1_ σ1 => (if r1_ = 0 then some ((-10001 : Int32), σ1) else fcall (f_X5_has 2 4 4 x2 σ1) (fun r2_ σ2 => (if r2_ = 0 then some ((-10001 : Int32), σ2) else fcall (f_X7_isOutside x3 (0 : Int32) (2879 : Int32) σ2) (fun r3_ σ3 => (if r3_ = 0 then f_X7_firstTime_b50 fN (x1) (x2) (x3) σ3 else some ((-10002 : Int32), σ3)))))))
set_option maxRecDepth 100000 in
set_option maxHeartbeats 4000000 in
theorem m_X7_firstTime {Γ : fGm} (hI : fI Γ) (l : Launch) {x1 : Int32} {x2 : Int32} {x3 : Int32} {σ : fS} {r : Int32} {σ' : fS} (hf : f_X7_firstTime x1 x2 x3 σ = some (r, σ')) : Met l yX7_firstTime (.code yX7_firstTime cX7_firstTime 5 (some .int) :: lw_g) ({ frames := 4, cells := 0, slots := 0, locals := 91 } : Room) (fPre Γ [.ref (Γ.1 0), .int x1, .int x2, .int x3] σ) (fQi Γ r σ') 0 0 (fAd Γ) := by
  refine fl_enter (own := RX7) hI (by decide +kernel) rfl (Nat.le_of_ble_eq_true rfl) ?_
  intro p e s m args below meth c ls C hl hP hS
  have hl : lv_has ls 5 [(0, .ref (Γ.1 0)), (1, .int x1), (2, .int x2), (3, .int x3)] := hl
  obtain ⟨H, hH⟩ : ∃ H, H = s.heap := ⟨_, rfl⟩
  obtain ⟨locs, hL⟩ : ∃ L : List Loc, L = [] := ⟨_, rfl⟩
  have hP : fH Γ σ H := by rw [hH]; exact hP
  have hS : va_S (fAd Γ) s.heap H locs := by rw [hH, hL]; exact hS
  suffices hw : W p l e ({ frames := 4, cells := 0, slots := 0, locals := 91 } : Room) s m args below meth c H locs 0 0 (MQ below (fQi Γ r σ') args s 0 0 (fAd Γ)) (F0 m 0 ls []) by rw [hH, hL] at hw; exact hw
  unfold f_X7_firstTime at hf
  refine lv_aload_n C.1 C.2.1 (kd kX7_firstTime_0 0 rfl) rfl (lv_at hl 0 rfl) ?_
  refine fl_get (j := 0) (v := .ref (Γ.1 1)) C hP rfl (Nat.le_of_ble_eq_true rfl) rfl inX7 (Nat.le_of_ble_eq_true rfl) tw_283 rfl (kd kX7_firstTime_0 1 rfl) ?_
  refine fl_get (j := 1) (v := .ref (Γ.1 4)) C hP rfl (Nat.le_of_ble_eq_true rfl) rfl inX3 (Nat.le_of_ble_eq_true rfl) tw_116 rfl (kd kX7_firstTime_0 2 rfl) ?_
  refine lv_iload_n C.1 C.2.1 (kd kX7_firstTime_0 3 rfl) rfl (lv_at hl 1 rfl) ?_
  obtain ⟨r1_, σ1, hσ1, hf⟩ := fcall_some hf
  refine fl_i hS (fl_runV (As := [.int x1]) (rest := []) C hP rfl (Nat.le_of_ble_eq_true rfl) rfl (m_X5_has C.2.2.2.2.2.2.2.2 l rfl hσ1) (fgV tw_532 tw_378 tw_379 tw_69 tw_380) hd_X5_has ⟨rfl, rfl, Nat.le_of_ble_eq_true rfl, Nat.le_of_ble_eq_true rfl⟩ rfl hl.1 rfl (Nat.le_of_ble_eq_true rfl) (kd kX7_firstTime_0 4 rfl)) (fun H locs hP hS => ?_)
  refine lv_if_eq (tgt := 28) C.1 C.2.1 (kd kX7_firstTime_0 5 rfl) (by decide) (fun q => ?_) (fun q => ?_)
  · have hf := fif_pos q hf
    refine lv_sipush (v := (-10001 : Int32)) C.1 C.2.1 (kd kX7_firstTime_0 12 rfl) (by decide) ?_
    exact fl_iret C hP hS hf (kd kX7_firstTime_0 13 rfl)
  have hf := fif_neg q hf
  refine lv_aload_n C.1 C.2.1 (kd kX7_firstTime_0 6 rfl) rfl (lv_at hl 0 rfl) ?_
  refine fl_get (j := 0) (v := .ref (Γ.1 1)) C hP rfl (Nat.le_of_ble_eq_true rfl) rfl inX7 (Nat.le_of_ble_eq_true rfl) tw_283 rfl (kd kX7_firstTime_0 7 rfl) ?_
  refine fl_get (j := 0) (v := .ref (Γ.1 2)) C hP rfl (Nat.le_of_ble_eq_true rfl) rfl inX3 (Nat.le_of_ble_eq_true rfl) tw_114 rfl (kd kX7_firstTime_0 8 rfl) ?_
  refine lv_iload_n C.1 C.2.1 (kd kX7_firstTime_0 9 rfl) rfl (lv_at hl 2 rfl) ?_
  obtain ⟨r2_, σ2, hσ2, hf⟩ := fcall_some hf
  refine fl_i hS (fl_runV (As := [.int x2]) (rest := []) C hP rfl (Nat.le_of_ble_eq_true rfl) rfl (m_X5_has C.2.2.2.2.2.2.2.2 l rfl hσ2) (fgV tw_532 tw_378 tw_379 tw_69 tw_380) hd_X5_has ⟨rfl, rfl, Nat.le_of_ble_eq_true rfl, Nat.le_of_ble_eq_true rfl⟩ rfl hl.1 rfl (Nat.le_of_ble_eq_true rfl) (kd kX7_firstTime_0 10 rfl)) (fun H locs hP hS => ?_)
  refine lv_if_ne (tgt := 32) C.1 C.2.1 (kd kX7_firstTime_0 11 rfl) (by decide) (fun q => ?_) (fun q => ?_)
  · have hf := fif_neg q hf
    refine lv_iload_n C.1 C.2.1 (kd kX7_firstTime_0 14 rfl) rfl (lv_at hl 3 rfl) ?_
    refine lv_iconst (v := (0 : Int32)) C.1 C.2.1 (kd kX7_firstTime_0 15 rfl) (by decide) ?_
    refine lv_sipush (v := (2879 : Int32)) C.1 C.2.1 (kd kX7_firstTime_0 16 rfl) (by decide) ?_
    obtain ⟨r3_, σ3, hσ3, hf⟩ := fcall_some hf
    refine fl_i hS (fl_runS (As := [.int x3, .int (0 : Int32), .int (2879 : Int32)]) (rest := []) C hP (m_X7_isOutside C.2.2.2.2.2.2.2.2 l  hσ3) (fgS tw_533 tw_334 tw_67 tw_335) hs_X7_isOutside ⟨rfl, rfl, Nat.le_of_ble_eq_true rfl, Nat.le_of_ble_eq_true rfl⟩ rfl hl.1 rfl (Nat.le_of_ble_eq_true rfl) (kd kX7_firstTime_0 17 rfl)) (fun H locs hP hS => ?_)
    refine lv_if_eq (tgt := 47) C.1 C.2.1 (kd kX7_firstTime_0 18 rfl) (by decide) (fun q => ?_) (fun q => ?_)
    · have hf := fif_pos q hf
      refine lv_iload_n C.1 C.2.1 (kd kX7_firstTime_0 21 rfl) rfl (lv_at hl 3 rfl) ?_
      refine lv_istore (lv' := [(4, .int x3), (0, .ref (Γ.1 0)), (1, .int x1), (2, .int x2), (3, .int x3)]) C.1 C.2.1 (kd kX7_firstTime_0 22 rfl) hl (Nat.le_of_ble_eq_true rfl) rfl (fun ls hl => ?_)
      exact w_X7_firstTime_b50 C fN (x1) (x2) (x3) σ3 H locs ls hf hP hS (lv_sub hl [1, 2, 3, 0] rfl)
    have hf := fif_neg q hf
    refine lv_sipush (v := (-10002 : Int32)) C.1 C.2.1 (kd kX7_firstTime_0 19 rfl) (by decide) ?_
    exact fl_iret C hP hS hf (kd kX7_firstTime_0 20 rfl)
  have hf := fif_pos q hf
  refine lv_sipush (v := (-10001 : Int32)) C.1 C.2.1 (kd kX7_firstTime_0 12 rfl) (by decide) ?_
  exact fl_iret C hP hS hf (kd kX7_firstTime_0 13 rfl)
def f_X7_laneLeft (x1 : Int32) (x2 : Int32) (σ : fS) : Option (Int32 × fS) := fcall (f_X3_hasLane 1 x1 x2 σ) (fun r1_ σ1 => (if r1_ = 0 then some ((-10001 : Int32), σ1) else fcallv (f_X0_make 1 σ1) (fun σ2 => fcall (f_X0_sails x1 σ2) (fun r3_ σ3 => (if r3_ = 0 then some ((-10005 : Int32), σ3) else fcallv (f_X2_make 1 σ3) (fun σ4 => fb ((x1 * (4 : Int32)) + x2) 48 (some ((σ4 147 ((x1 * (4 : Int32)) + x2).toNatClampNeg), σ4))))))))
set_option maxRecDepth 100000 in
set_option maxHeartbeats 4000000 in
theorem m_X7_laneLeft {Γ : fGm} (hI : fI Γ) (l : Launch) {x1 : Int32} {x2 : Int32} {σ : fS} {r : Int32} {σ' : fS} (hf : f_X7_laneLeft x1 x2 σ = some (r, σ')) : Met l yX7_laneLeft (.code yX7_laneLeft cX7_laneLeft 3 (some .int) :: lw_g) ({ frames := 7, cells := 0, slots := 0, locals := 165 } : Room) (fPre Γ [.ref (Γ.1 0), .int x1, .int x2] σ) (fQi Γ r σ') 0 0 (fAd Γ) := by
  refine fl_enter (own := RX7) hI (by decide +kernel) rfl (Nat.le_of_ble_eq_true rfl) ?_
  intro p e s m args below meth c ls C hl hP hS
  have hl : lv_has ls 3 [(0, .ref (Γ.1 0)), (1, .int x1), (2, .int x2)] := hl
  obtain ⟨H, hH⟩ : ∃ H, H = s.heap := ⟨_, rfl⟩
  obtain ⟨locs, hL⟩ : ∃ L : List Loc, L = [] := ⟨_, rfl⟩
  have hP : fH Γ σ H := by rw [hH]; exact hP
  have hS : va_S (fAd Γ) s.heap H locs := by rw [hH, hL]; exact hS
  suffices hw : W p l e ({ frames := 7, cells := 0, slots := 0, locals := 165 } : Room) s m args below meth c H locs 0 0 (MQ below (fQi Γ r σ') args s 0 0 (fAd Γ)) (F0 m 0 ls []) by rw [hH, hL] at hw; exact hw
  unfold f_X7_laneLeft at hf
  refine lv_aload_n C.1 C.2.1 (kd kX7_laneLeft_0 0 rfl) rfl (lv_at hl 0 rfl) ?_
  refine fl_get (j := 0) (v := .ref (Γ.1 1)) C hP rfl (Nat.le_of_ble_eq_true rfl) rfl inX7 (Nat.le_of_ble_eq_true rfl) tw_283 rfl (kd kX7_laneLeft_0 1 rfl) ?_
  refine lv_iload_n C.1 C.2.1 (kd kX7_laneLeft_0 2 rfl) rfl (lv_at hl 1 rfl) ?_
  refine lv_iload_n C.1 C.2.1 (kd kX7_laneLeft_0 3 rfl) rfl (lv_at hl 2 rfl) ?_
  obtain ⟨r1_, σ1, hσ1, hf⟩ := fcall_some hf
  refine fl_i hS (fl_runV (As := [.int x1, .int x2]) (rest := []) C hP rfl (Nat.le_of_ble_eq_true rfl) rfl (m_X3_hasLane C.2.2.2.2.2.2.2.2 l rfl hσ1) (fgV tw_716 tw_717 tw_718 tw_68 tw_719) hd_X3_hasLane ⟨rfl, rfl, Nat.le_of_ble_eq_true rfl, Nat.le_of_ble_eq_true rfl⟩ rfl hl.1 rfl (Nat.le_of_ble_eq_true rfl) (kd kX7_laneLeft_0 4 rfl)) (fun H locs hP hS => ?_)
  refine lv_if_ne (tgt := 16) C.1 C.2.1 (kd kX7_laneLeft_0 5 rfl) (by decide) (fun q => ?_) (fun q => ?_)
  · have hf := fif_neg q hf
    refine lv_aload_n C.1 C.2.1 (kd kX7_laneLeft_0 8 rfl) rfl (lv_at hl 0 rfl) ?_
    refine fl_get (j := 4) (v := .ref (Γ.1 138)) C hP rfl (Nat.le_of_ble_eq_true rfl) rfl inX7 (Nat.le_of_ble_eq_true rfl) tw_287 rfl (kd kX7_laneLeft_0 9 rfl) ?_
    refine lv_aload_n C.1 C.2.1 (kd kX7_laneLeft_0 10 rfl) rfl (lv_at hl 0 rfl) ?_
    refine fl_get (j := 0) (v := .ref (Γ.1 1)) C hP rfl (Nat.le_of_ble_eq_true rfl) rfl inX7 (Nat.le_of_ble_eq_true rfl) tw_283 rfl (kd kX7_laneLeft_0 11 rfl) ?_
    obtain ⟨σ2, hσ2, hf⟩ := fcallv_some hf
    refine fl_v hS (fl_runV (As := [.ref (Γ.1 1)]) (rest := []) C hP rfl (Nat.le_of_ble_eq_true rfl) rfl (m_X0_make C.2.2.2.2.2.2.2.2 l rfl hσ2) (fgV tw_535 tw_536 tw_537 tw_71 tw_538) hd_X0_make ⟨rfl, rfl, Nat.le_of_ble_eq_true rfl, Nat.le_of_ble_eq_true rfl⟩ rfl hl.1 rfl (Nat.le_of_ble_eq_true rfl) (kd kX7_laneLeft_0 12 rfl)) (fun H locs hP hS => ?_)
    refine lv_aload_n C.1 C.2.1 (kd kX7_laneLeft_0 13 rfl) rfl (lv_at hl 0 rfl) ?_
    refine fl_get (j := 4) (v := .ref (Γ.1 138)) C hP rfl (Nat.le_of_ble_eq_true rfl) rfl inX7 (Nat.le_of_ble_eq_true rfl) tw_287 rfl (kd kX7_laneLeft_0 14 rfl) ?_
    refine lv_iload_n C.1 C.2.1 (kd kX7_laneLeft_0 15 rfl) rfl (lv_at hl 1 rfl) ?_
    obtain ⟨r3_, σ3, hσ3, hf⟩ := fcall_some hf
    refine fl_i hS (fl_runV (As := [.int x1]) (rest := []) C hP rfl (Nat.le_of_ble_eq_true rfl) rfl (m_X0_sails C.2.2.2.2.2.2.2.2 l  hσ3) (fgV tw_721 tw_580 tw_581 tw_71 tw_582) hd_X0_sails ⟨rfl, rfl, Nat.le_of_ble_eq_true rfl, Nat.le_of_ble_eq_true rfl⟩ rfl hl.1 rfl (Nat.le_of_ble_eq_true rfl) (kd kX7_laneLeft_0 16 rfl)) (fun H locs hP hS => ?_)
    refine lv_if_ne (tgt := 42) C.1 C.2.1 (kd kX7_laneLeft_0 17 rfl) (by decide) (fun q => ?_) (fun q => ?_)
    · have hf := fif_neg q hf
      refine lv_aload_n C.1 C.2.1 (kd kX7_laneLeft_0 20 rfl) rfl (lv_at hl 0 rfl) ?_
      refine fl_get (j := 5) (v := .ref (Γ.1 145)) C hP rfl (Nat.le_of_ble_eq_true rfl) rfl inX7 (Nat.le_of_ble_eq_true rfl) tw_288 rfl (kd kX7_laneLeft_0 21 rfl) ?_
      refine lv_aload_n C.1 C.2.1 (kd kX7_laneLeft_0 22 rfl) rfl (lv_at hl 0 rfl) ?_
      refine fl_get (j := 0) (v := .ref (Γ.1 1)) C hP rfl (Nat.le_of_ble_eq_true rfl) rfl inX7 (Nat.le_of_ble_eq_true rfl) tw_283 rfl (kd kX7_laneLeft_0 23 rfl) ?_
      refine lv_aload_n C.1 C.2.1 (kd kX7_laneLeft_0 24 rfl) rfl (lv_at hl 0 rfl) ?_
      refine fl_get (j := 4) (v := .ref (Γ.1 138)) C hP rfl (Nat.le_of_ble_eq_true rfl) rfl inX7 (Nat.le_of_ble_eq_true rfl) tw_287 rfl (kd kX7_laneLeft_0 25 rfl) ?_
      obtain ⟨σ4, hσ4, hf⟩ := fcallv_some hf
      refine fl_v hS (fl_runV (As := [.ref (Γ.1 1), .ref (Γ.1 138)]) (rest := []) C hP rfl (Nat.le_of_ble_eq_true rfl) rfl (m_X2_make C.2.2.2.2.2.2.2.2 l rfl hσ4) (fgV tw_612 tw_613 tw_614 tw_72 tw_615) hd_X2_make ⟨rfl, rfl, Nat.le_of_ble_eq_true rfl, Nat.le_of_ble_eq_true rfl⟩ rfl hl.1 rfl (Nat.le_of_ble_eq_true rfl) (kd kX7_laneLeft_0 26 rfl)) (fun H locs hP hS => ?_)
      refine lv_aload_n C.1 C.2.1 (kd kX7_laneLeft_0 27 rfl) rfl (lv_at hl 0 rfl) ?_
      refine fl_get (j := 5) (v := .ref (Γ.1 145)) C hP rfl (Nat.le_of_ble_eq_true rfl) rfl inX7 (Nat.le_of_ble_eq_true rfl) tw_288 rfl (kd kX7_laneLeft_0 28 rfl) ?_
      refine fl_get (j := 1) (v := .ref (Γ.1 147)) C hP rfl (Nat.le_of_ble_eq_true rfl) rfl inX2 (Nat.le_of_ble_eq_true rfl) tw_206 rfl (kd kX7_laneLeft_0 29 rfl) ?_
      refine lv_iload_n C.1 C.2.1 (kd kX7_laneLeft_0 30 rfl) rfl (lv_at hl 1 rfl) ?_
      refine lv_iconst (v := (4 : Int32)) C.1 C.2.1 (kd kX7_laneLeft_0 31 rfl) (by decide) ?_
      refine lv_imul C.1 C.2.1 (kd kX7_laneLeft_0 32 rfl) ?_
      refine lv_iload_n C.1 C.2.1 (kd kX7_laneLeft_0 33 rfl) rfl (lv_at hl 2 rfl) ?_
      refine lv_iadd C.1 C.2.1 (kd kX7_laneLeft_0 34 rfl) ?_
      obtain ⟨hq, hf⟩ := fb_some hf
      refine fl_iald C hP rfl hq (kd kX7_laneLeft_0 35 rfl) ?_
      exact fl_iret C hP hS hf (kd kX7_laneLeft_0 36 rfl)
    have hf := fif_pos q hf
    refine lv_sipush (v := (-10005 : Int32)) C.1 C.2.1 (kd kX7_laneLeft_0 18 rfl) (by decide) ?_
    exact fl_iret C hP hS hf (kd kX7_laneLeft_0 19 rfl)
  have hf := fif_pos q hf
  refine lv_sipush (v := (-10001 : Int32)) C.1 C.2.1 (kd kX7_laneLeft_0 6 rfl) (by decide) ?_
  exact fl_iret C hP hS hf (kd kX7_laneLeft_0 7 rfl)
def f_X7_laneVehicle (x1 : Int32) (x2 : Int32) (x3 : Int32) (σ : fS) : Option (Int32 × fS) := fcall (f_X3_hasLane 1 x1 x2 σ) (fun r1_ σ1 => (if r1_ = 0 then some ((-10001 : Int32), σ1) else fcallv (f_X0_make 1 σ1) (fun σ2 => fcallv (f_X2_make 1 σ2) (fun σ3 => fcall (f_X2_standingAt 1 x1 x2 x3 σ3) (fun r4_ σ4 => some (r4_, σ4))))))
set_option maxRecDepth 100000 in
set_option maxHeartbeats 4000000 in
theorem m_X7_laneVehicle {Γ : fGm} (hI : fI Γ) (l : Launch) {x1 : Int32} {x2 : Int32} {x3 : Int32} {σ : fS} {r : Int32} {σ' : fS} (hf : f_X7_laneVehicle x1 x2 x3 σ = some (r, σ')) : Met l yX7_laneVehicle (.code yX7_laneVehicle cX7_laneVehicle 4 (some .int) :: lw_g) ({ frames := 7, cells := 0, slots := 0, locals := 165 } : Room) (fPre Γ [.ref (Γ.1 0), .int x1, .int x2, .int x3] σ) (fQi Γ r σ') 0 0 (fAd Γ) := by
  refine fl_enter (own := RX7) hI (by decide +kernel) rfl (Nat.le_of_ble_eq_true rfl) ?_
  intro p e s m args below meth c ls C hl hP hS
  have hl : lv_has ls 4 [(0, .ref (Γ.1 0)), (1, .int x1), (2, .int x2), (3, .int x3)] := hl
  obtain ⟨H, hH⟩ : ∃ H, H = s.heap := ⟨_, rfl⟩
  obtain ⟨locs, hL⟩ : ∃ L : List Loc, L = [] := ⟨_, rfl⟩
  have hP : fH Γ σ H := by rw [hH]; exact hP
  have hS : va_S (fAd Γ) s.heap H locs := by rw [hH, hL]; exact hS
  suffices hw : W p l e ({ frames := 7, cells := 0, slots := 0, locals := 165 } : Room) s m args below meth c H locs 0 0 (MQ below (fQi Γ r σ') args s 0 0 (fAd Γ)) (F0 m 0 ls []) by rw [hH, hL] at hw; exact hw
  unfold f_X7_laneVehicle at hf
  refine lv_aload_n C.1 C.2.1 (kd kX7_laneVehicle_0 0 rfl) rfl (lv_at hl 0 rfl) ?_
  refine fl_get (j := 0) (v := .ref (Γ.1 1)) C hP rfl (Nat.le_of_ble_eq_true rfl) rfl inX7 (Nat.le_of_ble_eq_true rfl) tw_283 rfl (kd kX7_laneVehicle_0 1 rfl) ?_
  refine lv_iload_n C.1 C.2.1 (kd kX7_laneVehicle_0 2 rfl) rfl (lv_at hl 1 rfl) ?_
  refine lv_iload_n C.1 C.2.1 (kd kX7_laneVehicle_0 3 rfl) rfl (lv_at hl 2 rfl) ?_
  obtain ⟨r1_, σ1, hσ1, hf⟩ := fcall_some hf
  refine fl_i hS (fl_runV (As := [.int x1, .int x2]) (rest := []) C hP rfl (Nat.le_of_ble_eq_true rfl) rfl (m_X3_hasLane C.2.2.2.2.2.2.2.2 l rfl hσ1) (fgV tw_716 tw_717 tw_718 tw_68 tw_719) hd_X3_hasLane ⟨rfl, rfl, Nat.le_of_ble_eq_true rfl, Nat.le_of_ble_eq_true rfl⟩ rfl hl.1 rfl (Nat.le_of_ble_eq_true rfl) (kd kX7_laneVehicle_0 4 rfl)) (fun H locs hP hS => ?_)
  refine lv_if_ne (tgt := 16) C.1 C.2.1 (kd kX7_laneVehicle_0 5 rfl) (by decide) (fun q => ?_) (fun q => ?_)
  · have hf := fif_neg q hf
    refine lv_aload_n C.1 C.2.1 (kd kX7_laneVehicle_0 8 rfl) rfl (lv_at hl 0 rfl) ?_
    refine fl_get (j := 4) (v := .ref (Γ.1 138)) C hP rfl (Nat.le_of_ble_eq_true rfl) rfl inX7 (Nat.le_of_ble_eq_true rfl) tw_287 rfl (kd kX7_laneVehicle_0 9 rfl) ?_
    refine lv_aload_n C.1 C.2.1 (kd kX7_laneVehicle_0 10 rfl) rfl (lv_at hl 0 rfl) ?_
    refine fl_get (j := 0) (v := .ref (Γ.1 1)) C hP rfl (Nat.le_of_ble_eq_true rfl) rfl inX7 (Nat.le_of_ble_eq_true rfl) tw_283 rfl (kd kX7_laneVehicle_0 11 rfl) ?_
    obtain ⟨σ2, hσ2, hf⟩ := fcallv_some hf
    refine fl_v hS (fl_runV (As := [.ref (Γ.1 1)]) (rest := []) C hP rfl (Nat.le_of_ble_eq_true rfl) rfl (m_X0_make C.2.2.2.2.2.2.2.2 l rfl hσ2) (fgV tw_535 tw_536 tw_537 tw_71 tw_538) hd_X0_make ⟨rfl, rfl, Nat.le_of_ble_eq_true rfl, Nat.le_of_ble_eq_true rfl⟩ rfl hl.1 rfl (Nat.le_of_ble_eq_true rfl) (kd kX7_laneVehicle_0 12 rfl)) (fun H locs hP hS => ?_)
    refine lv_aload_n C.1 C.2.1 (kd kX7_laneVehicle_0 13 rfl) rfl (lv_at hl 0 rfl) ?_
    refine fl_get (j := 5) (v := .ref (Γ.1 145)) C hP rfl (Nat.le_of_ble_eq_true rfl) rfl inX7 (Nat.le_of_ble_eq_true rfl) tw_288 rfl (kd kX7_laneVehicle_0 14 rfl) ?_
    refine lv_aload_n C.1 C.2.1 (kd kX7_laneVehicle_0 15 rfl) rfl (lv_at hl 0 rfl) ?_
    refine fl_get (j := 0) (v := .ref (Γ.1 1)) C hP rfl (Nat.le_of_ble_eq_true rfl) rfl inX7 (Nat.le_of_ble_eq_true rfl) tw_283 rfl (kd kX7_laneVehicle_0 16 rfl) ?_
    refine lv_aload_n C.1 C.2.1 (kd kX7_laneVehicle_0 17 rfl) rfl (lv_at hl 0 rfl) ?_
    refine fl_get (j := 4) (v := .ref (Γ.1 138)) C hP rfl (Nat.le_of_ble_eq_true rfl) rfl inX7 (Nat.le_of_ble_eq_true rfl) tw_287 rfl (kd kX7_laneVehicle_0 18 rfl) ?_
    obtain ⟨σ3, hσ3, hf⟩ := fcallv_some hf
    refine fl_v hS (fl_runV (As := [.ref (Γ.1 1), .ref (Γ.1 138)]) (rest := []) C hP rfl (Nat.le_of_ble_eq_true rfl) rfl (m_X2_make C.2.2.2.2.2.2.2.2 l rfl hσ3) (fgV tw_612 tw_613 tw_614 tw_72 tw_615) hd_X2_make ⟨rfl, rfl, Nat.le_of_ble_eq_true rfl, Nat.le_of_ble_eq_true rfl⟩ rfl hl.1 rfl (Nat.le_of_ble_eq_true rfl) (kd kX7_laneVehicle_0 19 rfl)) (fun H locs hP hS => ?_)
    refine lv_aload_n C.1 C.2.1 (kd kX7_laneVehicle_0 20 rfl) rfl (lv_at hl 0 rfl) ?_
    refine fl_get (j := 5) (v := .ref (Γ.1 145)) C hP rfl (Nat.le_of_ble_eq_true rfl) rfl inX7 (Nat.le_of_ble_eq_true rfl) tw_288 rfl (kd kX7_laneVehicle_0 21 rfl) ?_
    refine lv_aload_n C.1 C.2.1 (kd kX7_laneVehicle_0 22 rfl) rfl (lv_at hl 0 rfl) ?_
    refine fl_get (j := 0) (v := .ref (Γ.1 1)) C hP rfl (Nat.le_of_ble_eq_true rfl) rfl inX7 (Nat.le_of_ble_eq_true rfl) tw_283 rfl (kd kX7_laneVehicle_0 23 rfl) ?_
    refine lv_iload_n C.1 C.2.1 (kd kX7_laneVehicle_0 24 rfl) rfl (lv_at hl 1 rfl) ?_
    refine lv_iload_n C.1 C.2.1 (kd kX7_laneVehicle_0 25 rfl) rfl (lv_at hl 2 rfl) ?_
    refine lv_iload_n C.1 C.2.1 (kd kX7_laneVehicle_0 26 rfl) rfl (lv_at hl 3 rfl) ?_
    obtain ⟨r4_, σ4, hσ4, hf⟩ := fcall_some hf
    refine fl_i hS (fl_runV (As := [.ref (Γ.1 1), .int x1, .int x2, .int x3]) (rest := []) C hP rfl (Nat.le_of_ble_eq_true rfl) rfl (m_X2_standingAt C.2.2.2.2.2.2.2.2 l rfl hσ4) (fgV tw_726 tw_727 tw_728 tw_72 tw_729) hd_X2_standingAt ⟨rfl, rfl, Nat.le_of_ble_eq_true rfl, Nat.le_of_ble_eq_true rfl⟩ rfl hl.1 rfl (Nat.le_of_ble_eq_true rfl) (kd kX7_laneVehicle_0 27 rfl)) (fun H locs hP hS => ?_)
    exact fl_iret C hP hS hf (kd kX7_laneVehicle_0 28 rfl)
  have hf := fif_pos q hf
  refine lv_sipush (v := (-10001 : Int32)) C.1 C.2.1 (kd kX7_laneVehicle_0 6 rfl) (by decide) ?_
  exact fl_iret C hP hS hf (kd kX7_laneVehicle_0 7 rfl)
def f_X7_leaves (x1 : Int32) (x2 : Int32) (σ : fS) : Option (Int32 × fS) := fcall (f_X5_has 6 12 4 x1 σ) (fun r1_ σ1 => (if r1_ = 0 then some ((-10001 : Int32), σ1) else fcallv (f_X0_make 1 σ1) (fun σ2 => fcallv (f_X2_make 1 σ2) (fun σ3 => fcall (f_X2_unload 1 x1 σ3) (fun r4_ σ4 => fcall (f_X7_isOutside x2 (0 : Int32) (r4_ - (1 : Int32)) σ4) (fun r5_ σ5 => (if r5_ = 0 then fb x2 24 (some ((σ5 148 x2.toNatClampNeg), σ5)) else some ((-10004 : Int32), σ5))))))))
set_option maxRecDepth 100000 in
set_option maxHeartbeats 4000000 in
theorem m_X7_leaves {Γ : fGm} (hI : fI Γ) (l : Launch) {x1 : Int32} {x2 : Int32} {σ : fS} {r : Int32} {σ' : fS} (hf : f_X7_leaves x1 x2 σ = some (r, σ')) : Met l yX7_leaves (.code yX7_leaves cX7_leaves 4 (some .int) :: lw_g) ({ frames := 7, cells := 0, slots := 0, locals := 165 } : Room) (fPre Γ [.ref (Γ.1 0), .int x1, .int x2] σ) (fQi Γ r σ') 0 0 (fAd Γ) := by
  refine fl_enter (own := RX7) hI (by decide +kernel) rfl (Nat.le_of_ble_eq_true rfl) ?_
  intro p e s m args below meth c ls C hl hP hS
  have hl : lv_has ls 4 [(0, .ref (Γ.1 0)), (1, .int x1), (2, .int x2)] := hl
  obtain ⟨H, hH⟩ : ∃ H, H = s.heap := ⟨_, rfl⟩
  obtain ⟨locs, hL⟩ : ∃ L : List Loc, L = [] := ⟨_, rfl⟩
  have hP : fH Γ σ H := by rw [hH]; exact hP
  have hS : va_S (fAd Γ) s.heap H locs := by rw [hH, hL]; exact hS
  suffices hw : W p l e ({ frames := 7, cells := 0, slots := 0, locals := 165 } : Room) s m args below meth c H locs 0 0 (MQ below (fQi Γ r σ') args s 0 0 (fAd Γ)) (F0 m 0 ls []) by rw [hH, hL] at hw; exact hw
  unfold f_X7_leaves at hf
  refine lv_aload_n C.1 C.2.1 (kd kX7_leaves_0 0 rfl) rfl (lv_at hl 0 rfl) ?_
  refine fl_get (j := 0) (v := .ref (Γ.1 1)) C hP rfl (Nat.le_of_ble_eq_true rfl) rfl inX7 (Nat.le_of_ble_eq_true rfl) tw_283 rfl (kd kX7_leaves_0 1 rfl) ?_
  refine fl_get (j := 2) (v := .ref (Γ.1 6)) C hP rfl (Nat.le_of_ble_eq_true rfl) rfl inX3 (Nat.le_of_ble_eq_true rfl) tw_120 rfl (kd kX7_leaves_0 2 rfl) ?_
  refine lv_iload_n C.1 C.2.1 (kd kX7_leaves_0 3 rfl) rfl (lv_at hl 1 rfl) ?_
  obtain ⟨r1_, σ1, hσ1, hf⟩ := fcall_some hf
  refine fl_i hS (fl_runV (As := [.int x1]) (rest := []) C hP rfl (Nat.le_of_ble_eq_true rfl) rfl (m_X5_has C.2.2.2.2.2.2.2.2 l rfl hσ1) (fgV tw_532 tw_378 tw_379 tw_69 tw_380) hd_X5_has ⟨rfl, rfl, Nat.le_of_ble_eq_true rfl, Nat.le_of_ble_eq_true rfl⟩ rfl hl.1 rfl (Nat.le_of_ble_eq_true rfl) (kd kX7_leaves_0 4 rfl)) (fun H locs hP hS => ?_)
  refine lv_if_ne (tgt := 18) C.1 C.2.1 (kd kX7_leaves_0 5 rfl) (by decide) (fun q => ?_) (fun q => ?_)
  · have hf := fif_neg q hf
    refine lv_aload_n C.1 C.2.1 (kd kX7_leaves_0 8 rfl) rfl (lv_at hl 0 rfl) ?_
    refine fl_get (j := 4) (v := .ref (Γ.1 138)) C hP rfl (Nat.le_of_ble_eq_true rfl) rfl inX7 (Nat.le_of_ble_eq_true rfl) tw_287 rfl (kd kX7_leaves_0 9 rfl) ?_
    refine lv_aload_n C.1 C.2.1 (kd kX7_leaves_0 10 rfl) rfl (lv_at hl 0 rfl) ?_
    refine fl_get (j := 0) (v := .ref (Γ.1 1)) C hP rfl (Nat.le_of_ble_eq_true rfl) rfl inX7 (Nat.le_of_ble_eq_true rfl) tw_283 rfl (kd kX7_leaves_0 11 rfl) ?_
    obtain ⟨σ2, hσ2, hf⟩ := fcallv_some hf
    refine fl_v hS (fl_runV (As := [.ref (Γ.1 1)]) (rest := []) C hP rfl (Nat.le_of_ble_eq_true rfl) rfl (m_X0_make C.2.2.2.2.2.2.2.2 l rfl hσ2) (fgV tw_535 tw_536 tw_537 tw_71 tw_538) hd_X0_make ⟨rfl, rfl, Nat.le_of_ble_eq_true rfl, Nat.le_of_ble_eq_true rfl⟩ rfl hl.1 rfl (Nat.le_of_ble_eq_true rfl) (kd kX7_leaves_0 12 rfl)) (fun H locs hP hS => ?_)
    refine lv_aload_n C.1 C.2.1 (kd kX7_leaves_0 13 rfl) rfl (lv_at hl 0 rfl) ?_
    refine fl_get (j := 5) (v := .ref (Γ.1 145)) C hP rfl (Nat.le_of_ble_eq_true rfl) rfl inX7 (Nat.le_of_ble_eq_true rfl) tw_288 rfl (kd kX7_leaves_0 14 rfl) ?_
    refine lv_aload_n C.1 C.2.1 (kd kX7_leaves_0 15 rfl) rfl (lv_at hl 0 rfl) ?_
    refine fl_get (j := 0) (v := .ref (Γ.1 1)) C hP rfl (Nat.le_of_ble_eq_true rfl) rfl inX7 (Nat.le_of_ble_eq_true rfl) tw_283 rfl (kd kX7_leaves_0 16 rfl) ?_
    refine lv_aload_n C.1 C.2.1 (kd kX7_leaves_0 17 rfl) rfl (lv_at hl 0 rfl) ?_
    refine fl_get (j := 4) (v := .ref (Γ.1 138)) C hP rfl (Nat.le_of_ble_eq_true rfl) rfl inX7 (Nat.le_of_ble_eq_true rfl) tw_287 rfl (kd kX7_leaves_0 18 rfl) ?_
    obtain ⟨σ3, hσ3, hf⟩ := fcallv_some hf
    refine fl_v hS (fl_runV (As := [.ref (Γ.1 1), .ref (Γ.1 138)]) (rest := []) C hP rfl (Nat.le_of_ble_eq_true rfl) rfl (m_X2_make C.2.2.2.2.2.2.2.2 l rfl hσ3) (fgV tw_612 tw_613 tw_614 tw_72 tw_615) hd_X2_make ⟨rfl, rfl, Nat.le_of_ble_eq_true rfl, Nat.le_of_ble_eq_true rfl⟩ rfl hl.1 rfl (Nat.le_of_ble_eq_true rfl) (kd kX7_leaves_0 19 rfl)) (fun H locs hP hS => ?_)
    refine lv_aload_n C.1 C.2.1 (kd kX7_leaves_0 20 rfl) rfl (lv_at hl 0 rfl) ?_
    refine fl_get (j := 5) (v := .ref (Γ.1 145)) C hP rfl (Nat.le_of_ble_eq_true rfl) rfl inX7 (Nat.le_of_ble_eq_true rfl) tw_288 rfl (kd kX7_leaves_0 21 rfl) ?_
    refine lv_aload_n C.1 C.2.1 (kd kX7_leaves_0 22 rfl) rfl (lv_at hl 0 rfl) ?_
    refine fl_get (j := 0) (v := .ref (Γ.1 1)) C hP rfl (Nat.le_of_ble_eq_true rfl) rfl inX7 (Nat.le_of_ble_eq_true rfl) tw_283 rfl (kd kX7_leaves_0 23 rfl) ?_
    refine lv_iload_n C.1 C.2.1 (kd kX7_leaves_0 24 rfl) rfl (lv_at hl 1 rfl) ?_
    obtain ⟨r4_, σ4, hσ4, hf⟩ := fcall_some hf
    refine fl_i hS (fl_runV (As := [.ref (Γ.1 1), .int x1]) (rest := []) C hP rfl (Nat.le_of_ble_eq_true rfl) rfl (m_X2_unload C.2.2.2.2.2.2.2.2 l rfl hσ4) (fgV tw_734 tw_735 tw_736 tw_72 tw_737) hd_X2_unload ⟨rfl, rfl, Nat.le_of_ble_eq_true rfl, Nat.le_of_ble_eq_true rfl⟩ rfl hl.1 rfl (Nat.le_of_ble_eq_true rfl) (kd kX7_leaves_0 25 rfl)) (fun H locs hP hS => ?_)
    refine lv_istore_n (lv' := [(3, .int r4_), (0, .ref (Γ.1 0)), (1, .int x1), (2, .int x2)]) C.1 C.2.1 (kd kX7_leaves_0 26 rfl) rfl hl (Nat.le_of_ble_eq_true rfl) rfl (fun ls hl => ?_)
    refine lv_iload_n C.1 C.2.1 (kd kX7_leaves_0 27 rfl) rfl (lv_at hl 3 rfl) ?_
    refine lv_iconst (v := (0 : Int32)) C.1 C.2.1 (kd kX7_leaves_0 28 rfl) (by decide) ?_
    refine lv_iload_n C.1 C.2.1 (kd kX7_leaves_0 29 rfl) rfl (lv_at hl 0 rfl) ?_
    refine lv_iconst (v := (1 : Int32)) C.1 C.2.1 (kd kX7_leaves_0 30 rfl) (by decide) ?_
    refine lv_isub C.1 C.2.1 (kd kX7_leaves_0 31 rfl) ?_
    obtain ⟨r5_, σ5, hσ5, hf⟩ := fcall_some hf
    refine fl_i hS (fl_runS (As := [.int x2, .int (0 : Int32), .int (r4_ - (1 : Int32))]) (rest := []) C hP (m_X7_isOutside C.2.2.2.2.2.2.2.2 l  hσ5) (fgS tw_533 tw_334 tw_67 tw_335) hs_X7_isOutside ⟨rfl, rfl, Nat.le_of_ble_eq_true rfl, Nat.le_of_ble_eq_true rfl⟩ rfl hl.1 rfl (Nat.le_of_ble_eq_true rfl) (kd kX7_leaves_0 32 rfl)) (fun H locs hP hS => ?_)
    refine lv_if_eq (tgt := 74) C.1 C.2.1 (kd kX7_leaves_0 33 rfl) (by decide) (fun q => ?_) (fun q => ?_)
    · have hf := fif_pos q hf
      refine lv_aload_n C.1 C.2.1 (kd kX7_leaves_0 36 rfl) rfl (lv_at hl 1 rfl) ?_
      refine fl_get (j := 5) (v := .ref (Γ.1 145)) C hP rfl (Nat.le_of_ble_eq_true rfl) rfl inX7 (Nat.le_of_ble_eq_true rfl) tw_288 rfl (kd kX7_leaves_0 37 rfl) ?_
      refine fl_get (j := 2) (v := .ref (Γ.1 148)) C hP rfl (Nat.le_of_ble_eq_true rfl) rfl inX2 (Nat.le_of_ble_eq_true rfl) tw_208 rfl (kd kX7_leaves_0 38 rfl) ?_
      refine lv_iload_n C.1 C.2.1 (kd kX7_leaves_0 39 rfl) rfl (lv_at hl 3 rfl) ?_
      obtain ⟨hq, hf⟩ := fb_some hf
      refine fl_iald C hP rfl hq (kd kX7_leaves_0 40 rfl) ?_
      exact fl_iret C hP hS hf (kd kX7_leaves_0 41 rfl)
    have hf := fif_neg q hf
    refine lv_sipush (v := (-10004 : Int32)) C.1 C.2.1 (kd kX7_leaves_0 34 rfl) (by decide) ?_
    refine lv_goto (tgt := 83) C.1 C.2.1 (kd kX7_leaves_0 35 rfl) (by decide) ?_
    exact fl_iret C hP hS hf (kd kX7_leaves_0 41 rfl)
  have hf := fif_pos q hf
  refine lv_sipush (v := (-10001 : Int32)) C.1 C.2.1 (kd kX7_leaves_0 6 rfl) (by decide) ?_
  exact fl_iret C hP hS hf (kd kX7_leaves_0 7 rfl)
def f_X7_isOrderly_b28 : Nat → Int32 → fS → Option (Int32 × fS)
  | 0, _, _ => none
  | n_ + 1, v1, σ => fcall (f_X5_size 6 12 4 σ) (fun r1_ σ1 => (if r1_ ≤ v1 then some ((1 : Int32), σ1) else fcall (f_X2_isRight 1 v1 σ1) (fun r2_ σ2 => (if r2_ = 0 then some ((0 : Int32), σ2) else (fun v1 σ => f_X7_isOrderly_b28 n_ v1 σ) ((v1 + (1 : Int32))) σ2))))
set_option maxRecDepth 100000 in
set_option maxHeartbeats 4000000 in
theorem w_X7_isOrderly_b28 {r : Int32} {σ' : fS}  (C : fC Γ p s m args meth c cX7_isOrderly (some .int) RX7 2) : ∀ (n_ : Nat) (v1 : Int32) (σ : fS) (H : Heap) (locs : List Loc) (ls : Array Slot), f_X7_isOrderly_b28 n_ v1 σ = some (r, σ') → fH Γ σ H → va_S (fAd Γ) s.heap H locs → lv_has ls 2 [(0, .ref (Γ.1 0)), (1, .int v1)] → W p l e ({ frames := 7, cells := 0, slots := 0, locals := 165 } : Room) s m args below meth c H locs 0 0 (MQ below (fQi Γ r σ') args s 0 0 (fAd Γ)) (F0 m 28 ls []) := by
  intro n_
  induction n_ with
  | zero =>
    intro v1 σ H locs ls hf
    cases hf
  | succ n_ ih =>
    intro v1 σ H locs ls hf hP hS hl
    have hf : fcall (f_X5_size 6 12 4 σ) (fun r1_ σ1 => (if r1_ ≤ v1 then some ((1 : Int32), σ1) else fcall (f_X2_isRight 1 v1 σ1) (fun r2_ σ2 => (if r2_ = 0 then some ((0 : Int32), σ2) else (fun v1 σ => f_X7_isOrderly_b28 n_ v1 σ) ((v1 + (1 : Int32))) σ2)))) = some (r, σ') := hf
    have hK28 := ih
    refine lv_iload_n C.1 C.2.1 (kd kX7_isOrderly_0 14 rfl) rfl (lv_at hl 1 rfl) ?_
    refine lv_aload_n C.1 C.2.1 (kd kX7_isOrderly_0 15 rfl) rfl (lv_at hl 0 rfl) ?_
    refine fl_get (j := 0) (v := .ref (Γ.1 1)) C hP rfl (Nat.le_of_ble_eq_true rfl) rfl inX7 (Nat.le_of_ble_eq_true rfl) tw_283 rfl (kd kX7_isOrderly_0 16 rfl) ?_
    refine fl_get (j := 2) (v := .ref (Γ.1 6)) C hP rfl (Nat.le_of_ble_eq_true rfl) rfl inX3 (Nat.le_of_ble_eq_true rfl) tw_120 rfl (kd kX7_isOrderly_0 17 rfl) ?_
    obtain ⟨r1_, σ1, hσ1, hf⟩ := fcall_some hf
    refine fl_i hS (fl_runV (As := []) (rest := [.int v1]) C hP rfl (Nat.le_of_ble_eq_true rfl) rfl (m_X5_size C.2.2.2.2.2.2.2.2 l rfl hσ1) (fgV tw_527 tw_414 tw_415 tw_69 tw_416) hd_X5_size ⟨rfl, rfl, Nat.le_of_ble_eq_true rfl, Nat.le_of_ble_eq_true rfl⟩ rfl hl.1 rfl (Nat.le_of_ble_eq_true rfl) (kd kX7_isOrderly_0 18 rfl)) (fun H locs hP hS => ?_)
    refine lv_icmp_ge (tgt := 65) C.1 C.2.1 (kd kX7_isOrderly_0 19 rfl) (by decide) (fun q => ?_) (fun q => ?_)
    · have hf := fif_pos q hf
      refine lv_iconst (v := (1 : Int32)) C.1 C.2.1 (kd kX7_isOrderly_0 31 rfl) (by decide) ?_
      exact fl_iret C hP hS hf (kd kX7_isOrderly_0 32 rfl)
    have hf := fif_neg q hf
    refine lv_aload_n C.1 C.2.1 (kd kX7_isOrderly_0 20 rfl) rfl (lv_at hl 0 rfl) ?_
    refine fl_get (j := 5) (v := .ref (Γ.1 145)) C hP rfl (Nat.le_of_ble_eq_true rfl) rfl inX7 (Nat.le_of_ble_eq_true rfl) tw_288 rfl (kd kX7_isOrderly_0 21 rfl) ?_
    refine lv_aload_n C.1 C.2.1 (kd kX7_isOrderly_0 22 rfl) rfl (lv_at hl 0 rfl) ?_
    refine fl_get (j := 0) (v := .ref (Γ.1 1)) C hP rfl (Nat.le_of_ble_eq_true rfl) rfl inX7 (Nat.le_of_ble_eq_true rfl) tw_283 rfl (kd kX7_isOrderly_0 23 rfl) ?_
    refine lv_iload_n C.1 C.2.1 (kd kX7_isOrderly_0 24 rfl) rfl (lv_at hl 1 rfl) ?_
    obtain ⟨r2_, σ2, hσ2, hf⟩ := fcall_some hf
    refine fl_i hS (fl_runV (As := [.ref (Γ.1 1), .int v1]) (rest := []) C hP rfl (Nat.le_of_ble_eq_true rfl) rfl (m_X2_isRight C.2.2.2.2.2.2.2.2 l rfl hσ2) (fgV tw_751 tw_752 tw_753 tw_72 tw_754) hd_X2_isRight ⟨rfl, rfl, Nat.le_of_ble_eq_true rfl, Nat.le_of_ble_eq_true rfl⟩ rfl hl.1 rfl (Nat.le_of_ble_eq_true rfl) (kd kX7_isOrderly_0 25 rfl)) (fun H locs hP hS => ?_)
    refine lv_if_ne (tgt := 59) C.1 C.2.1 (kd kX7_isOrderly_0 26 rfl) (by decide) (fun q => ?_) (fun q => ?_)
    · have hf := fif_neg q hf
      refine lv_iinc (v := (v1 + (1 : Int32))) (lv' := [(1, .int (v1 + (1 : Int32))), (0, .ref (Γ.1 0))]) C.1 C.2.1 (kd kX7_isOrderly_0 29 rfl) hl (k := 1) rfl rfl (Nat.le_of_ble_eq_true rfl) rfl (fun ls hl => ?_)
      refine lv_goto (tgt := 28) C.1 C.2.1 (kd kX7_isOrderly_0 30 rfl) (by decide) ?_
      exact hK28 ((v1 + (1 : Int32))) σ2 H locs ls hf hP hS (lv_sub hl [1, 0] rfl)
    have hf := fif_pos q hf
    refine lv_iconst (v := (0 : Int32)) C.1 C.2.1 (kd kX7_isOrderly_0 27 rfl) (by decide) ?_
    exact fl_iret C hP hS hf (kd kX7_isOrderly_0 28 rfl)
def f_X7_isOrderly (σ : fS) : Option (Int32 × fS) := fcallv (f_X0_make 1 σ) (fun σ1 => fcallv (f_X2_make 1 σ1) (fun σ2 => f_X7_isOrderly_b28 fN ((0 : Int32)) σ2))
set_option maxRecDepth 100000 in
set_option maxHeartbeats 4000000 in
theorem m_X7_isOrderly {Γ : fGm} (hI : fI Γ) (l : Launch) {σ : fS} {r : Int32} {σ' : fS} (hf : f_X7_isOrderly  σ = some (r, σ')) : Met l yX7_isOrderly (.code yX7_isOrderly cX7_isOrderly 2 (some .int) :: lw_g) ({ frames := 7, cells := 0, slots := 0, locals := 165 } : Room) (fPre Γ [.ref (Γ.1 0)] σ) (fQi Γ r σ') 0 0 (fAd Γ) := by
  refine fl_enter (own := RX7) hI (by decide +kernel) rfl (Nat.le_of_ble_eq_true rfl) ?_
  intro p e s m args below meth c ls C hl hP hS
  have hl : lv_has ls 2 [(0, .ref (Γ.1 0))] := hl
  obtain ⟨H, hH⟩ : ∃ H, H = s.heap := ⟨_, rfl⟩
  obtain ⟨locs, hL⟩ : ∃ L : List Loc, L = [] := ⟨_, rfl⟩
  have hP : fH Γ σ H := by rw [hH]; exact hP
  have hS : va_S (fAd Γ) s.heap H locs := by rw [hH, hL]; exact hS
  suffices hw : W p l e ({ frames := 7, cells := 0, slots := 0, locals := 165 } : Room) s m args below meth c H locs 0 0 (MQ below (fQi Γ r σ') args s 0 0 (fAd Γ)) (F0 m 0 ls []) by rw [hH, hL] at hw; exact hw
  unfold f_X7_isOrderly at hf
  refine lv_aload_n C.1 C.2.1 (kd kX7_isOrderly_0 0 rfl) rfl (lv_at hl 0 rfl) ?_
  refine fl_get (j := 4) (v := .ref (Γ.1 138)) C hP rfl (Nat.le_of_ble_eq_true rfl) rfl inX7 (Nat.le_of_ble_eq_true rfl) tw_287 rfl (kd kX7_isOrderly_0 1 rfl) ?_
  refine lv_aload_n C.1 C.2.1 (kd kX7_isOrderly_0 2 rfl) rfl (lv_at hl 0 rfl) ?_
  refine fl_get (j := 0) (v := .ref (Γ.1 1)) C hP rfl (Nat.le_of_ble_eq_true rfl) rfl inX7 (Nat.le_of_ble_eq_true rfl) tw_283 rfl (kd kX7_isOrderly_0 3 rfl) ?_
  obtain ⟨σ1, hσ1, hf⟩ := fcallv_some hf
  refine fl_v hS (fl_runV (As := [.ref (Γ.1 1)]) (rest := []) C hP rfl (Nat.le_of_ble_eq_true rfl) rfl (m_X0_make C.2.2.2.2.2.2.2.2 l rfl hσ1) (fgV tw_535 tw_536 tw_537 tw_71 tw_538) hd_X0_make ⟨rfl, rfl, Nat.le_of_ble_eq_true rfl, Nat.le_of_ble_eq_true rfl⟩ rfl hl.1 rfl (Nat.le_of_ble_eq_true rfl) (kd kX7_isOrderly_0 4 rfl)) (fun H locs hP hS => ?_)
  refine lv_aload_n C.1 C.2.1 (kd kX7_isOrderly_0 5 rfl) rfl (lv_at hl 0 rfl) ?_
  refine fl_get (j := 5) (v := .ref (Γ.1 145)) C hP rfl (Nat.le_of_ble_eq_true rfl) rfl inX7 (Nat.le_of_ble_eq_true rfl) tw_288 rfl (kd kX7_isOrderly_0 6 rfl) ?_
  refine lv_aload_n C.1 C.2.1 (kd kX7_isOrderly_0 7 rfl) rfl (lv_at hl 0 rfl) ?_
  refine fl_get (j := 0) (v := .ref (Γ.1 1)) C hP rfl (Nat.le_of_ble_eq_true rfl) rfl inX7 (Nat.le_of_ble_eq_true rfl) tw_283 rfl (kd kX7_isOrderly_0 8 rfl) ?_
  refine lv_aload_n C.1 C.2.1 (kd kX7_isOrderly_0 9 rfl) rfl (lv_at hl 0 rfl) ?_
  refine fl_get (j := 4) (v := .ref (Γ.1 138)) C hP rfl (Nat.le_of_ble_eq_true rfl) rfl inX7 (Nat.le_of_ble_eq_true rfl) tw_287 rfl (kd kX7_isOrderly_0 10 rfl) ?_
  obtain ⟨σ2, hσ2, hf⟩ := fcallv_some hf
  refine fl_v hS (fl_runV (As := [.ref (Γ.1 1), .ref (Γ.1 138)]) (rest := []) C hP rfl (Nat.le_of_ble_eq_true rfl) rfl (m_X2_make C.2.2.2.2.2.2.2.2 l rfl hσ2) (fgV tw_612 tw_613 tw_614 tw_72 tw_615) hd_X2_make ⟨rfl, rfl, Nat.le_of_ble_eq_true rfl, Nat.le_of_ble_eq_true rfl⟩ rfl hl.1 rfl (Nat.le_of_ble_eq_true rfl) (kd kX7_isOrderly_0 11 rfl)) (fun H locs hP hS => ?_)
  refine lv_iconst (v := (0 : Int32)) C.1 C.2.1 (kd kX7_isOrderly_0 12 rfl) (by decide) ?_
  refine lv_istore_n (lv' := [(1, .int (0 : Int32)), (0, .ref (Γ.1 0))]) C.1 C.2.1 (kd kX7_isOrderly_0 13 rfl) rfl hl (Nat.le_of_ble_eq_true rfl) rfl (fun ls hl => ?_)
  exact w_X7_isOrderly_b28 C fN ((0 : Int32)) σ2 H locs ls hf hP hS (lv_sub hl [1, 0] rfl)
def f_X7_account (x1 : Int32) (σ : fS) : Option (Int32 × fS) := fcall (f_X7_isOutside x1 (0 : Int32) (9 : Int32) σ) (fun r1_ σ1 => (if r1_ = 0 then fcallv (f_X0_make 1 σ1) (fun σ2 => fcallv (f_X2_make 1 σ2) (fun σ3 => (if x1 = (0 : Int32) then fcall (f_X0_countAllSailing 1 σ3) (fun r4_ σ4 => some (r4_, σ4)) else if x1 = (1 : Int32) then fcall (f_X5_size 6 12 4 σ3) (fun r5_ σ5 => fcall (f_X0_countAllSailing 1 σ5) (fun r6_ σ6 => some ((r5_ - r6_), σ6))) else if x1 = (2 : Int32) then fcall (f_X0_sumPassengers 1 (0 : Int32) σ3) (fun r7_ σ7 => some (r7_, σ7)) else if x1 = (3 : Int32) then fcall (f_X0_sumPassengers 1 (1 : Int32) σ3) (fun r8_ σ8 => some (r8_, σ8)) else if x1 = (4 : Int32) then fcall (f_X2_countAllAboard 1 σ3) (fun r9_ σ9 => some (r9_, σ9)) else if x1 = (5 : Int32) then fcall (f_X5_size 8 24 3 σ3) (fun r10_ σ10 => fcall (f_X2_countAllAboard 1 σ10) (fun r11_ σ11 => some ((r10_ - r11_), σ11))) else if x1 = (6 : Int32) then fcall (f_X0_sumDelays 1 σ3) (fun r12_ σ12 => some (r12_, σ12)) else if x1 = (7 : Int32) then fcall (f_X2_sumMetersAboard 1 σ3) (fun r13_ σ13 => some (r13_, σ13)) else if x1 = (8 : Int32) then fcall (f_X0_sumLaneMeters 1 σ3) (fun r14_ σ14 => some (r14_, σ14)) else fcall (f_X2_sumShifts 1 σ3) (fun r15_ σ15 => some (r15_, σ15))))) else some ((-10002 : Int32), σ1)))
set_option maxRecDepth 100000 in
set_option maxHeartbeats 4000000 in
theorem m_X7_account {Γ : fGm} (hI : fI Γ) (l : Launch) {x1 : Int32} {σ : fS} {r : Int32} {σ' : fS} (hf : f_X7_account x1 σ = some (r, σ')) : Met l yX7_account (.code yX7_account cX7_account 2 (some .int) :: lw_g) ({ frames := 7, cells := 0, slots := 0, locals := 165 } : Room) (fPre Γ [.ref (Γ.1 0), .int x1] σ) (fQi Γ r σ') 0 0 (fAd Γ) := by
  refine fl_enter (own := RX7) hI (by decide +kernel) rfl (Nat.le_of_ble_eq_true rfl) ?_
  intro p e s m args below meth c ls C hl hP hS
  have hl : lv_has ls 2 [(0, .ref (Γ.1 0)), (1, .int x1)] := hl
  obtain ⟨H, hH⟩ : ∃ H, H = s.heap := ⟨_, rfl⟩
  obtain ⟨locs, hL⟩ : ∃ L : List Loc, L = [] := ⟨_, rfl⟩
  have hP : fH Γ σ H := by rw [hH]; exact hP
  have hS : va_S (fAd Γ) s.heap H locs := by rw [hH, hL]; exact hS
  suffices hw : W p l e ({ frames := 7, cells := 0, slots := 0, locals := 165 } : Room) s m args below meth c H locs 0 0 (MQ below (fQi Γ r σ') args s 0 0 (fAd Γ)) (F0 m 0 ls []) by rw [hH, hL] at hw; exact hw
  unfold f_X7_account at hf
  refine lv_iload_n C.1 C.2.1 (kd kX7_account_0 0 rfl) rfl (lv_at hl 1 rfl) ?_
  refine lv_iconst (v := (0 : Int32)) C.1 C.2.1 (kd kX7_account_0 1 rfl) (by decide) ?_
  refine lv_bipush (v := (9 : Int32)) C.1 C.2.1 (kd kX7_account_0 2 rfl) (by decide) ?_
  obtain ⟨r1_, σ1, hσ1, hf⟩ := fcall_some hf
  refine fl_i hS (fl_runS (As := [.int x1, .int (0 : Int32), .int (9 : Int32)]) (rest := []) C hP (m_X7_isOutside C.2.2.2.2.2.2.2.2 l  hσ1) (fgS tw_533 tw_334 tw_67 tw_335) hs_X7_isOutside ⟨rfl, rfl, Nat.le_of_ble_eq_true rfl, Nat.le_of_ble_eq_true rfl⟩ rfl hl.1 rfl (Nat.le_of_ble_eq_true rfl) (kd kX7_account_0 3 rfl)) (fun H locs hP hS => ?_)
  refine lv_if_eq (tgt := 14) C.1 C.2.1 (kd kX7_account_0 4 rfl) (by decide) (fun q => ?_) (fun q => ?_)
  · have hf := fif_pos q hf
    refine lv_aload_n C.1 C.2.1 (kd kX7_account_0 7 rfl) rfl (lv_at hl 0 rfl) ?_
    refine fl_get (j := 4) (v := .ref (Γ.1 138)) C hP rfl (Nat.le_of_ble_eq_true rfl) rfl inX7 (Nat.le_of_ble_eq_true rfl) tw_287 rfl (kd kX7_account_0 8 rfl) ?_
    refine lv_aload_n C.1 C.2.1 (kd kX7_account_0 9 rfl) rfl (lv_at hl 0 rfl) ?_
    refine fl_get (j := 0) (v := .ref (Γ.1 1)) C hP rfl (Nat.le_of_ble_eq_true rfl) rfl inX7 (Nat.le_of_ble_eq_true rfl) tw_283 rfl (kd kX7_account_0 10 rfl) ?_
    obtain ⟨σ2, hσ2, hf⟩ := fcallv_some hf
    refine fl_v hS (fl_runV (As := [.ref (Γ.1 1)]) (rest := []) C hP rfl (Nat.le_of_ble_eq_true rfl) rfl (m_X0_make C.2.2.2.2.2.2.2.2 l rfl hσ2) (fgV tw_535 tw_536 tw_537 tw_71 tw_538) hd_X0_make ⟨rfl, rfl, Nat.le_of_ble_eq_true rfl, Nat.le_of_ble_eq_true rfl⟩ rfl hl.1 rfl (Nat.le_of_ble_eq_true rfl) (kd kX7_account_0 11 rfl)) (fun H locs hP hS => ?_)
    refine lv_aload_n C.1 C.2.1 (kd kX7_account_0 12 rfl) rfl (lv_at hl 0 rfl) ?_
    refine fl_get (j := 5) (v := .ref (Γ.1 145)) C hP rfl (Nat.le_of_ble_eq_true rfl) rfl inX7 (Nat.le_of_ble_eq_true rfl) tw_288 rfl (kd kX7_account_0 13 rfl) ?_
    refine lv_aload_n C.1 C.2.1 (kd kX7_account_0 14 rfl) rfl (lv_at hl 0 rfl) ?_
    refine fl_get (j := 0) (v := .ref (Γ.1 1)) C hP rfl (Nat.le_of_ble_eq_true rfl) rfl inX7 (Nat.le_of_ble_eq_true rfl) tw_283 rfl (kd kX7_account_0 15 rfl) ?_
    refine lv_aload_n C.1 C.2.1 (kd kX7_account_0 16 rfl) rfl (lv_at hl 0 rfl) ?_
    refine fl_get (j := 4) (v := .ref (Γ.1 138)) C hP rfl (Nat.le_of_ble_eq_true rfl) rfl inX7 (Nat.le_of_ble_eq_true rfl) tw_287 rfl (kd kX7_account_0 17 rfl) ?_
    obtain ⟨σ3, hσ3, hf⟩ := fcallv_some hf
    refine fl_v hS (fl_runV (As := [.ref (Γ.1 1), .ref (Γ.1 138)]) (rest := []) C hP rfl (Nat.le_of_ble_eq_true rfl) rfl (m_X2_make C.2.2.2.2.2.2.2.2 l rfl hσ3) (fgV tw_612 tw_613 tw_614 tw_72 tw_615) hd_X2_make ⟨rfl, rfl, Nat.le_of_ble_eq_true rfl, Nat.le_of_ble_eq_true rfl⟩ rfl hl.1 rfl (Nat.le_of_ble_eq_true rfl) (kd kX7_account_0 18 rfl)) (fun H locs hP hS => ?_)
    refine lv_iload_n C.1 C.2.1 (kd kX7_account_0 19 rfl) rfl (lv_at hl 1 rfl) ?_
    by_cases q0 : x1 = (0 : Int32)
    · have hf := fif_pos q0 hf
      refine lv_tableIn (tgt := 92) C.1 C.2.1 (kd kX7_account_0 20 rfl) (by rw [q0] <;> decide) (by rw [q0] <;> decide) (by rw [q0] <;> rfl) (by decide) ?_
      refine lv_aload_n C.1 C.2.1 (kd kX7_account_0 21 rfl) rfl (lv_at hl 0 rfl) ?_
      refine fl_get (j := 4) (v := .ref (Γ.1 138)) C hP rfl (Nat.le_of_ble_eq_true rfl) rfl inX7 (Nat.le_of_ble_eq_true rfl) tw_287 rfl (kd kX7_account_0 22 rfl) ?_
      refine lv_aload_n C.1 C.2.1 (kd kX7_account_0 23 rfl) rfl (lv_at hl 0 rfl) ?_
      refine fl_get (j := 0) (v := .ref (Γ.1 1)) C hP rfl (Nat.le_of_ble_eq_true rfl) rfl inX7 (Nat.le_of_ble_eq_true rfl) tw_283 rfl (kd kX7_account_0 24 rfl) ?_
      obtain ⟨r4_, σ4, hσ4, hf⟩ := fcall_some hf
      refine fl_i hS (fl_runV (As := [.ref (Γ.1 1)]) (rest := []) C hP rfl (Nat.le_of_ble_eq_true rfl) rfl (m_X0_countAllSailing C.2.2.2.2.2.2.2.2 l rfl hσ4) (fgV tw_765 tw_766 tw_767 tw_71 tw_768) hd_X0_countAllSailing ⟨rfl, rfl, Nat.le_of_ble_eq_true rfl, Nat.le_of_ble_eq_true rfl⟩ rfl hl.1 rfl (Nat.le_of_ble_eq_true rfl) (kd kX7_account_0 25 rfl)) (fun H locs hP hS => ?_)
      exact fl_iret C hP hS hf (kd kX7_account_0 26 rfl)
    have hf := fif_neg q0 hf
    have z0 : ¬ x1.toInt = 0 := fi_ne q0 (by decide)
    by_cases q1 : x1 = (1 : Int32)
    · have hf := fif_pos q1 hf
      refine lv_tableIn (tgt := 104) C.1 C.2.1 (kd kX7_account_0 20 rfl) (by rw [q1] <;> decide) (by rw [q1] <;> decide) (by rw [q1] <;> rfl) (by decide) ?_
      refine lv_aload_n C.1 C.2.1 (kd kX7_account_0 27 rfl) rfl (lv_at hl 0 rfl) ?_
      refine fl_get (j := 0) (v := .ref (Γ.1 1)) C hP rfl (Nat.le_of_ble_eq_true rfl) rfl inX7 (Nat.le_of_ble_eq_true rfl) tw_283 rfl (kd kX7_account_0 28 rfl) ?_
      refine fl_get (j := 2) (v := .ref (Γ.1 6)) C hP rfl (Nat.le_of_ble_eq_true rfl) rfl inX3 (Nat.le_of_ble_eq_true rfl) tw_120 rfl (kd kX7_account_0 29 rfl) ?_
      obtain ⟨r5_, σ5, hσ5, hf⟩ := fcall_some hf
      refine fl_i hS (fl_runV (As := []) (rest := []) C hP rfl (Nat.le_of_ble_eq_true rfl) rfl (m_X5_size C.2.2.2.2.2.2.2.2 l rfl hσ5) (fgV tw_527 tw_414 tw_415 tw_69 tw_416) hd_X5_size ⟨rfl, rfl, Nat.le_of_ble_eq_true rfl, Nat.le_of_ble_eq_true rfl⟩ rfl hl.1 rfl (Nat.le_of_ble_eq_true rfl) (kd kX7_account_0 30 rfl)) (fun H locs hP hS => ?_)
      refine lv_aload_n C.1 C.2.1 (kd kX7_account_0 31 rfl) rfl (lv_at hl 0 rfl) ?_
      refine fl_get (j := 4) (v := .ref (Γ.1 138)) C hP rfl (Nat.le_of_ble_eq_true rfl) rfl inX7 (Nat.le_of_ble_eq_true rfl) tw_287 rfl (kd kX7_account_0 32 rfl) ?_
      refine lv_aload_n C.1 C.2.1 (kd kX7_account_0 33 rfl) rfl (lv_at hl 0 rfl) ?_
      refine fl_get (j := 0) (v := .ref (Γ.1 1)) C hP rfl (Nat.le_of_ble_eq_true rfl) rfl inX7 (Nat.le_of_ble_eq_true rfl) tw_283 rfl (kd kX7_account_0 34 rfl) ?_
      obtain ⟨r6_, σ6, hσ6, hf⟩ := fcall_some hf
      refine fl_i hS (fl_runV (As := [.ref (Γ.1 1)]) (rest := [.int r5_]) C hP rfl (Nat.le_of_ble_eq_true rfl) rfl (m_X0_countAllSailing C.2.2.2.2.2.2.2.2 l rfl hσ6) (fgV tw_765 tw_766 tw_767 tw_71 tw_768) hd_X0_countAllSailing ⟨rfl, rfl, Nat.le_of_ble_eq_true rfl, Nat.le_of_ble_eq_true rfl⟩ rfl hl.1 rfl (Nat.le_of_ble_eq_true rfl) (kd kX7_account_0 35 rfl)) (fun H locs hP hS => ?_)
      refine lv_isub C.1 C.2.1 (kd kX7_account_0 36 rfl) ?_
      exact fl_iret C hP hS hf (kd kX7_account_0 37 rfl)
    have hf := fif_neg q1 hf
    have z1 : ¬ x1.toInt = 1 := fi_ne q1 (by decide)
    by_cases q2 : x1 = (2 : Int32)
    · have hf := fif_pos q2 hf
      refine lv_tableIn (tgt := 127) C.1 C.2.1 (kd kX7_account_0 20 rfl) (by rw [q2] <;> decide) (by rw [q2] <;> decide) (by rw [q2] <;> rfl) (by decide) ?_
      refine lv_aload_n C.1 C.2.1 (kd kX7_account_0 38 rfl) rfl (lv_at hl 0 rfl) ?_
      refine fl_get (j := 4) (v := .ref (Γ.1 138)) C hP rfl (Nat.le_of_ble_eq_true rfl) rfl inX7 (Nat.le_of_ble_eq_true rfl) tw_287 rfl (kd kX7_account_0 39 rfl) ?_
      refine lv_aload_n C.1 C.2.1 (kd kX7_account_0 40 rfl) rfl (lv_at hl 0 rfl) ?_
      refine fl_get (j := 0) (v := .ref (Γ.1 1)) C hP rfl (Nat.le_of_ble_eq_true rfl) rfl inX7 (Nat.le_of_ble_eq_true rfl) tw_283 rfl (kd kX7_account_0 41 rfl) ?_
      refine lv_iconst (v := (0 : Int32)) C.1 C.2.1 (kd kX7_account_0 42 rfl) (by decide) ?_
      obtain ⟨r7_, σ7, hσ7, hf⟩ := fcall_some hf
      refine fl_i hS (fl_runV (As := [.ref (Γ.1 1), .int (0 : Int32)]) (rest := []) C hP rfl (Nat.le_of_ble_eq_true rfl) rfl (m_X0_sumPassengers C.2.2.2.2.2.2.2.2 l rfl hσ7) (fgV tw_769 tw_770 tw_771 tw_71 tw_772) hd_X0_sumPassengers ⟨rfl, rfl, Nat.le_of_ble_eq_true rfl, Nat.le_of_ble_eq_true rfl⟩ rfl hl.1 rfl (Nat.le_of_ble_eq_true rfl) (kd kX7_account_0 43 rfl)) (fun H locs hP hS => ?_)
      exact fl_iret C hP hS hf (kd kX7_account_0 44 rfl)
    have hf := fif_neg q2 hf
    have z2 : ¬ x1.toInt = 2 := fi_ne q2 (by decide)
    by_cases q3 : x1 = (3 : Int32)
    · have hf := fif_pos q3 hf
      refine lv_tableIn (tgt := 140) C.1 C.2.1 (kd kX7_account_0 20 rfl) (by rw [q3] <;> decide) (by rw [q3] <;> decide) (by rw [q3] <;> rfl) (by decide) ?_
      refine lv_aload_n C.1 C.2.1 (kd kX7_account_0 45 rfl) rfl (lv_at hl 0 rfl) ?_
      refine fl_get (j := 4) (v := .ref (Γ.1 138)) C hP rfl (Nat.le_of_ble_eq_true rfl) rfl inX7 (Nat.le_of_ble_eq_true rfl) tw_287 rfl (kd kX7_account_0 46 rfl) ?_
      refine lv_aload_n C.1 C.2.1 (kd kX7_account_0 47 rfl) rfl (lv_at hl 0 rfl) ?_
      refine fl_get (j := 0) (v := .ref (Γ.1 1)) C hP rfl (Nat.le_of_ble_eq_true rfl) rfl inX7 (Nat.le_of_ble_eq_true rfl) tw_283 rfl (kd kX7_account_0 48 rfl) ?_
      refine lv_iconst (v := (1 : Int32)) C.1 C.2.1 (kd kX7_account_0 49 rfl) (by decide) ?_
      obtain ⟨r8_, σ8, hσ8, hf⟩ := fcall_some hf
      refine fl_i hS (fl_runV (As := [.ref (Γ.1 1), .int (1 : Int32)]) (rest := []) C hP rfl (Nat.le_of_ble_eq_true rfl) rfl (m_X0_sumPassengers C.2.2.2.2.2.2.2.2 l rfl hσ8) (fgV tw_769 tw_770 tw_771 tw_71 tw_772) hd_X0_sumPassengers ⟨rfl, rfl, Nat.le_of_ble_eq_true rfl, Nat.le_of_ble_eq_true rfl⟩ rfl hl.1 rfl (Nat.le_of_ble_eq_true rfl) (kd kX7_account_0 50 rfl)) (fun H locs hP hS => ?_)
      exact fl_iret C hP hS hf (kd kX7_account_0 51 rfl)
    have hf := fif_neg q3 hf
    have z3 : ¬ x1.toInt = 3 := fi_ne q3 (by decide)
    by_cases q4 : x1 = (4 : Int32)
    · have hf := fif_pos q4 hf
      refine lv_tableIn (tgt := 153) C.1 C.2.1 (kd kX7_account_0 20 rfl) (by rw [q4] <;> decide) (by rw [q4] <;> decide) (by rw [q4] <;> rfl) (by decide) ?_
      refine lv_aload_n C.1 C.2.1 (kd kX7_account_0 52 rfl) rfl (lv_at hl 0 rfl) ?_
      refine fl_get (j := 5) (v := .ref (Γ.1 145)) C hP rfl (Nat.le_of_ble_eq_true rfl) rfl inX7 (Nat.le_of_ble_eq_true rfl) tw_288 rfl (kd kX7_account_0 53 rfl) ?_
      refine lv_aload_n C.1 C.2.1 (kd kX7_account_0 54 rfl) rfl (lv_at hl 0 rfl) ?_
      refine fl_get (j := 0) (v := .ref (Γ.1 1)) C hP rfl (Nat.le_of_ble_eq_true rfl) rfl inX7 (Nat.le_of_ble_eq_true rfl) tw_283 rfl (kd kX7_account_0 55 rfl) ?_
      obtain ⟨r9_, σ9, hσ9, hf⟩ := fcall_some hf
      refine fl_i hS (fl_runV (As := [.ref (Γ.1 1)]) (rest := []) C hP rfl (Nat.le_of_ble_eq_true rfl) rfl (m_X2_countAllAboard C.2.2.2.2.2.2.2.2 l rfl hσ9) (fgV tw_773 tw_774 tw_775 tw_72 tw_776) hd_X2_countAllAboard ⟨rfl, rfl, Nat.le_of_ble_eq_true rfl, Nat.le_of_ble_eq_true rfl⟩ rfl hl.1 rfl (Nat.le_of_ble_eq_true rfl) (kd kX7_account_0 56 rfl)) (fun H locs hP hS => ?_)
      exact fl_iret C hP hS hf (kd kX7_account_0 57 rfl)
    have hf := fif_neg q4 hf
    have z4 : ¬ x1.toInt = 4 := fi_ne q4 (by decide)
    by_cases q5 : x1 = (5 : Int32)
    · have hf := fif_pos q5 hf
      refine lv_tableIn (tgt := 165) C.1 C.2.1 (kd kX7_account_0 20 rfl) (by rw [q5] <;> decide) (by rw [q5] <;> decide) (by rw [q5] <;> rfl) (by decide) ?_
      refine lv_aload_n C.1 C.2.1 (kd kX7_account_0 58 rfl) rfl (lv_at hl 0 rfl) ?_
      refine fl_get (j := 0) (v := .ref (Γ.1 1)) C hP rfl (Nat.le_of_ble_eq_true rfl) rfl inX7 (Nat.le_of_ble_eq_true rfl) tw_283 rfl (kd kX7_account_0 59 rfl) ?_
      refine fl_get (j := 3) (v := .ref (Γ.1 8)) C hP rfl (Nat.le_of_ble_eq_true rfl) rfl inX3 (Nat.le_of_ble_eq_true rfl) tw_123 rfl (kd kX7_account_1 0 rfl) ?_
      obtain ⟨r10_, σ10, hσ10, hf⟩ := fcall_some hf
      refine fl_i hS (fl_runV (As := []) (rest := []) C hP rfl (Nat.le_of_ble_eq_true rfl) rfl (m_X5_size C.2.2.2.2.2.2.2.2 l rfl hσ10) (fgV tw_527 tw_414 tw_415 tw_69 tw_416) hd_X5_size ⟨rfl, rfl, Nat.le_of_ble_eq_true rfl, Nat.le_of_ble_eq_true rfl⟩ rfl hl.1 rfl (Nat.le_of_ble_eq_true rfl) (kd kX7_account_1 1 rfl)) (fun H locs hP hS => ?_)
      refine lv_aload_n C.1 C.2.1 (kd kX7_account_1 2 rfl) rfl (lv_at hl 0 rfl) ?_
      refine fl_get (j := 5) (v := .ref (Γ.1 145)) C hP rfl (Nat.le_of_ble_eq_true rfl) rfl inX7 (Nat.le_of_ble_eq_true rfl) tw_288 rfl (kd kX7_account_1 3 rfl) ?_
      refine lv_aload_n C.1 C.2.1 (kd kX7_account_1 4 rfl) rfl (lv_at hl 0 rfl) ?_
      refine fl_get (j := 0) (v := .ref (Γ.1 1)) C hP rfl (Nat.le_of_ble_eq_true rfl) rfl inX7 (Nat.le_of_ble_eq_true rfl) tw_283 rfl (kd kX7_account_1 5 rfl) ?_
      obtain ⟨r11_, σ11, hσ11, hf⟩ := fcall_some hf
      refine fl_i hS (fl_runV (As := [.ref (Γ.1 1)]) (rest := [.int r10_]) C hP rfl (Nat.le_of_ble_eq_true rfl) rfl (m_X2_countAllAboard C.2.2.2.2.2.2.2.2 l rfl hσ11) (fgV tw_773 tw_774 tw_775 tw_72 tw_776) hd_X2_countAllAboard ⟨rfl, rfl, Nat.le_of_ble_eq_true rfl, Nat.le_of_ble_eq_true rfl⟩ rfl hl.1 rfl (Nat.le_of_ble_eq_true rfl) (kd kX7_account_1 6 rfl)) (fun H locs hP hS => ?_)
      refine lv_isub C.1 C.2.1 (kd kX7_account_1 7 rfl) ?_
      exact fl_iret C hP hS hf (kd kX7_account_1 8 rfl)
    have hf := fif_neg q5 hf
    have z5 : ¬ x1.toInt = 5 := fi_ne q5 (by decide)
    by_cases q6 : x1 = (6 : Int32)
    · have hf := fif_pos q6 hf
      refine lv_tableIn (tgt := 188) C.1 C.2.1 (kd kX7_account_0 20 rfl) (by rw [q6] <;> decide) (by rw [q6] <;> decide) (by rw [q6] <;> rfl) (by decide) ?_
      refine lv_aload_n C.1 C.2.1 (kd kX7_account_1 9 rfl) rfl (lv_at hl 0 rfl) ?_
      refine fl_get (j := 4) (v := .ref (Γ.1 138)) C hP rfl (Nat.le_of_ble_eq_true rfl) rfl inX7 (Nat.le_of_ble_eq_true rfl) tw_287 rfl (kd kX7_account_1 10 rfl) ?_
      refine lv_aload_n C.1 C.2.1 (kd kX7_account_1 11 rfl) rfl (lv_at hl 0 rfl) ?_
      refine fl_get (j := 0) (v := .ref (Γ.1 1)) C hP rfl (Nat.le_of_ble_eq_true rfl) rfl inX7 (Nat.le_of_ble_eq_true rfl) tw_283 rfl (kd kX7_account_1 12 rfl) ?_
      obtain ⟨r12_, σ12, hσ12, hf⟩ := fcall_some hf
      refine fl_i hS (fl_runV (As := [.ref (Γ.1 1)]) (rest := []) C hP rfl (Nat.le_of_ble_eq_true rfl) rfl (m_X0_sumDelays C.2.2.2.2.2.2.2.2 l rfl hσ12) (fgV tw_777 tw_778 tw_779 tw_71 tw_780) hd_X0_sumDelays ⟨rfl, rfl, Nat.le_of_ble_eq_true rfl, Nat.le_of_ble_eq_true rfl⟩ rfl hl.1 rfl (Nat.le_of_ble_eq_true rfl) (kd kX7_account_1 13 rfl)) (fun H locs hP hS => ?_)
      exact fl_iret C hP hS hf (kd kX7_account_1 14 rfl)
    have hf := fif_neg q6 hf
    have z6 : ¬ x1.toInt = 6 := fi_ne q6 (by decide)
    by_cases q7 : x1 = (7 : Int32)
    · have hf := fif_pos q7 hf
      refine lv_tableIn (tgt := 200) C.1 C.2.1 (kd kX7_account_0 20 rfl) (by rw [q7] <;> decide) (by rw [q7] <;> decide) (by rw [q7] <;> rfl) (by decide) ?_
      refine lv_aload_n C.1 C.2.1 (kd kX7_account_1 15 rfl) rfl (lv_at hl 0 rfl) ?_
      refine fl_get (j := 5) (v := .ref (Γ.1 145)) C hP rfl (Nat.le_of_ble_eq_true rfl) rfl inX7 (Nat.le_of_ble_eq_true rfl) tw_288 rfl (kd kX7_account_1 16 rfl) ?_
      refine lv_aload_n C.1 C.2.1 (kd kX7_account_1 17 rfl) rfl (lv_at hl 0 rfl) ?_
      refine fl_get (j := 0) (v := .ref (Γ.1 1)) C hP rfl (Nat.le_of_ble_eq_true rfl) rfl inX7 (Nat.le_of_ble_eq_true rfl) tw_283 rfl (kd kX7_account_1 18 rfl) ?_
      obtain ⟨r13_, σ13, hσ13, hf⟩ := fcall_some hf
      refine fl_i hS (fl_runV (As := [.ref (Γ.1 1)]) (rest := []) C hP rfl (Nat.le_of_ble_eq_true rfl) rfl (m_X2_sumMetersAboard C.2.2.2.2.2.2.2.2 l rfl hσ13) (fgV tw_781 tw_782 tw_783 tw_72 tw_784) hd_X2_sumMetersAboard ⟨rfl, rfl, Nat.le_of_ble_eq_true rfl, Nat.le_of_ble_eq_true rfl⟩ rfl hl.1 rfl (Nat.le_of_ble_eq_true rfl) (kd kX7_account_1 19 rfl)) (fun H locs hP hS => ?_)
      exact fl_iret C hP hS hf (kd kX7_account_1 20 rfl)
    have hf := fif_neg q7 hf
    have z7 : ¬ x1.toInt = 7 := fi_ne q7 (by decide)
    by_cases q8 : x1 = (8 : Int32)
    · have hf := fif_pos q8 hf
      refine lv_tableIn (tgt := 212) C.1 C.2.1 (kd kX7_account_0 20 rfl) (by rw [q8] <;> decide) (by rw [q8] <;> decide) (by rw [q8] <;> rfl) (by decide) ?_
      refine lv_aload_n C.1 C.2.1 (kd kX7_account_1 21 rfl) rfl (lv_at hl 0 rfl) ?_
      refine fl_get (j := 4) (v := .ref (Γ.1 138)) C hP rfl (Nat.le_of_ble_eq_true rfl) rfl inX7 (Nat.le_of_ble_eq_true rfl) tw_287 rfl (kd kX7_account_1 22 rfl) ?_
      refine lv_aload_n C.1 C.2.1 (kd kX7_account_1 23 rfl) rfl (lv_at hl 0 rfl) ?_
      refine fl_get (j := 0) (v := .ref (Γ.1 1)) C hP rfl (Nat.le_of_ble_eq_true rfl) rfl inX7 (Nat.le_of_ble_eq_true rfl) tw_283 rfl (kd kX7_account_1 24 rfl) ?_
      obtain ⟨r14_, σ14, hσ14, hf⟩ := fcall_some hf
      refine fl_i hS (fl_runV (As := [.ref (Γ.1 1)]) (rest := []) C hP rfl (Nat.le_of_ble_eq_true rfl) rfl (m_X0_sumLaneMeters C.2.2.2.2.2.2.2.2 l rfl hσ14) (fgV tw_785 tw_786 tw_787 tw_71 tw_788) hd_X0_sumLaneMeters ⟨rfl, rfl, Nat.le_of_ble_eq_true rfl, Nat.le_of_ble_eq_true rfl⟩ rfl hl.1 rfl (Nat.le_of_ble_eq_true rfl) (kd kX7_account_1 25 rfl)) (fun H locs hP hS => ?_)
      exact fl_iret C hP hS hf (kd kX7_account_1 26 rfl)
    have hf := fif_neg q8 hf
    have z8 : ¬ x1.toInt = 8 := fi_ne q8 (by decide)
    refine lv_tableOut (tgt := 224) C.1 C.2.1 (kd kX7_account_0 20 rfl) (by omega) (by decide) ?_
    refine lv_aload_n C.1 C.2.1 (kd kX7_account_1 27 rfl) rfl (lv_at hl 0 rfl) ?_
    refine fl_get (j := 5) (v := .ref (Γ.1 145)) C hP rfl (Nat.le_of_ble_eq_true rfl) rfl inX7 (Nat.le_of_ble_eq_true rfl) tw_288 rfl (kd kX7_account_1 28 rfl) ?_
    refine lv_aload_n C.1 C.2.1 (kd kX7_account_1 29 rfl) rfl (lv_at hl 0 rfl) ?_
    refine fl_get (j := 0) (v := .ref (Γ.1 1)) C hP rfl (Nat.le_of_ble_eq_true rfl) rfl inX7 (Nat.le_of_ble_eq_true rfl) tw_283 rfl (kd kX7_account_1 30 rfl) ?_
    obtain ⟨r15_, σ15, hσ15, hf⟩ := fcall_some hf
    refine fl_i hS (fl_runV (As := [.ref (Γ.1 1)]) (rest := []) C hP rfl (Nat.le_of_ble_eq_true rfl) rfl (m_X2_sumShifts C.2.2.2.2.2.2.2.2 l rfl hσ15) (fgV tw_791 tw_792 tw_793 tw_72 tw_794) hd_X2_sumShifts ⟨rfl, rfl, Nat.le_of_ble_eq_true rfl, Nat.le_of_ble_eq_true rfl⟩ rfl hl.1 rfl (Nat.le_of_ble_eq_true rfl) (kd kX7_account_1 31 rfl)) (fun H locs hP hS => ?_)
    exact fl_iret C hP hS hf (kd kX7_account_1 32 rfl)
  have hf := fif_neg q hf
  refine lv_sipush (v := (-10002 : Int32)) C.1 C.2.1 (kd kX7_account_0 5 rfl) (by decide) ?_
  exact fl_iret C hP hS hf (kd kX7_account_0 6 rfl)
def f_X7_loadBits (σ : fS) : Option (Int32 × fS) := fcallv (f_X0_make 1 σ) (fun σ1 => fcallv (f_X2_make 1 σ1) (fun σ2 => fcall (f_X0_sumLaneMeters 1 σ2) (fun r3_ σ3 => (if r3_ = 0 then some ((-10004 : Int32), σ3) else fcall (f_X2_sumMetersAboard 1 σ3) (fun r4_ σ4 => fg ((FP.fdiv (FP.i2f r4_) (FP.i2f r3_)) &&& 0x7fffffff ≤ 0x7f800000) (fcall (f_X7_bitsOf (FP.fdiv (FP.i2f r4_) (FP.i2f r3_)) σ4) (fun r5_ σ5 => some (r5_, σ5))))))))
set_option maxRecDepth 100000 in
set_option maxHeartbeats 4000000 in
theorem m_X7_loadBits {Γ : fGm} (hI : fI Γ) (l : Launch) {σ : fS} {r : Int32} {σ' : fS} (hf : f_X7_loadBits  σ = some (r, σ')) : Met l yX7_loadBits (.code yX7_loadBits cX7_loadBits 2 (some .int) :: lw_g) ({ frames := 7, cells := 0, slots := 0, locals := 165 } : Room) (fPre Γ [.ref (Γ.1 0)] σ) (fQi Γ r σ') 0 0 (fAd Γ) := by
  refine fl_enter (own := RX7) hI (by decide +kernel) rfl (Nat.le_of_ble_eq_true rfl) ?_
  intro p e s m args below meth c ls C hl hP hS
  have hl : lv_has ls 2 [(0, .ref (Γ.1 0))] := hl
  obtain ⟨H, hH⟩ : ∃ H, H = s.heap := ⟨_, rfl⟩
  obtain ⟨locs, hL⟩ : ∃ L : List Loc, L = [] := ⟨_, rfl⟩
  have hP : fH Γ σ H := by rw [hH]; exact hP
  have hS : va_S (fAd Γ) s.heap H locs := by rw [hH, hL]; exact hS
  suffices hw : W p l e ({ frames := 7, cells := 0, slots := 0, locals := 165 } : Room) s m args below meth c H locs 0 0 (MQ below (fQi Γ r σ') args s 0 0 (fAd Γ)) (F0 m 0 ls []) by rw [hH, hL] at hw; exact hw
  unfold f_X7_loadBits at hf
  refine lv_aload_n C.1 C.2.1 (kd kX7_loadBits_0 0 rfl) rfl (lv_at hl 0 rfl) ?_
  refine fl_get (j := 4) (v := .ref (Γ.1 138)) C hP rfl (Nat.le_of_ble_eq_true rfl) rfl inX7 (Nat.le_of_ble_eq_true rfl) tw_287 rfl (kd kX7_loadBits_0 1 rfl) ?_
  refine lv_aload_n C.1 C.2.1 (kd kX7_loadBits_0 2 rfl) rfl (lv_at hl 0 rfl) ?_
  refine fl_get (j := 0) (v := .ref (Γ.1 1)) C hP rfl (Nat.le_of_ble_eq_true rfl) rfl inX7 (Nat.le_of_ble_eq_true rfl) tw_283 rfl (kd kX7_loadBits_0 3 rfl) ?_
  obtain ⟨σ1, hσ1, hf⟩ := fcallv_some hf
  refine fl_v hS (fl_runV (As := [.ref (Γ.1 1)]) (rest := []) C hP rfl (Nat.le_of_ble_eq_true rfl) rfl (m_X0_make C.2.2.2.2.2.2.2.2 l rfl hσ1) (fgV tw_535 tw_536 tw_537 tw_71 tw_538) hd_X0_make ⟨rfl, rfl, Nat.le_of_ble_eq_true rfl, Nat.le_of_ble_eq_true rfl⟩ rfl hl.1 rfl (Nat.le_of_ble_eq_true rfl) (kd kX7_loadBits_0 4 rfl)) (fun H locs hP hS => ?_)
  refine lv_aload_n C.1 C.2.1 (kd kX7_loadBits_0 5 rfl) rfl (lv_at hl 0 rfl) ?_
  refine fl_get (j := 5) (v := .ref (Γ.1 145)) C hP rfl (Nat.le_of_ble_eq_true rfl) rfl inX7 (Nat.le_of_ble_eq_true rfl) tw_288 rfl (kd kX7_loadBits_0 6 rfl) ?_
  refine lv_aload_n C.1 C.2.1 (kd kX7_loadBits_0 7 rfl) rfl (lv_at hl 0 rfl) ?_
  refine fl_get (j := 0) (v := .ref (Γ.1 1)) C hP rfl (Nat.le_of_ble_eq_true rfl) rfl inX7 (Nat.le_of_ble_eq_true rfl) tw_283 rfl (kd kX7_loadBits_0 8 rfl) ?_
  refine lv_aload_n C.1 C.2.1 (kd kX7_loadBits_0 9 rfl) rfl (lv_at hl 0 rfl) ?_
  refine fl_get (j := 4) (v := .ref (Γ.1 138)) C hP rfl (Nat.le_of_ble_eq_true rfl) rfl inX7 (Nat.le_of_ble_eq_true rfl) tw_287 rfl (kd kX7_loadBits_0 10 rfl) ?_
  obtain ⟨σ2, hσ2, hf⟩ := fcallv_some hf
  refine fl_v hS (fl_runV (As := [.ref (Γ.1 1), .ref (Γ.1 138)]) (rest := []) C hP rfl (Nat.le_of_ble_eq_true rfl) rfl (m_X2_make C.2.2.2.2.2.2.2.2 l rfl hσ2) (fgV tw_612 tw_613 tw_614 tw_72 tw_615) hd_X2_make ⟨rfl, rfl, Nat.le_of_ble_eq_true rfl, Nat.le_of_ble_eq_true rfl⟩ rfl hl.1 rfl (Nat.le_of_ble_eq_true rfl) (kd kX7_loadBits_0 11 rfl)) (fun H locs hP hS => ?_)
  refine lv_aload_n C.1 C.2.1 (kd kX7_loadBits_0 12 rfl) rfl (lv_at hl 0 rfl) ?_
  refine fl_get (j := 4) (v := .ref (Γ.1 138)) C hP rfl (Nat.le_of_ble_eq_true rfl) rfl inX7 (Nat.le_of_ble_eq_true rfl) tw_287 rfl (kd kX7_loadBits_0 13 rfl) ?_
  refine lv_aload_n C.1 C.2.1 (kd kX7_loadBits_0 14 rfl) rfl (lv_at hl 0 rfl) ?_
  refine fl_get (j := 0) (v := .ref (Γ.1 1)) C hP rfl (Nat.le_of_ble_eq_true rfl) rfl inX7 (Nat.le_of_ble_eq_true rfl) tw_283 rfl (kd kX7_loadBits_0 15 rfl) ?_
  obtain ⟨r3_, σ3, hσ3, hf⟩ := fcall_some hf
  refine fl_i hS (fl_runV (As := [.ref (Γ.1 1)]) (rest := []) C hP rfl (Nat.le_of_ble_eq_true rfl) rfl (m_X0_sumLaneMeters C.2.2.2.2.2.2.2.2 l rfl hσ3) (fgV tw_785 tw_786 tw_787 tw_71 tw_788) hd_X0_sumLaneMeters ⟨rfl, rfl, Nat.le_of_ble_eq_true rfl, Nat.le_of_ble_eq_true rfl⟩ rfl hl.1 rfl (Nat.le_of_ble_eq_true rfl) (kd kX7_loadBits_0 16 rfl)) (fun H locs hP hS => ?_)
  refine lv_istore_n (lv' := [(1, .int r3_), (0, .ref (Γ.1 0))]) C.1 C.2.1 (kd kX7_loadBits_0 17 rfl) rfl hl (Nat.le_of_ble_eq_true rfl) rfl (fun ls hl => ?_)
  refine lv_iload_n C.1 C.2.1 (kd kX7_loadBits_0 18 rfl) rfl (lv_at hl 0 rfl) ?_
  refine lv_if_ne (tgt := 46) C.1 C.2.1 (kd kX7_loadBits_0 19 rfl) (by decide) (fun q => ?_) (fun q => ?_)
  · have hf := fif_neg q hf
    refine lv_aload_n C.1 C.2.1 (kd kX7_loadBits_0 22 rfl) rfl (lv_at hl 1 rfl) ?_
    refine fl_get (j := 5) (v := .ref (Γ.1 145)) C hP rfl (Nat.le_of_ble_eq_true rfl) rfl inX7 (Nat.le_of_ble_eq_true rfl) tw_288 rfl (kd kX7_loadBits_0 23 rfl) ?_
    refine lv_aload_n C.1 C.2.1 (kd kX7_loadBits_0 24 rfl) rfl (lv_at hl 1 rfl) ?_
    refine fl_get (j := 0) (v := .ref (Γ.1 1)) C hP rfl (Nat.le_of_ble_eq_true rfl) rfl inX7 (Nat.le_of_ble_eq_true rfl) tw_283 rfl (kd kX7_loadBits_0 25 rfl) ?_
    obtain ⟨r4_, σ4, hσ4, hf⟩ := fcall_some hf
    refine fl_i hS (fl_runV (As := [.ref (Γ.1 1)]) (rest := []) C hP rfl (Nat.le_of_ble_eq_true rfl) rfl (m_X2_sumMetersAboard C.2.2.2.2.2.2.2.2 l rfl hσ4) (fgV tw_781 tw_782 tw_783 tw_72 tw_784) hd_X2_sumMetersAboard ⟨rfl, rfl, Nat.le_of_ble_eq_true rfl, Nat.le_of_ble_eq_true rfl⟩ rfl hl.1 rfl (Nat.le_of_ble_eq_true rfl) (kd kX7_loadBits_0 26 rfl)) (fun H locs hP hS => ?_)
    refine lv_i2f C.1 C.2.1 (kd kX7_loadBits_0 27 rfl) ?_
    refine lv_iload_n C.1 C.2.1 (kd kX7_loadBits_0 28 rfl) rfl (lv_at hl 0 rfl) ?_
    refine lv_i2f C.1 C.2.1 (kd kX7_loadBits_0 29 rfl) ?_
    obtain ⟨hq, hf⟩ := fg_some hf
    refine lv_fdiv C.1 C.2.1 (kd kX7_loadBits_0 30 rfl) hq ?_
    obtain ⟨r5_, σ5, hσ5, hf⟩ := fcall_some hf
    refine fl_i hS (fl_runS (As := [.float (FP.fdiv (FP.i2f r4_) (FP.i2f r3_))]) (rest := []) C hP (m_X7_bitsOf C.2.2.2.2.2.2.2.2 l  hσ5) (fgS tw_696 tw_697 tw_67 tw_698) hs_X7_bitsOf ⟨rfl, rfl, Nat.le_of_ble_eq_true rfl, Nat.le_of_ble_eq_true rfl⟩ rfl hl.1 rfl (Nat.le_of_ble_eq_true rfl) (kd kX7_loadBits_0 31 rfl)) (fun H locs hP hS => ?_)
    exact fl_iret C hP hS hf (kd kX7_loadBits_0 32 rfl)
  have hf := fif_pos q hf
  refine lv_sipush (v := (-10004 : Int32)) C.1 C.2.1 (kd kX7_loadBits_0 20 rfl) (by decide) ?_
  exact fl_iret C hP hS hf (kd kX7_loadBits_0 21 rfl)
def f_X7_sailingIf (x1 : Int32) (σ : fS) : Option (Int32 × fS) := fcall (f_X7_isOutside x1 (0 : Int32) (200 : Int32) σ) (fun r1_ σ1 => (if r1_ = 0 then fcallv (f_X3_copyFrom 16 1 σ1) (fun σ2 => fL (fu σ2 16 7 x1) (fun σ3 => fcallv (f_X0_make 16 σ3) (fun σ4 => fcall (f_X0_countAllSailing 16 σ4) (fun r5_ σ5 => some (r5_, σ5))))) else some ((-10002 : Int32), σ1)))
set_option maxRecDepth 100000 in
set_option maxHeartbeats 4000000 in
theorem m_X7_sailingIf {Γ : fGm} (hI : fI Γ) (l : Launch) {x1 : Int32} {σ : fS} {r : Int32} {σ' : fS} (hf : f_X7_sailingIf x1 σ = some (r, σ')) : Met l yX7_sailingIf (.code yX7_sailingIf cX7_sailingIf 2 (some .int) :: lw_g) ({ frames := 7, cells := 0, slots := 0, locals := 165 } : Room) (fPre Γ [.ref (Γ.1 0), .int x1] σ) (fQi Γ r σ') 0 0 (fAd Γ) := by
  refine fl_enter (own := RX7) hI (by decide +kernel) rfl (Nat.le_of_ble_eq_true rfl) ?_
  intro p e s m args below meth c ls C hl hP hS
  have hl : lv_has ls 2 [(0, .ref (Γ.1 0)), (1, .int x1)] := hl
  obtain ⟨H, hH⟩ : ∃ H, H = s.heap := ⟨_, rfl⟩
  obtain ⟨locs, hL⟩ : ∃ L : List Loc, L = [] := ⟨_, rfl⟩
  have hP : fH Γ σ H := by rw [hH]; exact hP
  have hS : va_S (fAd Γ) s.heap H locs := by rw [hH, hL]; exact hS
  suffices hw : W p l e ({ frames := 7, cells := 0, slots := 0, locals := 165 } : Room) s m args below meth c H locs 0 0 (MQ below (fQi Γ r σ') args s 0 0 (fAd Γ)) (F0 m 0 ls []) by rw [hH, hL] at hw; exact hw
  unfold f_X7_sailingIf at hf
  refine lv_iload_n C.1 C.2.1 (kd kX7_sailingIf_0 0 rfl) rfl (lv_at hl 1 rfl) ?_
  refine lv_iconst (v := (0 : Int32)) C.1 C.2.1 (kd kX7_sailingIf_0 1 rfl) (by decide) ?_
  refine lv_sipush (v := (200 : Int32)) C.1 C.2.1 (kd kX7_sailingIf_0 2 rfl) (by decide) ?_
  obtain ⟨r1_, σ1, hσ1, hf⟩ := fcall_some hf
  refine fl_i hS (fl_runS (As := [.int x1, .int (0 : Int32), .int (200 : Int32)]) (rest := []) C hP (m_X7_isOutside C.2.2.2.2.2.2.2.2 l  hσ1) (fgS tw_533 tw_334 tw_67 tw_335) hs_X7_isOutside ⟨rfl, rfl, Nat.le_of_ble_eq_true rfl, Nat.le_of_ble_eq_true rfl⟩ rfl hl.1 rfl (Nat.le_of_ble_eq_true rfl) (kd kX7_sailingIf_0 3 rfl)) (fun H locs hP hS => ?_)
  refine lv_if_eq (tgt := 15) C.1 C.2.1 (kd kX7_sailingIf_0 4 rfl) (by decide) (fun q => ?_) (fun q => ?_)
  · have hf := fif_pos q hf
    refine lv_aload_n C.1 C.2.1 (kd kX7_sailingIf_0 7 rfl) rfl (lv_at hl 0 rfl) ?_
    refine fl_get (j := 1) (v := .ref (Γ.1 16)) C hP rfl (Nat.le_of_ble_eq_true rfl) rfl inX7 (Nat.le_of_ble_eq_true rfl) tw_284 rfl (kd kX7_sailingIf_0 8 rfl) ?_
    refine lv_aload_n C.1 C.2.1 (kd kX7_sailingIf_0 9 rfl) rfl (lv_at hl 0 rfl) ?_
    refine fl_get (j := 0) (v := .ref (Γ.1 1)) C hP rfl (Nat.le_of_ble_eq_true rfl) rfl inX7 (Nat.le_of_ble_eq_true rfl) tw_283 rfl (kd kX7_sailingIf_0 10 rfl) ?_
    obtain ⟨σ2, hσ2, hf⟩ := fcallv_some hf
    refine fl_v hS (fl_runV (As := [.ref (Γ.1 1)]) (rest := []) C hP rfl (Nat.le_of_ble_eq_true rfl) rfl (m_X3_copyFrom C.2.2.2.2.2.2.2.2 l rfl rfl hσ2) (fgV tw_315 tw_316 tw_317 tw_68 tw_318) hd_X3_copyFrom ⟨rfl, rfl, Nat.le_of_ble_eq_true rfl, Nat.le_of_ble_eq_true rfl⟩ rfl hl.1 rfl (Nat.le_of_ble_eq_true rfl) (kd kX7_sailingIf_0 11 rfl)) (fun H locs hP hS => ?_)
    refine lv_aload_n C.1 C.2.1 (kd kX7_sailingIf_0 12 rfl) rfl (lv_at hl 0 rfl) ?_
    refine fl_get (j := 1) (v := .ref (Γ.1 16)) C hP rfl (Nat.le_of_ble_eq_true rfl) rfl inX7 (Nat.le_of_ble_eq_true rfl) tw_284 rfl (kd kX7_sailingIf_0 13 rfl) ?_
    refine lv_iload_n C.1 C.2.1 (kd kX7_sailingIf_0 14 rfl) rfl (lv_at hl 1 rfl) ?_
    obtain ⟨σ3, eσ3, hf⟩ := fL_some hf
    refine fl_put (j := 7) C hP hS rfl rfl (Nat.le_of_ble_eq_true rfl) rfl inX3 tyX3 tyX3_ok nmX3 (Nat.le_of_ble_eq_true rfl) tw_132 rfl rfl rfl (Nat.le_of_ble_eq_true rfl) (kd kX7_sailingIf_0 15 rfl) (fun H locs hP hS => ?_)
    have hP : fH Γ σ3 H := by rw [eσ3]; exact hP
    refine lv_aload_n C.1 C.2.1 (kd kX7_sailingIf_0 16 rfl) rfl (lv_at hl 0 rfl) ?_
    refine fl_get (j := 4) (v := .ref (Γ.1 138)) C hP rfl (Nat.le_of_ble_eq_true rfl) rfl inX7 (Nat.le_of_ble_eq_true rfl) tw_287 rfl (kd kX7_sailingIf_0 17 rfl) ?_
    refine lv_aload_n C.1 C.2.1 (kd kX7_sailingIf_0 18 rfl) rfl (lv_at hl 0 rfl) ?_
    refine fl_get (j := 1) (v := .ref (Γ.1 16)) C hP rfl (Nat.le_of_ble_eq_true rfl) rfl inX7 (Nat.le_of_ble_eq_true rfl) tw_284 rfl (kd kX7_sailingIf_0 19 rfl) ?_
    obtain ⟨σ4, hσ4, hf⟩ := fcallv_some hf
    refine fl_v hS (fl_runV (As := [.ref (Γ.1 16)]) (rest := []) C hP rfl (Nat.le_of_ble_eq_true rfl) rfl (m_X0_make C.2.2.2.2.2.2.2.2 l rfl hσ4) (fgV tw_535 tw_536 tw_537 tw_71 tw_538) hd_X0_make ⟨rfl, rfl, Nat.le_of_ble_eq_true rfl, Nat.le_of_ble_eq_true rfl⟩ rfl hl.1 rfl (Nat.le_of_ble_eq_true rfl) (kd kX7_sailingIf_0 20 rfl)) (fun H locs hP hS => ?_)
    refine lv_aload_n C.1 C.2.1 (kd kX7_sailingIf_0 21 rfl) rfl (lv_at hl 0 rfl) ?_
    refine fl_get (j := 4) (v := .ref (Γ.1 138)) C hP rfl (Nat.le_of_ble_eq_true rfl) rfl inX7 (Nat.le_of_ble_eq_true rfl) tw_287 rfl (kd kX7_sailingIf_0 22 rfl) ?_
    refine lv_aload_n C.1 C.2.1 (kd kX7_sailingIf_0 23 rfl) rfl (lv_at hl 0 rfl) ?_
    refine fl_get (j := 1) (v := .ref (Γ.1 16)) C hP rfl (Nat.le_of_ble_eq_true rfl) rfl inX7 (Nat.le_of_ble_eq_true rfl) tw_284 rfl (kd kX7_sailingIf_0 24 rfl) ?_
    obtain ⟨r5_, σ5, hσ5, hf⟩ := fcall_some hf
    refine fl_i hS (fl_runV (As := [.ref (Γ.1 16)]) (rest := []) C hP rfl (Nat.le_of_ble_eq_true rfl) rfl (m_X0_countAllSailing C.2.2.2.2.2.2.2.2 l rfl hσ5) (fgV tw_765 tw_766 tw_767 tw_71 tw_768) hd_X0_countAllSailing ⟨rfl, rfl, Nat.le_of_ble_eq_true rfl, Nat.le_of_ble_eq_true rfl⟩ rfl hl.1 rfl (Nat.le_of_ble_eq_true rfl) (kd kX7_sailingIf_0 25 rfl)) (fun H locs hP hS => ?_)
    exact fl_iret C hP hS hf (kd kX7_sailingIf_0 26 rfl)
  have hf := fif_neg q hf
  refine lv_sipush (v := (-10002 : Int32)) C.1 C.2.1 (kd kX7_sailingIf_0 5 rfl) (by decide) ?_
  exact fl_iret C hP hS hf (kd kX7_sailingIf_0 6 rfl)
def f_X7_bestBerth_b116 (K36 : Int32 → Int32 → Int32 → Int32 → fS → Option (Int32 × fS)) (v1 : Int32) (v2 : Int32) (v3 : Int32) (v4 : Int32) (σ : fS) : Option (Int32 × fS) := K36 (v1) (v2) (v3) ((v4 + (1 : Int32))) σ
set_option maxRecDepth 100000 in
set_option maxHeartbeats 4000000 in
theorem w_X7_bestBerth_b116 {r : Int32} {σ' : fS} {K36 : Int32 → Int32 → Int32 → Int32 → fS → Option (Int32 × fS)}  (C : fC Γ p s m args meth c cX7_bestBerth (some .int) RX7 6) (hK36 : ∀ (v1 : Int32) (v2 : Int32) (v3 : Int32) (v4 : Int32) (σ : fS) (H : Heap) (locs : List Loc) (ls : Array Slot), K36 v1 v2 v3 v4 σ = some (r, σ') → fH Γ σ H → va_S (fAd Γ) s.heap H locs → lv_has ls 6 [(0, .ref (Γ.1 0)), (1, .int v1), (2, .int v2), (3, .int v3), (4, .int v4)] → W p l e ({ frames := 7, cells := 0, slots := 0, locals := 165 } : Room) s m args below meth c H locs 0 0 (MQ below (fQi Γ r σ') args s 0 0 (fAd Γ)) (F0 m 36 ls [])) : ∀ (v1 : Int32) (v2 : Int32) (v3 : Int32) (v4 : Int32) (σ : fS) (H : Heap) (locs : List Loc) (ls : Array Slot), f_X7_bestBerth_b116 K36 v1 v2 v3 v4 σ = some (r, σ') → fH Γ σ H → va_S (fAd Γ) s.heap H locs → lv_has ls 6 [(0, .ref (Γ.1 0)), (1, .int v1), (2, .int v2), (3, .int v3), (4, .int v4)] → W p l e ({ frames := 7, cells := 0, slots := 0, locals := 165 } : Room) s m args below meth c H locs 0 0 (MQ below (fQi Γ r σ') args s 0 0 (fAd Γ)) (F0 m 116 ls []) := by
  intro v1 v2 v3 v4 σ H locs ls hf hP hS hl
  unfold f_X7_bestBerth_b116 at hf
  refine lv_iinc (v := (v4 + (1 : Int32))) (lv' := [(4, .int (v4 + (1 : Int32))), (0, .ref (Γ.1 0)), (1, .int v1), (2, .int v2), (3, .int v3)]) C.1 C.2.1 (kd kX7_bestBerth_0 57 rfl) hl (k := 4) rfl rfl (Nat.le_of_ble_eq_true rfl) rfl (fun ls hl => ?_)
  refine lv_goto (tgt := 36) C.1 C.2.1 (kd kX7_bestBerth_0 58 rfl) (by decide) ?_
  exact hK36 (v1) (v2) (v3) ((v4 + (1 : Int32))) σ H locs ls hf hP hS (lv_sub hl [1, 2, 3, 4, 0] rfl)
def f_X7_bestBerth_b36 : Nat → Int32 → Int32 → Int32 → Int32 → fS → Option (Int32 × fS)
  | 0, _, _, _, _, _ => none
  | n_ + 1, v1, v2, v3, v4, σ => fcall (f_X5_size 19 3 2 σ) (fun r1_ σ1 => (if r1_ ≤ v4 then some (v2, σ1) else fcallv (f_X5_put 21 12 4 v1 (1 : Int32) v4 σ1) (fun σ2 => fcallv (f_X0_make 16 σ2) (fun σ3 => fcallv (f_X2_make 16 σ3) (fun σ4 => fcall (f_X2_countAllAboard 16 σ4) (fun r5_ σ5 => (if r5_ ≤ v3 then f_X7_bestBerth_b116 (fun v1 v2 v3 v4 σ => f_X7_bestBerth_b36 n_ v1 v2 v3 v4 σ) (v1) (v2) (v3) (v4) σ5 else f_X7_bestBerth_b116 (fun v1 v2 v3 v4 σ => f_X7_bestBerth_b36 n_ v1 v2 v3 v4 σ) (v1) (v4) (r5_) (v4) σ5)))))))
set_option maxRecDepth 100000 in
set_option maxHeartbeats 4000000 in
theorem w_X7_bestBerth_b36 {r : Int32} {σ' : fS}  (C : fC Γ p s m args meth c cX7_bestBerth (some .int) RX7 6) : ∀ (n_ : Nat) (v1 : Int32) (v2 : Int32) (v3 : Int32) (v4 : Int32) (σ : fS) (H : Heap) (locs : List Loc) (ls : Array Slot), f_X7_bestBerth_b36 n_ v1 v2 v3 v4 σ = some (r, σ') → fH Γ σ H → va_S (fAd Γ) s.heap H locs → lv_has ls 6 [(0, .ref (Γ.1 0)), (1, .int v1), (2, .int v2), (3, .int v3), (4, .int v4)] → W p l e ({ frames := 7, cells := 0, slots := 0, locals := 165 } : Room) s m args below meth c H locs 0 0 (MQ below (fQi Γ r σ') args s 0 0 (fAd Γ)) (F0 m 36 ls []) := by
  intro n_
  induction n_ with
  | zero =>
    intro v1 v2 v3 v4 σ H locs ls hf
    cases hf
  | succ n_ ih =>
    intro v1 v2 v3 v4 σ H locs ls hf hP hS hl
    have hf : fcall (f_X5_size 19 3 2 σ) (fun r1_ σ1 => (if r1_ ≤ v4 then some (v2, σ1) else fcallv (f_X5_put 21 12 4 v1 (1 : Int32) v4 σ1) (fun σ2 => fcallv (f_X0_make 16 σ2) (fun σ3 => fcallv (f_X2_make 16 σ3) (fun σ4 => fcall (f_X2_countAllAboard 16 σ4) (fun r5_ σ5 => (if r5_ ≤ v3 then f_X7_bestBerth_b116 (fun v1 v2 v3 v4 σ => f_X7_bestBerth_b36 n_ v1 v2 v3 v4 σ) (v1) (v2) (v3) (v4) σ5 else f_X7_bestBerth_b116 (fun v1 v2 v3 v4 σ => f_X7_bestBerth_b36 n_ v1 v2 v3 v4 σ) (v1) (v4) (r5_) (v4) σ5))))))) = some (r, σ') := hf
    have hK36 := ih
    refine lv_iload C.1 C.2.1 (kd kX7_bestBerth_0 19 rfl) (lv_at hl 4 rfl) ?_
    refine lv_aload_n C.1 C.2.1 (kd kX7_bestBerth_0 20 rfl) rfl (lv_at hl 0 rfl) ?_
    refine fl_get (j := 1) (v := .ref (Γ.1 16)) C hP rfl (Nat.le_of_ble_eq_true rfl) rfl inX7 (Nat.le_of_ble_eq_true rfl) tw_284 rfl (kd kX7_bestBerth_0 21 rfl) ?_
    refine fl_get (j := 1) (v := .ref (Γ.1 19)) C hP rfl (Nat.le_of_ble_eq_true rfl) rfl inX3 (Nat.le_of_ble_eq_true rfl) tw_116 rfl (kd kX7_bestBerth_0 22 rfl) ?_
    obtain ⟨r1_, σ1, hσ1, hf⟩ := fcall_some hf
    refine fl_i hS (fl_runV (As := []) (rest := [.int v4]) C hP rfl (Nat.le_of_ble_eq_true rfl) rfl (m_X5_size C.2.2.2.2.2.2.2.2 l rfl hσ1) (fgV tw_527 tw_414 tw_415 tw_69 tw_416) hd_X5_size ⟨rfl, rfl, Nat.le_of_ble_eq_true rfl, Nat.le_of_ble_eq_true rfl⟩ rfl hl.1 rfl (Nat.le_of_ble_eq_true rfl) (kd kX7_bestBerth_0 23 rfl)) (fun H locs hP hS => ?_)
    refine lv_icmp_ge (tgt := 122) C.1 C.2.1 (kd kX7_bestBerth_0 24 rfl) (by decide) (fun q => ?_) (fun q => ?_)
    · have hf := fif_pos q hf
      refine lv_iload_n C.1 C.2.1 (kd kX7_bestBerth_0 59 rfl) rfl (lv_at hl 2 rfl) ?_
      exact fl_iret C hP hS hf (kd kX7_bestBerth_1 0 rfl)
    have hf := fif_neg q hf
    refine lv_aload_n C.1 C.2.1 (kd kX7_bestBerth_0 25 rfl) rfl (lv_at hl 0 rfl) ?_
    refine fl_get (j := 1) (v := .ref (Γ.1 16)) C hP rfl (Nat.le_of_ble_eq_true rfl) rfl inX7 (Nat.le_of_ble_eq_true rfl) tw_284 rfl (kd kX7_bestBerth_0 26 rfl) ?_
    refine fl_get (j := 2) (v := .ref (Γ.1 21)) C hP rfl (Nat.le_of_ble_eq_true rfl) rfl inX3 (Nat.le_of_ble_eq_true rfl) tw_120 rfl (kd kX7_bestBerth_0 27 rfl) ?_
    refine lv_iload_n C.1 C.2.1 (kd kX7_bestBerth_0 28 rfl) rfl (lv_at hl 1 rfl) ?_
    refine lv_iconst (v := (1 : Int32)) C.1 C.2.1 (kd kX7_bestBerth_0 29 rfl) (by decide) ?_
    refine lv_iload C.1 C.2.1 (kd kX7_bestBerth_0 30 rfl) (lv_at hl 4 rfl) ?_
    obtain ⟨σ2, hσ2, hf⟩ := fcallv_some hf
    refine fl_v hS (fl_runV (As := [.int v1, .int (1 : Int32), .int v4]) (rest := []) C hP rfl (Nat.le_of_ble_eq_true rfl) rfl (m_X5_put C.2.2.2.2.2.2.2.2 l rfl hσ2) (fgV tw_807 tw_276 tw_277 tw_69 tw_278) hd_X5_put ⟨rfl, rfl, Nat.le_of_ble_eq_true rfl, Nat.le_of_ble_eq_true rfl⟩ rfl hl.1 rfl (Nat.le_of_ble_eq_true rfl) (kd kX7_bestBerth_0 31 rfl)) (fun H locs hP hS => ?_)
    refine lv_aload_n C.1 C.2.1 (kd kX7_bestBerth_0 32 rfl) rfl (lv_at hl 0 rfl) ?_
    refine fl_get (j := 4) (v := .ref (Γ.1 138)) C hP rfl (Nat.le_of_ble_eq_true rfl) rfl inX7 (Nat.le_of_ble_eq_true rfl) tw_287 rfl (kd kX7_bestBerth_0 33 rfl) ?_
    refine lv_aload_n C.1 C.2.1 (kd kX7_bestBerth_0 34 rfl) rfl (lv_at hl 0 rfl) ?_
    refine fl_get (j := 1) (v := .ref (Γ.1 16)) C hP rfl (Nat.le_of_ble_eq_true rfl) rfl inX7 (Nat.le_of_ble_eq_true rfl) tw_284 rfl (kd kX7_bestBerth_0 35 rfl) ?_
    obtain ⟨σ3, hσ3, hf⟩ := fcallv_some hf
    refine fl_v hS (fl_runV (As := [.ref (Γ.1 16)]) (rest := []) C hP rfl (Nat.le_of_ble_eq_true rfl) rfl (m_X0_make C.2.2.2.2.2.2.2.2 l rfl hσ3) (fgV tw_535 tw_536 tw_537 tw_71 tw_538) hd_X0_make ⟨rfl, rfl, Nat.le_of_ble_eq_true rfl, Nat.le_of_ble_eq_true rfl⟩ rfl hl.1 rfl (Nat.le_of_ble_eq_true rfl) (kd kX7_bestBerth_0 36 rfl)) (fun H locs hP hS => ?_)
    refine lv_aload_n C.1 C.2.1 (kd kX7_bestBerth_0 37 rfl) rfl (lv_at hl 0 rfl) ?_
    refine fl_get (j := 5) (v := .ref (Γ.1 145)) C hP rfl (Nat.le_of_ble_eq_true rfl) rfl inX7 (Nat.le_of_ble_eq_true rfl) tw_288 rfl (kd kX7_bestBerth_0 38 rfl) ?_
    refine lv_aload_n C.1 C.2.1 (kd kX7_bestBerth_0 39 rfl) rfl (lv_at hl 0 rfl) ?_
    refine fl_get (j := 1) (v := .ref (Γ.1 16)) C hP rfl (Nat.le_of_ble_eq_true rfl) rfl inX7 (Nat.le_of_ble_eq_true rfl) tw_284 rfl (kd kX7_bestBerth_0 40 rfl) ?_
    refine lv_aload_n C.1 C.2.1 (kd kX7_bestBerth_0 41 rfl) rfl (lv_at hl 0 rfl) ?_
    refine fl_get (j := 4) (v := .ref (Γ.1 138)) C hP rfl (Nat.le_of_ble_eq_true rfl) rfl inX7 (Nat.le_of_ble_eq_true rfl) tw_287 rfl (kd kX7_bestBerth_0 42 rfl) ?_
    obtain ⟨σ4, hσ4, hf⟩ := fcallv_some hf
    refine fl_v hS (fl_runV (As := [.ref (Γ.1 16), .ref (Γ.1 138)]) (rest := []) C hP rfl (Nat.le_of_ble_eq_true rfl) rfl (m_X2_make C.2.2.2.2.2.2.2.2 l rfl hσ4) (fgV tw_612 tw_613 tw_614 tw_72 tw_615) hd_X2_make ⟨rfl, rfl, Nat.le_of_ble_eq_true rfl, Nat.le_of_ble_eq_true rfl⟩ rfl hl.1 rfl (Nat.le_of_ble_eq_true rfl) (kd kX7_bestBerth_0 43 rfl)) (fun H locs hP hS => ?_)
    refine lv_aload_n C.1 C.2.1 (kd kX7_bestBerth_0 44 rfl) rfl (lv_at hl 0 rfl) ?_
    refine fl_get (j := 5) (v := .ref (Γ.1 145)) C hP rfl (Nat.le_of_ble_eq_true rfl) rfl inX7 (Nat.le_of_ble_eq_true rfl) tw_288 rfl (kd kX7_bestBerth_0 45 rfl) ?_
    refine lv_aload_n C.1 C.2.1 (kd kX7_bestBerth_0 46 rfl) rfl (lv_at hl 0 rfl) ?_
    refine fl_get (j := 1) (v := .ref (Γ.1 16)) C hP rfl (Nat.le_of_ble_eq_true rfl) rfl inX7 (Nat.le_of_ble_eq_true rfl) tw_284 rfl (kd kX7_bestBerth_0 47 rfl) ?_
    obtain ⟨r5_, σ5, hσ5, hf⟩ := fcall_some hf
    refine fl_i hS (fl_runV (As := [.ref (Γ.1 16)]) (rest := []) C hP rfl (Nat.le_of_ble_eq_true rfl) rfl (m_X2_countAllAboard C.2.2.2.2.2.2.2.2 l rfl hσ5) (fgV tw_773 tw_774 tw_775 tw_72 tw_776) hd_X2_countAllAboard ⟨rfl, rfl, Nat.le_of_ble_eq_true rfl, Nat.le_of_ble_eq_true rfl⟩ rfl hl.1 rfl (Nat.le_of_ble_eq_true rfl) (kd kX7_bestBerth_0 48 rfl)) (fun H locs hP hS => ?_)
    refine lv_istore (lv' := [(5, .int r5_), (0, .ref (Γ.1 0)), (1, .int v1), (2, .int v2), (3, .int v3), (4, .int v4)]) C.1 C.2.1 (kd kX7_bestBerth_0 49 rfl) hl (Nat.le_of_ble_eq_true rfl) rfl (fun ls hl => ?_)
    refine lv_iload C.1 C.2.1 (kd kX7_bestBerth_0 50 rfl) (lv_at hl 0 rfl) ?_
    refine lv_iload_n C.1 C.2.1 (kd kX7_bestBerth_0 51 rfl) rfl (lv_at hl 4 rfl) ?_
    refine lv_icmp_le (tgt := 116) C.1 C.2.1 (kd kX7_bestBerth_0 52 rfl) (by decide) (fun q => ?_) (fun q => ?_)
    · have hf := fif_pos q hf
      exact w_X7_bestBerth_b116 C hK36 (v1) (v2) (v3) (v4) σ5 H locs ls hf hP hS (lv_sub hl [1, 2, 3, 4, 5] rfl)
    have hf := fif_neg q hf
    refine lv_iload C.1 C.2.1 (kd kX7_bestBerth_0 53 rfl) (lv_at hl 0 rfl) ?_
    refine lv_istore_n (lv' := [(3, .int r5_), (5, .int r5_), (0, .ref (Γ.1 0)), (1, .int v1), (2, .int v2), (4, .int v4)]) C.1 C.2.1 (kd kX7_bestBerth_0 54 rfl) rfl hl (Nat.le_of_ble_eq_true rfl) rfl (fun ls hl => ?_)
    refine lv_iload C.1 C.2.1 (kd kX7_bestBerth_0 55 rfl) (lv_at hl 5 rfl) ?_
    refine lv_istore_n (lv' := [(2, .int v4), (3, .int r5_), (5, .int r5_), (0, .ref (Γ.1 0)), (1, .int v1), (4, .int v4)]) C.1 C.2.1 (kd kX7_bestBerth_0 56 rfl) rfl hl (Nat.le_of_ble_eq_true rfl) rfl (fun ls hl => ?_)
    exact w_X7_bestBerth_b116 C hK36 (v1) (v4) (r5_) (v4) σ5 H locs ls hf hP hS (lv_sub hl [3, 4, 0, 1, 5] rfl)
def f_X7_bestBerth (x1 : Int32) (σ : fS) : Option (Int32 × fS) := fcall (f_X5_has 6 12 4 x1 σ) (fun r1_ σ1 => (if r1_ = 0 then some ((-10001 : Int32), σ1) else fcallv (f_X3_copyFrom 16 1 σ1) (fun σ2 => f_X7_bestBerth_b36 fN (x1) ((0 : Int32)) ((-1 : Int32)) ((0 : Int32)) σ2)))
set_option maxRecDepth 100000 in
set_option maxHeartbeats 4000000 in
theorem m_X7_bestBerth {Γ : fGm} (hI : fI Γ) (l : Launch) {x1 : Int32} {σ : fS} {r : Int32} {σ' : fS} (hf : f_X7_bestBerth x1 σ = some (r, σ')) : Met l yX7_bestBerth (.code yX7_bestBerth cX7_bestBerth 6 (some .int) :: lw_g) ({ frames := 7, cells := 0, slots := 0, locals := 165 } : Room) (fPre Γ [.ref (Γ.1 0), .int x1] σ) (fQi Γ r σ') 0 0 (fAd Γ) := by
  refine fl_enter (own := RX7) hI (by decide +kernel) rfl (Nat.le_of_ble_eq_true rfl) ?_
  intro p e s m args below meth c ls C hl hP hS
  have hl : lv_has ls 6 [(0, .ref (Γ.1 0)), (1, .int x1)] := hl
  obtain ⟨H, hH⟩ : ∃ H, H = s.heap := ⟨_, rfl⟩
  obtain ⟨locs, hL⟩ : ∃ L : List Loc, L = [] := ⟨_, rfl⟩
  have hP : fH Γ σ H := by rw [hH]; exact hP
  have hS : va_S (fAd Γ) s.heap H locs := by rw [hH, hL]; exact hS
  suffices hw : W p l e ({ frames := 7, cells := 0, slots := 0, locals := 165 } : Room) s m args below meth c H locs 0 0 (MQ below (fQi Γ r σ') args s 0 0 (fAd Γ)) (F0 m 0 ls []) by rw [hH, hL] at hw; exact hw
  unfold f_X7_bestBerth at hf
  refine lv_aload_n C.1 C.2.1 (kd kX7_bestBerth_0 0 rfl) rfl (lv_at hl 0 rfl) ?_
  refine fl_get (j := 0) (v := .ref (Γ.1 1)) C hP rfl (Nat.le_of_ble_eq_true rfl) rfl inX7 (Nat.le_of_ble_eq_true rfl) tw_283 rfl (kd kX7_bestBerth_0 1 rfl) ?_
  refine fl_get (j := 2) (v := .ref (Γ.1 6)) C hP rfl (Nat.le_of_ble_eq_true rfl) rfl inX3 (Nat.le_of_ble_eq_true rfl) tw_120 rfl (kd kX7_bestBerth_0 2 rfl) ?_
  refine lv_iload_n C.1 C.2.1 (kd kX7_bestBerth_0 3 rfl) rfl (lv_at hl 1 rfl) ?_
  obtain ⟨r1_, σ1, hσ1, hf⟩ := fcall_some hf
  refine fl_i hS (fl_runV (As := [.int x1]) (rest := []) C hP rfl (Nat.le_of_ble_eq_true rfl) rfl (m_X5_has C.2.2.2.2.2.2.2.2 l rfl hσ1) (fgV tw_532 tw_378 tw_379 tw_69 tw_380) hd_X5_has ⟨rfl, rfl, Nat.le_of_ble_eq_true rfl, Nat.le_of_ble_eq_true rfl⟩ rfl hl.1 rfl (Nat.le_of_ble_eq_true rfl) (kd kX7_bestBerth_0 4 rfl)) (fun H locs hP hS => ?_)
  refine lv_if_ne (tgt := 18) C.1 C.2.1 (kd kX7_bestBerth_0 5 rfl) (by decide) (fun q => ?_) (fun q => ?_)
  · have hf := fif_neg q hf
    refine lv_iconst (v := (0 : Int32)) C.1 C.2.1 (kd kX7_bestBerth_0 8 rfl) (by decide) ?_
    refine lv_istore_n (lv' := [(2, .int (0 : Int32)), (0, .ref (Γ.1 0)), (1, .int x1)]) C.1 C.2.1 (kd kX7_bestBerth_0 9 rfl) rfl hl (Nat.le_of_ble_eq_true rfl) rfl (fun ls hl => ?_)
    refine lv_iconst (v := (-1 : Int32)) C.1 C.2.1 (kd kX7_bestBerth_0 10 rfl) (by decide) ?_
    refine lv_istore_n (lv' := [(3, .int (-1 : Int32)), (2, .int (0 : Int32)), (0, .ref (Γ.1 0)), (1, .int x1)]) C.1 C.2.1 (kd kX7_bestBerth_0 11 rfl) rfl hl (Nat.le_of_ble_eq_true rfl) rfl (fun ls hl => ?_)
    refine lv_aload_n C.1 C.2.1 (kd kX7_bestBerth_0 12 rfl) rfl (lv_at hl 2 rfl) ?_
    refine fl_get (j := 1) (v := .ref (Γ.1 16)) C hP rfl (Nat.le_of_ble_eq_true rfl) rfl inX7 (Nat.le_of_ble_eq_true rfl) tw_284 rfl (kd kX7_bestBerth_0 13 rfl) ?_
    refine lv_aload_n C.1 C.2.1 (kd kX7_bestBerth_0 14 rfl) rfl (lv_at hl 2 rfl) ?_
    refine fl_get (j := 0) (v := .ref (Γ.1 1)) C hP rfl (Nat.le_of_ble_eq_true rfl) rfl inX7 (Nat.le_of_ble_eq_true rfl) tw_283 rfl (kd kX7_bestBerth_0 15 rfl) ?_
    obtain ⟨σ2, hσ2, hf⟩ := fcallv_some hf
    refine fl_v hS (fl_runV (As := [.ref (Γ.1 1)]) (rest := []) C hP rfl (Nat.le_of_ble_eq_true rfl) rfl (m_X3_copyFrom C.2.2.2.2.2.2.2.2 l rfl rfl hσ2) (fgV tw_315 tw_316 tw_317 tw_68 tw_318) hd_X3_copyFrom ⟨rfl, rfl, Nat.le_of_ble_eq_true rfl, Nat.le_of_ble_eq_true rfl⟩ rfl hl.1 rfl (Nat.le_of_ble_eq_true rfl) (kd kX7_bestBerth_0 16 rfl)) (fun H locs hP hS => ?_)
    refine lv_iconst (v := (0 : Int32)) C.1 C.2.1 (kd kX7_bestBerth_0 17 rfl) (by decide) ?_
    refine lv_istore (lv' := [(4, .int (0 : Int32)), (3, .int (-1 : Int32)), (2, .int (0 : Int32)), (0, .ref (Γ.1 0)), (1, .int x1)]) C.1 C.2.1 (kd kX7_bestBerth_0 18 rfl) hl (Nat.le_of_ble_eq_true rfl) rfl (fun ls hl => ?_)
    exact w_X7_bestBerth_b36 C fN (x1) ((0 : Int32)) ((-1 : Int32)) ((0 : Int32)) σ2 H locs ls hf hP hS (lv_sub hl [3, 4, 2, 1, 0] rfl)
  have hf := fif_pos q hf
  refine lv_sipush (v := (-10001 : Int32)) C.1 C.2.1 (kd kX7_bestBerth_0 6 rfl) (by decide) ?_
  exact fl_iret C hP hS hf (kd kX7_bestBerth_0 7 rfl)
def f_X7_layDown (x1 : Int32) (x2 : Int32) (x3 : Int32) (x4 : Int32) (σ : fS) : Option (Int32 × fS) := fcall (f_X4_hasPlace x1 x2 σ) (fun r1_ σ1 => (if r1_ = 0 then some ((-10001 : Int32), σ1) else (if x3 = 0 then (if x3 = 0 then fcall (f_X5_has 2 4 4 x4 σ1) (fun r4_ σ4 => (if r4_ = 0 then some ((-10001 : Int32), σ4) else fcall (f_X4_lay x1 x2 x3 2 4 4 x4 σ4) (fun r5_ σ5 => some (r5_, σ5)))) else fcall (f_X5_has 4 3 2 x4 σ1) (fun r2_ σ2 => (if r2_ = 0 then some ((-10001 : Int32), σ2) else fcall (f_X4_lay x1 x2 x3 4 3 2 x4 σ2) (fun r3_ σ3 => some (r3_, σ3))))) else (if x3 = (1 : Int32) then (if x3 = 0 then fcall (f_X5_has 2 4 4 x4 σ1) (fun r8_ σ8 => (if r8_ = 0 then some ((-10001 : Int32), σ8) else fcall (f_X4_lay x1 x2 x3 2 4 4 x4 σ8) (fun r9_ σ9 => some (r9_, σ9)))) else fcall (f_X5_has 4 3 2 x4 σ1) (fun r6_ σ6 => (if r6_ = 0 then some ((-10001 : Int32), σ6) else fcall (f_X4_lay x1 x2 x3 4 3 2 x4 σ6) (fun r7_ σ7 => some (r7_, σ7))))) else some ((-10002 : Int32), σ1)))))
set_option maxRecDepth 100000 in
set_option maxHeartbeats 4000000 in
theorem m_X7_layDown {Γ : fGm} (hI : fI Γ) (l : Launch) {x1 : Int32} {x2 : Int32} {x3 : Int32} {x4 : Int32} {σ : fS} {r : Int32} {σ' : fS} (hf : f_X7_layDown x1 x2 x3 x4 σ = some (r, σ')) : Met l yX7_layDown (.code yX7_layDown cX7_layDown 6 (some .int) :: lw_g) ({ frames := 4, cells := 0, slots := 0, locals := 93 } : Room) (fPre Γ [.ref (Γ.1 0), .int x1, .int x2, .int x3, .int x4] σ) (fQi Γ r σ') 0 0 (fAd Γ) := by
  refine fl_enter (own := RX7) hI (by decide +kernel) rfl (Nat.le_of_ble_eq_true rfl) ?_
  intro p e s m args below meth c ls C hl hP hS
  have hl : lv_has ls 6 [(0, .ref (Γ.1 0)), (1, .int x1), (2, .int x2), (3, .int x3), (4, .int x4)] := hl
  obtain ⟨H, hH⟩ : ∃ H, H = s.heap := ⟨_, rfl⟩
  obtain ⟨locs, hL⟩ : ∃ L : List Loc, L = [] := ⟨_, rfl⟩
  have hP : fH Γ σ H := by rw [hH]; exact hP
  have hS : va_S (fAd Γ) s.heap H locs := by rw [hH, hL]; exact hS
  suffices hw : W p l e ({ frames := 4, cells := 0, slots := 0, locals := 93 } : Room) s m args below meth c H locs 0 0 (MQ below (fQi Γ r σ') args s 0 0 (fAd Γ)) (F0 m 0 ls []) by rw [hH, hL] at hw; exact hw
  unfold f_X7_layDown at hf
  refine lv_aload_n C.1 C.2.1 (kd kX7_layDown_0 0 rfl) rfl (lv_at hl 0 rfl) ?_
  refine fl_get (j := 7) (v := .ref (Γ.1 161)) C hP rfl (Nat.le_of_ble_eq_true rfl) rfl inX7 (Nat.le_of_ble_eq_true rfl) tw_290 rfl (kd kX7_layDown_0 1 rfl) ?_
  refine lv_iload_n C.1 C.2.1 (kd kX7_layDown_0 2 rfl) rfl (lv_at hl 1 rfl) ?_
  refine lv_iload_n C.1 C.2.1 (kd kX7_layDown_0 3 rfl) rfl (lv_at hl 2 rfl) ?_
  obtain ⟨r1_, σ1, hσ1, hf⟩ := fcall_some hf
  refine fl_i hS (fl_runV (As := [.int x1, .int x2]) (rest := []) C hP rfl (Nat.le_of_ble_eq_true rfl) rfl (m_X4_hasPlace C.2.2.2.2.2.2.2.2 l  hσ1) (fgV tw_812 tw_813 tw_814 tw_74 tw_815) hd_X4_hasPlace ⟨rfl, rfl, Nat.le_of_ble_eq_true rfl, Nat.le_of_ble_eq_true rfl⟩ rfl hl.1 rfl (Nat.le_of_ble_eq_true rfl) (kd kX7_layDown_0 4 rfl)) (fun H locs hP hS => ?_)
  refine lv_if_ne (tgt := 16) C.1 C.2.1 (kd kX7_layDown_0 5 rfl) (by decide) (fun q => ?_) (fun q => ?_)
  · have hf := fif_neg q hf
    refine lv_iload_n C.1 C.2.1 (kd kX7_layDown_0 8 rfl) rfl (lv_at hl 3 rfl) ?_
    refine lv_if_eq (tgt := 29) C.1 C.2.1 (kd kX7_layDown_0 9 rfl) (by decide) (fun q => ?_) (fun q => ?_)
    · have hf := fif_pos q hf
      refine lv_iload_n C.1 C.2.1 (kd kX7_layDown_0 15 rfl) rfl (lv_at hl 3 rfl) ?_
      refine lv_if_ne (tgt := 43) C.1 C.2.1 (kd kX7_layDown_0 16 rfl) (by decide) (fun q => ?_) (fun q => ?_)
      · have hf := fif_neg q hf
        refine lv_aload_n C.1 C.2.1 (kd kX7_layDown_0 21 rfl) rfl (lv_at hl 0 rfl) ?_
        refine fl_get (j := 0) (v := .ref (Γ.1 1)) C hP rfl (Nat.le_of_ble_eq_true rfl) rfl inX7 (Nat.le_of_ble_eq_true rfl) tw_283 rfl (kd kX7_layDown_0 22 rfl) ?_
        refine fl_get (j := 1) (v := .ref (Γ.1 4)) C hP rfl (Nat.le_of_ble_eq_true rfl) rfl inX3 (Nat.le_of_ble_eq_true rfl) tw_116 rfl (kd kX7_layDown_0 23 rfl) ?_
        refine lv_astore (lv' := [(5, .ref (Γ.1 4)), (0, .ref (Γ.1 0)), (1, .int x1), (2, .int x2), (3, .int x3), (4, .int x4)]) C.1 C.2.1 (kd kX7_layDown_0 24 rfl) hl (Nat.le_of_ble_eq_true rfl) rfl (fun ls hl => ?_)
        refine lv_aload C.1 C.2.1 (kd kX7_layDown_0 25 rfl) (lv_at hl 0 rfl) ?_
        refine lv_iload C.1 C.2.1 (kd kX7_layDown_0 26 rfl) (lv_at hl 5 rfl) ?_
        obtain ⟨r2_, σ2, hσ2, hf⟩ := fcall_some hf
        refine fl_i hS (fl_runV (As := [.int x4]) (rest := []) C hP rfl (Nat.le_of_ble_eq_true rfl) rfl (m_X5_has C.2.2.2.2.2.2.2.2 l rfl hσ2) (fgV tw_532 tw_378 tw_379 tw_69 tw_380) hd_X5_has ⟨rfl, rfl, Nat.le_of_ble_eq_true rfl, Nat.le_of_ble_eq_true rfl⟩ rfl hl.1 rfl (Nat.le_of_ble_eq_true rfl) (kd kX7_layDown_0 27 rfl)) (fun H locs hP hS => ?_)
        refine lv_if_ne (tgt := 66) C.1 C.2.1 (kd kX7_layDown_0 28 rfl) (by decide) (fun q => ?_) (fun q => ?_)
        · have hf := fif_neg q hf
          refine lv_aload_n C.1 C.2.1 (kd kX7_layDown_0 31 rfl) rfl (lv_at hl 1 rfl) ?_
          refine fl_get (j := 7) (v := .ref (Γ.1 161)) C hP rfl (Nat.le_of_ble_eq_true rfl) rfl inX7 (Nat.le_of_ble_eq_true rfl) tw_290 rfl (kd kX7_layDown_0 32 rfl) ?_
          refine lv_iload_n C.1 C.2.1 (kd kX7_layDown_0 33 rfl) rfl (lv_at hl 2 rfl) ?_
          refine lv_iload_n C.1 C.2.1 (kd kX7_layDown_0 34 rfl) rfl (lv_at hl 3 rfl) ?_
          refine lv_iload_n C.1 C.2.1 (kd kX7_layDown_0 35 rfl) rfl (lv_at hl 4 rfl) ?_
          refine lv_aload C.1 C.2.1 (kd kX7_layDown_0 36 rfl) (lv_at hl 0 rfl) ?_
          refine lv_iload C.1 C.2.1 (kd kX7_layDown_0 37 rfl) (lv_at hl 5 rfl) ?_
          obtain ⟨r3_, σ3, hσ3, hf⟩ := fcall_some hf
          refine fl_i hS (fl_runV (As := [.int x1, .int x2, .int x3, .ref (Γ.1 4), .int x4]) (rest := []) C hP rfl (Nat.le_of_ble_eq_true rfl) rfl (m_X4_lay C.2.2.2.2.2.2.2.2 l rfl hσ3) (fgV tw_816 tw_817 tw_818 tw_74 tw_819) hd_X4_lay ⟨rfl, rfl, Nat.le_of_ble_eq_true rfl, Nat.le_of_ble_eq_true rfl⟩ rfl hl.1 rfl (Nat.le_of_ble_eq_true rfl) (kd kX7_layDown_0 38 rfl)) (fun H locs hP hS => ?_)
          exact fl_iret C hP hS hf (kd kX7_layDown_0 39 rfl)
        have hf := fif_pos q hf
        refine lv_sipush (v := (-10001 : Int32)) C.1 C.2.1 (kd kX7_layDown_0 29 rfl) (by decide) ?_
        exact fl_iret C hP hS hf (kd kX7_layDown_0 30 rfl)
      have hf := fif_pos q hf
      refine lv_aload_n C.1 C.2.1 (kd kX7_layDown_0 17 rfl) rfl (lv_at hl 0 rfl) ?_
      refine fl_get (j := 0) (v := .ref (Γ.1 1)) C hP rfl (Nat.le_of_ble_eq_true rfl) rfl inX7 (Nat.le_of_ble_eq_true rfl) tw_283 rfl (kd kX7_layDown_0 18 rfl) ?_
      refine fl_get (j := 0) (v := .ref (Γ.1 2)) C hP rfl (Nat.le_of_ble_eq_true rfl) rfl inX3 (Nat.le_of_ble_eq_true rfl) tw_114 rfl (kd kX7_layDown_0 19 rfl) ?_
      refine lv_goto (tgt := 50) C.1 C.2.1 (kd kX7_layDown_0 20 rfl) (by decide) ?_
      refine lv_astore (lv' := [(5, .ref (Γ.1 2)), (0, .ref (Γ.1 0)), (1, .int x1), (2, .int x2), (3, .int x3), (4, .int x4)]) C.1 C.2.1 (kd kX7_layDown_0 24 rfl) hl (Nat.le_of_ble_eq_true rfl) rfl (fun ls hl => ?_)
      refine lv_aload C.1 C.2.1 (kd kX7_layDown_0 25 rfl) (lv_at hl 0 rfl) ?_
      refine lv_iload C.1 C.2.1 (kd kX7_layDown_0 26 rfl) (lv_at hl 5 rfl) ?_
      obtain ⟨r4_, σ4, hσ4, hf⟩ := fcall_some hf
      refine fl_i hS (fl_runV (As := [.int x4]) (rest := []) C hP rfl (Nat.le_of_ble_eq_true rfl) rfl (m_X5_has C.2.2.2.2.2.2.2.2 l rfl hσ4) (fgV tw_532 tw_378 tw_379 tw_69 tw_380) hd_X5_has ⟨rfl, rfl, Nat.le_of_ble_eq_true rfl, Nat.le_of_ble_eq_true rfl⟩ rfl hl.1 rfl (Nat.le_of_ble_eq_true rfl) (kd kX7_layDown_0 27 rfl)) (fun H locs hP hS => ?_)
      refine lv_if_ne (tgt := 66) C.1 C.2.1 (kd kX7_layDown_0 28 rfl) (by decide) (fun q => ?_) (fun q => ?_)
      · have hf := fif_neg q hf
        refine lv_aload_n C.1 C.2.1 (kd kX7_layDown_0 31 rfl) rfl (lv_at hl 1 rfl) ?_
        refine fl_get (j := 7) (v := .ref (Γ.1 161)) C hP rfl (Nat.le_of_ble_eq_true rfl) rfl inX7 (Nat.le_of_ble_eq_true rfl) tw_290 rfl (kd kX7_layDown_0 32 rfl) ?_
        refine lv_iload_n C.1 C.2.1 (kd kX7_layDown_0 33 rfl) rfl (lv_at hl 2 rfl) ?_
        refine lv_iload_n C.1 C.2.1 (kd kX7_layDown_0 34 rfl) rfl (lv_at hl 3 rfl) ?_
        refine lv_iload_n C.1 C.2.1 (kd kX7_layDown_0 35 rfl) rfl (lv_at hl 4 rfl) ?_
        refine lv_aload C.1 C.2.1 (kd kX7_layDown_0 36 rfl) (lv_at hl 0 rfl) ?_
        refine lv_iload C.1 C.2.1 (kd kX7_layDown_0 37 rfl) (lv_at hl 5 rfl) ?_
        obtain ⟨r5_, σ5, hσ5, hf⟩ := fcall_some hf
        refine fl_i hS (fl_runV (As := [.int x1, .int x2, .int x3, .ref (Γ.1 2), .int x4]) (rest := []) C hP rfl (Nat.le_of_ble_eq_true rfl) rfl (m_X4_lay C.2.2.2.2.2.2.2.2 l rfl hσ5) (fgV tw_816 tw_817 tw_818 tw_74 tw_819) hd_X4_lay ⟨rfl, rfl, Nat.le_of_ble_eq_true rfl, Nat.le_of_ble_eq_true rfl⟩ rfl hl.1 rfl (Nat.le_of_ble_eq_true rfl) (kd kX7_layDown_0 38 rfl)) (fun H locs hP hS => ?_)
        exact fl_iret C hP hS hf (kd kX7_layDown_0 39 rfl)
      have hf := fif_pos q hf
      refine lv_sipush (v := (-10001 : Int32)) C.1 C.2.1 (kd kX7_layDown_0 29 rfl) (by decide) ?_
      exact fl_iret C hP hS hf (kd kX7_layDown_0 30 rfl)
    have hf := fif_neg q hf
    refine lv_iload_n C.1 C.2.1 (kd kX7_layDown_0 10 rfl) rfl (lv_at hl 3 rfl) ?_
    refine lv_iconst (v := (1 : Int32)) C.1 C.2.1 (kd kX7_layDown_0 11 rfl) (by decide) ?_
    refine lv_icmp_eq (tgt := 29) C.1 C.2.1 (kd kX7_layDown_0 12 rfl) (by decide) (fun q => ?_) (fun q => ?_)
    · have hf := fif_pos q hf
      refine lv_iload_n C.1 C.2.1 (kd kX7_layDown_0 15 rfl) rfl (lv_at hl 3 rfl) ?_
      refine lv_if_ne (tgt := 43) C.1 C.2.1 (kd kX7_layDown_0 16 rfl) (by decide) (fun q => ?_) (fun q => ?_)
      · have hf := fif_neg q hf
        refine lv_aload_n C.1 C.2.1 (kd kX7_layDown_0 21 rfl) rfl (lv_at hl 0 rfl) ?_
        refine fl_get (j := 0) (v := .ref (Γ.1 1)) C hP rfl (Nat.le_of_ble_eq_true rfl) rfl inX7 (Nat.le_of_ble_eq_true rfl) tw_283 rfl (kd kX7_layDown_0 22 rfl) ?_
        refine fl_get (j := 1) (v := .ref (Γ.1 4)) C hP rfl (Nat.le_of_ble_eq_true rfl) rfl inX3 (Nat.le_of_ble_eq_true rfl) tw_116 rfl (kd kX7_layDown_0 23 rfl) ?_
        refine lv_astore (lv' := [(5, .ref (Γ.1 4)), (0, .ref (Γ.1 0)), (1, .int x1), (2, .int x2), (3, .int x3), (4, .int x4)]) C.1 C.2.1 (kd kX7_layDown_0 24 rfl) hl (Nat.le_of_ble_eq_true rfl) rfl (fun ls hl => ?_)
        refine lv_aload C.1 C.2.1 (kd kX7_layDown_0 25 rfl) (lv_at hl 0 rfl) ?_
        refine lv_iload C.1 C.2.1 (kd kX7_layDown_0 26 rfl) (lv_at hl 5 rfl) ?_
        obtain ⟨r6_, σ6, hσ6, hf⟩ := fcall_some hf
        refine fl_i hS (fl_runV (As := [.int x4]) (rest := []) C hP rfl (Nat.le_of_ble_eq_true rfl) rfl (m_X5_has C.2.2.2.2.2.2.2.2 l rfl hσ6) (fgV tw_532 tw_378 tw_379 tw_69 tw_380) hd_X5_has ⟨rfl, rfl, Nat.le_of_ble_eq_true rfl, Nat.le_of_ble_eq_true rfl⟩ rfl hl.1 rfl (Nat.le_of_ble_eq_true rfl) (kd kX7_layDown_0 27 rfl)) (fun H locs hP hS => ?_)
        refine lv_if_ne (tgt := 66) C.1 C.2.1 (kd kX7_layDown_0 28 rfl) (by decide) (fun q => ?_) (fun q => ?_)
        · have hf := fif_neg q hf
          refine lv_aload_n C.1 C.2.1 (kd kX7_layDown_0 31 rfl) rfl (lv_at hl 1 rfl) ?_
          refine fl_get (j := 7) (v := .ref (Γ.1 161)) C hP rfl (Nat.le_of_ble_eq_true rfl) rfl inX7 (Nat.le_of_ble_eq_true rfl) tw_290 rfl (kd kX7_layDown_0 32 rfl) ?_
          refine lv_iload_n C.1 C.2.1 (kd kX7_layDown_0 33 rfl) rfl (lv_at hl 2 rfl) ?_
          refine lv_iload_n C.1 C.2.1 (kd kX7_layDown_0 34 rfl) rfl (lv_at hl 3 rfl) ?_
          refine lv_iload_n C.1 C.2.1 (kd kX7_layDown_0 35 rfl) rfl (lv_at hl 4 rfl) ?_
          refine lv_aload C.1 C.2.1 (kd kX7_layDown_0 36 rfl) (lv_at hl 0 rfl) ?_
          refine lv_iload C.1 C.2.1 (kd kX7_layDown_0 37 rfl) (lv_at hl 5 rfl) ?_
          obtain ⟨r7_, σ7, hσ7, hf⟩ := fcall_some hf
          refine fl_i hS (fl_runV (As := [.int x1, .int x2, .int x3, .ref (Γ.1 4), .int x4]) (rest := []) C hP rfl (Nat.le_of_ble_eq_true rfl) rfl (m_X4_lay C.2.2.2.2.2.2.2.2 l rfl hσ7) (fgV tw_816 tw_817 tw_818 tw_74 tw_819) hd_X4_lay ⟨rfl, rfl, Nat.le_of_ble_eq_true rfl, Nat.le_of_ble_eq_true rfl⟩ rfl hl.1 rfl (Nat.le_of_ble_eq_true rfl) (kd kX7_layDown_0 38 rfl)) (fun H locs hP hS => ?_)
          exact fl_iret C hP hS hf (kd kX7_layDown_0 39 rfl)
        have hf := fif_pos q hf
        refine lv_sipush (v := (-10001 : Int32)) C.1 C.2.1 (kd kX7_layDown_0 29 rfl) (by decide) ?_
        exact fl_iret C hP hS hf (kd kX7_layDown_0 30 rfl)
      have hf := fif_pos q hf
      refine lv_aload_n C.1 C.2.1 (kd kX7_layDown_0 17 rfl) rfl (lv_at hl 0 rfl) ?_
      refine fl_get (j := 0) (v := .ref (Γ.1 1)) C hP rfl (Nat.le_of_ble_eq_true rfl) rfl inX7 (Nat.le_of_ble_eq_true rfl) tw_283 rfl (kd kX7_layDown_0 18 rfl) ?_
      refine fl_get (j := 0) (v := .ref (Γ.1 2)) C hP rfl (Nat.le_of_ble_eq_true rfl) rfl inX3 (Nat.le_of_ble_eq_true rfl) tw_114 rfl (kd kX7_layDown_0 19 rfl) ?_
      refine lv_goto (tgt := 50) C.1 C.2.1 (kd kX7_layDown_0 20 rfl) (by decide) ?_
      refine lv_astore (lv' := [(5, .ref (Γ.1 2)), (0, .ref (Γ.1 0)), (1, .int x1), (2, .int x2), (3, .int x3), (4, .int x4)]) C.1 C.2.1 (kd kX7_layDown_0 24 rfl) hl (Nat.le_of_ble_eq_true rfl) rfl (fun ls hl => ?_)
      refine lv_aload C.1 C.2.1 (kd kX7_layDown_0 25 rfl) (lv_at hl 0 rfl) ?_
      refine lv_iload C.1 C.2.1 (kd kX7_layDown_0 26 rfl) (lv_at hl 5 rfl) ?_
      obtain ⟨r8_, σ8, hσ8, hf⟩ := fcall_some hf
      refine fl_i hS (fl_runV (As := [.int x4]) (rest := []) C hP rfl (Nat.le_of_ble_eq_true rfl) rfl (m_X5_has C.2.2.2.2.2.2.2.2 l rfl hσ8) (fgV tw_532 tw_378 tw_379 tw_69 tw_380) hd_X5_has ⟨rfl, rfl, Nat.le_of_ble_eq_true rfl, Nat.le_of_ble_eq_true rfl⟩ rfl hl.1 rfl (Nat.le_of_ble_eq_true rfl) (kd kX7_layDown_0 27 rfl)) (fun H locs hP hS => ?_)
      refine lv_if_ne (tgt := 66) C.1 C.2.1 (kd kX7_layDown_0 28 rfl) (by decide) (fun q => ?_) (fun q => ?_)
      · have hf := fif_neg q hf
        refine lv_aload_n C.1 C.2.1 (kd kX7_layDown_0 31 rfl) rfl (lv_at hl 1 rfl) ?_
        refine fl_get (j := 7) (v := .ref (Γ.1 161)) C hP rfl (Nat.le_of_ble_eq_true rfl) rfl inX7 (Nat.le_of_ble_eq_true rfl) tw_290 rfl (kd kX7_layDown_0 32 rfl) ?_
        refine lv_iload_n C.1 C.2.1 (kd kX7_layDown_0 33 rfl) rfl (lv_at hl 2 rfl) ?_
        refine lv_iload_n C.1 C.2.1 (kd kX7_layDown_0 34 rfl) rfl (lv_at hl 3 rfl) ?_
        refine lv_iload_n C.1 C.2.1 (kd kX7_layDown_0 35 rfl) rfl (lv_at hl 4 rfl) ?_
        refine lv_aload C.1 C.2.1 (kd kX7_layDown_0 36 rfl) (lv_at hl 0 rfl) ?_
        refine lv_iload C.1 C.2.1 (kd kX7_layDown_0 37 rfl) (lv_at hl 5 rfl) ?_
        obtain ⟨r9_, σ9, hσ9, hf⟩ := fcall_some hf
        refine fl_i hS (fl_runV (As := [.int x1, .int x2, .int x3, .ref (Γ.1 2), .int x4]) (rest := []) C hP rfl (Nat.le_of_ble_eq_true rfl) rfl (m_X4_lay C.2.2.2.2.2.2.2.2 l rfl hσ9) (fgV tw_816 tw_817 tw_818 tw_74 tw_819) hd_X4_lay ⟨rfl, rfl, Nat.le_of_ble_eq_true rfl, Nat.le_of_ble_eq_true rfl⟩ rfl hl.1 rfl (Nat.le_of_ble_eq_true rfl) (kd kX7_layDown_0 38 rfl)) (fun H locs hP hS => ?_)
        exact fl_iret C hP hS hf (kd kX7_layDown_0 39 rfl)
      have hf := fif_pos q hf
      refine lv_sipush (v := (-10001 : Int32)) C.1 C.2.1 (kd kX7_layDown_0 29 rfl) (by decide) ?_
      exact fl_iret C hP hS hf (kd kX7_layDown_0 30 rfl)
    have hf := fif_neg q hf
    refine lv_sipush (v := (-10002 : Int32)) C.1 C.2.1 (kd kX7_layDown_0 13 rfl) (by decide) ?_
    exact fl_iret C hP hS hf (kd kX7_layDown_0 14 rfl)
  have hf := fif_pos q hf
  refine lv_sipush (v := (-10001 : Int32)) C.1 C.2.1 (kd kX7_layDown_0 6 rfl) (by decide) ?_
  exact fl_iret C hP hS hf (kd kX7_layDown_0 7 rfl)
def f_X7_takeOut (x1 : Int32) (x2 : Int32) (σ : fS) : Option (Int32 × fS) := fcall (f_X4_hasPlace x1 x2 σ) (fun r1_ σ1 => (if r1_ = 0 then some ((-10001 : Int32), σ1) else fcallv (f_X3_copyFrom 16 1 σ1) (fun σ2 => fcall (f_X4_addCopyTo 1 x1 x2 σ2) (fun r3_ σ3 => fcall (f_X7_noted r3_ σ3) (fun r4_ σ4 => some (r4_, σ4))))))
set_option maxRecDepth 100000 in
set_option maxHeartbeats 4000000 in
theorem m_X7_takeOut {Γ : fGm} (hI : fI Γ) (l : Launch) {x1 : Int32} {x2 : Int32} {σ : fS} {r : Int32} {σ' : fS} (hf : f_X7_takeOut x1 x2 σ = some (r, σ')) : Met l yX7_takeOut (.code yX7_takeOut cX7_takeOut 3 (some .int) :: lw_g) ({ frames := 5, cells := 0, slots := 0, locals := 124 } : Room) (fPre Γ [.ref (Γ.1 0), .int x1, .int x2] σ) (fQi Γ r σ') 0 0 (fAd Γ) := by
  refine fl_enter (own := RX7) hI (by decide +kernel) rfl (Nat.le_of_ble_eq_true rfl) ?_
  intro p e s m args below meth c ls C hl hP hS
  have hl : lv_has ls 3 [(0, .ref (Γ.1 0)), (1, .int x1), (2, .int x2)] := hl
  obtain ⟨H, hH⟩ : ∃ H, H = s.heap := ⟨_, rfl⟩
  obtain ⟨locs, hL⟩ : ∃ L : List Loc, L = [] := ⟨_, rfl⟩
  have hP : fH Γ σ H := by rw [hH]; exact hP
  have hS : va_S (fAd Γ) s.heap H locs := by rw [hH, hL]; exact hS
  suffices hw : W p l e ({ frames := 5, cells := 0, slots := 0, locals := 124 } : Room) s m args below meth c H locs 0 0 (MQ below (fQi Γ r σ') args s 0 0 (fAd Γ)) (F0 m 0 ls []) by rw [hH, hL] at hw; exact hw
  unfold f_X7_takeOut at hf
  refine lv_aload_n C.1 C.2.1 (kd kX7_takeOut_0 0 rfl) rfl (lv_at hl 0 rfl) ?_
  refine fl_get (j := 7) (v := .ref (Γ.1 161)) C hP rfl (Nat.le_of_ble_eq_true rfl) rfl inX7 (Nat.le_of_ble_eq_true rfl) tw_290 rfl (kd kX7_takeOut_0 1 rfl) ?_
  refine lv_iload_n C.1 C.2.1 (kd kX7_takeOut_0 2 rfl) rfl (lv_at hl 1 rfl) ?_
  refine lv_iload_n C.1 C.2.1 (kd kX7_takeOut_0 3 rfl) rfl (lv_at hl 2 rfl) ?_
  obtain ⟨r1_, σ1, hσ1, hf⟩ := fcall_some hf
  refine fl_i hS (fl_runV (As := [.int x1, .int x2]) (rest := []) C hP rfl (Nat.le_of_ble_eq_true rfl) rfl (m_X4_hasPlace C.2.2.2.2.2.2.2.2 l  hσ1) (fgV tw_812 tw_813 tw_814 tw_74 tw_815) hd_X4_hasPlace ⟨rfl, rfl, Nat.le_of_ble_eq_true rfl, Nat.le_of_ble_eq_true rfl⟩ rfl hl.1 rfl (Nat.le_of_ble_eq_true rfl) (kd kX7_takeOut_0 4 rfl)) (fun H locs hP hS => ?_)
  refine lv_if_ne (tgt := 16) C.1 C.2.1 (kd kX7_takeOut_0 5 rfl) (by decide) (fun q => ?_) (fun q => ?_)
  · have hf := fif_neg q hf
    refine lv_aload_n C.1 C.2.1 (kd kX7_takeOut_0 8 rfl) rfl (lv_at hl 0 rfl) ?_
    refine fl_get (j := 1) (v := .ref (Γ.1 16)) C hP rfl (Nat.le_of_ble_eq_true rfl) rfl inX7 (Nat.le_of_ble_eq_true rfl) tw_284 rfl (kd kX7_takeOut_0 9 rfl) ?_
    refine lv_aload_n C.1 C.2.1 (kd kX7_takeOut_0 10 rfl) rfl (lv_at hl 0 rfl) ?_
    refine fl_get (j := 0) (v := .ref (Γ.1 1)) C hP rfl (Nat.le_of_ble_eq_true rfl) rfl inX7 (Nat.le_of_ble_eq_true rfl) tw_283 rfl (kd kX7_takeOut_0 11 rfl) ?_
    obtain ⟨σ2, hσ2, hf⟩ := fcallv_some hf
    refine fl_v hS (fl_runV (As := [.ref (Γ.1 1)]) (rest := []) C hP rfl (Nat.le_of_ble_eq_true rfl) rfl (m_X3_copyFrom C.2.2.2.2.2.2.2.2 l rfl rfl hσ2) (fgV tw_315 tw_316 tw_317 tw_68 tw_318) hd_X3_copyFrom ⟨rfl, rfl, Nat.le_of_ble_eq_true rfl, Nat.le_of_ble_eq_true rfl⟩ rfl hl.1 rfl (Nat.le_of_ble_eq_true rfl) (kd kX7_takeOut_0 12 rfl)) (fun H locs hP hS => ?_)
    refine lv_aload_n C.1 C.2.1 (kd kX7_takeOut_0 13 rfl) rfl (lv_at hl 0 rfl) ?_
    refine lv_aload_n C.1 C.2.1 (kd kX7_takeOut_0 14 rfl) rfl (lv_at hl 0 rfl) ?_
    refine fl_get (j := 7) (v := .ref (Γ.1 161)) C hP rfl (Nat.le_of_ble_eq_true rfl) rfl inX7 (Nat.le_of_ble_eq_true rfl) tw_290 rfl (kd kX7_takeOut_0 15 rfl) ?_
    refine lv_aload_n C.1 C.2.1 (kd kX7_takeOut_0 16 rfl) rfl (lv_at hl 0 rfl) ?_
    refine fl_get (j := 0) (v := .ref (Γ.1 1)) C hP rfl (Nat.le_of_ble_eq_true rfl) rfl inX7 (Nat.le_of_ble_eq_true rfl) tw_283 rfl (kd kX7_takeOut_0 17 rfl) ?_
    refine lv_iload_n C.1 C.2.1 (kd kX7_takeOut_0 18 rfl) rfl (lv_at hl 1 rfl) ?_
    refine lv_iload_n C.1 C.2.1 (kd kX7_takeOut_0 19 rfl) rfl (lv_at hl 2 rfl) ?_
    obtain ⟨r3_, σ3, hσ3, hf⟩ := fcall_some hf
    refine fl_i hS (fl_runV (As := [.ref (Γ.1 1), .int x1, .int x2]) (rest := [.ref (Γ.1 0)]) C hP rfl (Nat.le_of_ble_eq_true rfl) rfl (m_X4_addCopyTo C.2.2.2.2.2.2.2.2 l rfl hσ3) (fgV tw_833 tw_834 tw_835 tw_74 tw_836) hd_X4_addCopyTo ⟨rfl, rfl, Nat.le_of_ble_eq_true rfl, Nat.le_of_ble_eq_true rfl⟩ rfl hl.1 rfl (Nat.le_of_ble_eq_true rfl) (kd kX7_takeOut_0 20 rfl)) (fun H locs hP hS => ?_)
    obtain ⟨r4_, σ4, hσ4, hf⟩ := fcall_some hf
    refine fl_i hS (fl_runV (As := [.int r3_]) (rest := []) C hP rfl (Nat.le_of_ble_eq_true rfl) rfl (m_X7_noted C.2.2.2.2.2.2.2.2 l  hσ4) (fgV tw_345 tw_347 tw_0 tw_67 tw_348) hd_X7_noted ⟨rfl, rfl, Nat.le_of_ble_eq_true rfl, Nat.le_of_ble_eq_true rfl⟩ rfl hl.1 rfl (Nat.le_of_ble_eq_true rfl) (kd kX7_takeOut_0 21 rfl)) (fun H locs hP hS => ?_)
    exact fl_iret C hP hS hf (kd kX7_takeOut_0 22 rfl)
  have hf := fif_pos q hf
  refine lv_sipush (v := (-10001 : Int32)) C.1 C.2.1 (kd kX7_takeOut_0 6 rfl) (by decide) ?_
  exact fl_iret C hP hS hf (kd kX7_takeOut_0 7 rfl)
def f_X7_lying (x1 : Int32) (x2 : Int32) (σ : fS) : Option (Int32 × fS) := fcall (f_X4_hasPlace x1 x2 σ) (fun r1_ σ1 => (if r1_ = 0 then some ((-10001 : Int32), σ1) else fcall (f_X4_kindAt x1 x2 σ1) (fun r2_ σ2 => some (r2_, σ2))))
set_option maxRecDepth 100000 in
set_option maxHeartbeats 4000000 in
theorem m_X7_lying {Γ : fGm} (hI : fI Γ) (l : Launch) {x1 : Int32} {x2 : Int32} {σ : fS} {r : Int32} {σ' : fS} (hf : f_X7_lying x1 x2 σ = some (r, σ')) : Met l yX7_lying (.code yX7_lying cX7_lying 3 (some .int) :: lw_g) ({ frames := 2, cells := 0, slots := 0, locals := 44 } : Room) (fPre Γ [.ref (Γ.1 0), .int x1, .int x2] σ) (fQi Γ r σ') 0 0 (fAd Γ) := by
  refine fl_enter (own := RX7) hI (by decide +kernel) rfl (Nat.le_of_ble_eq_true rfl) ?_
  intro p e s m args below meth c ls C hl hP hS
  have hl : lv_has ls 3 [(0, .ref (Γ.1 0)), (1, .int x1), (2, .int x2)] := hl
  obtain ⟨H, hH⟩ : ∃ H, H = s.heap := ⟨_, rfl⟩
  obtain ⟨locs, hL⟩ : ∃ L : List Loc, L = [] := ⟨_, rfl⟩
  have hP : fH Γ σ H := by rw [hH]; exact hP
  have hS : va_S (fAd Γ) s.heap H locs := by rw [hH, hL]; exact hS
  suffices hw : W p l e ({ frames := 2, cells := 0, slots := 0, locals := 44 } : Room) s m args below meth c H locs 0 0 (MQ below (fQi Γ r σ') args s 0 0 (fAd Γ)) (F0 m 0 ls []) by rw [hH, hL] at hw; exact hw
  unfold f_X7_lying at hf
  refine lv_aload_n C.1 C.2.1 (kd kX7_lying_0 0 rfl) rfl (lv_at hl 0 rfl) ?_
  refine fl_get (j := 7) (v := .ref (Γ.1 161)) C hP rfl (Nat.le_of_ble_eq_true rfl) rfl inX7 (Nat.le_of_ble_eq_true rfl) tw_290 rfl (kd kX7_lying_0 1 rfl) ?_
  refine lv_iload_n C.1 C.2.1 (kd kX7_lying_0 2 rfl) rfl (lv_at hl 1 rfl) ?_
  refine lv_iload_n C.1 C.2.1 (kd kX7_lying_0 3 rfl) rfl (lv_at hl 2 rfl) ?_
  obtain ⟨r1_, σ1, hσ1, hf⟩ := fcall_some hf
  refine fl_i hS (fl_runV (As := [.int x1, .int x2]) (rest := []) C hP rfl (Nat.le_of_ble_eq_true rfl) rfl (m_X4_hasPlace C.2.2.2.2.2.2.2.2 l  hσ1) (fgV tw_812 tw_813 tw_814 tw_74 tw_815) hd_X4_hasPlace ⟨rfl, rfl, Nat.le_of_ble_eq_true rfl, Nat.le_of_ble_eq_true rfl⟩ rfl hl.1 rfl (Nat.le_of_ble_eq_true rfl) (kd kX7_lying_0 4 rfl)) (fun H locs hP hS => ?_)
  refine lv_if_eq (tgt := 24) C.1 C.2.1 (kd kX7_lying_0 5 rfl) (by decide) (fun q => ?_) (fun q => ?_)
  · have hf := fif_pos q hf
    refine lv_sipush (v := (-10001 : Int32)) C.1 C.2.1 (kd kX7_lying_0 12 rfl) (by decide) ?_
    exact fl_iret C hP hS hf (kd kX7_lying_0 13 rfl)
  have hf := fif_neg q hf
  refine lv_aload_n C.1 C.2.1 (kd kX7_lying_0 6 rfl) rfl (lv_at hl 0 rfl) ?_
  refine fl_get (j := 7) (v := .ref (Γ.1 161)) C hP rfl (Nat.le_of_ble_eq_true rfl) rfl inX7 (Nat.le_of_ble_eq_true rfl) tw_290 rfl (kd kX7_lying_0 7 rfl) ?_
  refine lv_iload_n C.1 C.2.1 (kd kX7_lying_0 8 rfl) rfl (lv_at hl 1 rfl) ?_
  refine lv_iload_n C.1 C.2.1 (kd kX7_lying_0 9 rfl) rfl (lv_at hl 2 rfl) ?_
  obtain ⟨r2_, σ2, hσ2, hf⟩ := fcall_some hf
  refine fl_i hS (fl_runV (As := [.int x1, .int x2]) (rest := []) C hP rfl (Nat.le_of_ble_eq_true rfl) rfl (m_X4_kindAt C.2.2.2.2.2.2.2.2 l  hσ2) (fgV tw_843 tw_826 tw_827 tw_74 tw_828) hd_X4_kindAt ⟨rfl, rfl, Nat.le_of_ble_eq_true rfl, Nat.le_of_ble_eq_true rfl⟩ rfl hl.1 rfl (Nat.le_of_ble_eq_true rfl) (kd kX7_lying_0 10 rfl)) (fun H locs hP hS => ?_)
  refine lv_goto (tgt := 27) C.1 C.2.1 (kd kX7_lying_0 11 rfl) (by decide) ?_
  exact fl_iret C hP hS hf (kd kX7_lying_0 13 rfl)
def f_X7_save (σ : fS) : Option (Int32 × fS) := fcallv (f_X3_copyFrom 31 1 σ) (fun σ1 => fL (fu σ1 0 8 (1 : Int32)) (fun σ2 => fcall (f_X5_size 6 12 4 σ2) (fun r3_ σ3 => some (r3_, σ3))))
set_option maxRecDepth 100000 in
set_option maxHeartbeats 4000000 in
theorem m_X7_save {Γ : fGm} (hI : fI Γ) (l : Launch) {σ : fS} {r : Int32} {σ' : fS} (hf : f_X7_save  σ = some (r, σ')) : Met l yX7_save (.code yX7_save cX7_save 1 (some .int) :: lw_g) ({ frames := 3, cells := 0, slots := 0, locals := 82 } : Room) (fPre Γ [.ref (Γ.1 0)] σ) (fQi Γ r σ') 0 0 (fAd Γ) := by
  refine fl_enter (own := RX7) hI (by decide +kernel) rfl (Nat.le_of_ble_eq_true rfl) ?_
  intro p e s m args below meth c ls C hl hP hS
  have hl : lv_has ls 1 [(0, .ref (Γ.1 0))] := hl
  obtain ⟨H, hH⟩ : ∃ H, H = s.heap := ⟨_, rfl⟩
  obtain ⟨locs, hL⟩ : ∃ L : List Loc, L = [] := ⟨_, rfl⟩
  have hP : fH Γ σ H := by rw [hH]; exact hP
  have hS : va_S (fAd Γ) s.heap H locs := by rw [hH, hL]; exact hS
  suffices hw : W p l e ({ frames := 3, cells := 0, slots := 0, locals := 82 } : Room) s m args below meth c H locs 0 0 (MQ below (fQi Γ r σ') args s 0 0 (fAd Γ)) (F0 m 0 ls []) by rw [hH, hL] at hw; exact hw
  unfold f_X7_save at hf
  refine lv_aload_n C.1 C.2.1 (kd kX7_save_0 0 rfl) rfl (lv_at hl 0 rfl) ?_
  refine fl_get (j := 2) (v := .ref (Γ.1 31)) C hP rfl (Nat.le_of_ble_eq_true rfl) rfl inX7 (Nat.le_of_ble_eq_true rfl) tw_285 rfl (kd kX7_save_0 1 rfl) ?_
  refine lv_aload_n C.1 C.2.1 (kd kX7_save_0 2 rfl) rfl (lv_at hl 0 rfl) ?_
  refine fl_get (j := 0) (v := .ref (Γ.1 1)) C hP rfl (Nat.le_of_ble_eq_true rfl) rfl inX7 (Nat.le_of_ble_eq_true rfl) tw_283 rfl (kd kX7_save_0 3 rfl) ?_
  obtain ⟨σ1, hσ1, hf⟩ := fcallv_some hf
  refine fl_v hS (fl_runV (As := [.ref (Γ.1 1)]) (rest := []) C hP rfl (Nat.le_of_ble_eq_true rfl) rfl (m_X3_copyFrom C.2.2.2.2.2.2.2.2 l rfl rfl hσ1) (fgV tw_315 tw_316 tw_317 tw_68 tw_318) hd_X3_copyFrom ⟨rfl, rfl, Nat.le_of_ble_eq_true rfl, Nat.le_of_ble_eq_true rfl⟩ rfl hl.1 rfl (Nat.le_of_ble_eq_true rfl) (kd kX7_save_0 4 rfl)) (fun H locs hP hS => ?_)
  refine lv_aload_n C.1 C.2.1 (kd kX7_save_0 5 rfl) rfl (lv_at hl 0 rfl) ?_
  refine lv_iconst (v := (1 : Int32)) C.1 C.2.1 (kd kX7_save_0 6 rfl) (by decide) ?_
  obtain ⟨σ2, eσ2, hf⟩ := fL_some hf
  refine fl_put (j := 8) C hP hS rfl rfl (Nat.le_of_ble_eq_true rfl) rfl inX7 tyX7 tyX7_ok nmX7 (Nat.le_of_ble_eq_true rfl) tw_291 rfl rfl rfl (Nat.le_of_ble_eq_true rfl) (kd kX7_save_0 7 rfl) (fun H locs hP hS => ?_)
  have hP : fH Γ σ2 H := by rw [eσ2]; exact hP
  refine lv_aload_n C.1 C.2.1 (kd kX7_save_0 8 rfl) rfl (lv_at hl 0 rfl) ?_
  refine fl_get (j := 0) (v := .ref (Γ.1 1)) C hP rfl (Nat.le_of_ble_eq_true rfl) rfl inX7 (Nat.le_of_ble_eq_true rfl) tw_283 rfl (kd kX7_save_0 9 rfl) ?_
  refine fl_get (j := 2) (v := .ref (Γ.1 6)) C hP rfl (Nat.le_of_ble_eq_true rfl) rfl inX3 (Nat.le_of_ble_eq_true rfl) tw_120 rfl (kd kX7_save_0 10 rfl) ?_
  obtain ⟨r3_, σ3, hσ3, hf⟩ := fcall_some hf
  refine fl_i hS (fl_runV (As := []) (rest := []) C hP rfl (Nat.le_of_ble_eq_true rfl) rfl (m_X5_size C.2.2.2.2.2.2.2.2 l rfl hσ3) (fgV tw_527 tw_414 tw_415 tw_69 tw_416) hd_X5_size ⟨rfl, rfl, Nat.le_of_ble_eq_true rfl, Nat.le_of_ble_eq_true rfl⟩ rfl hl.1 rfl (Nat.le_of_ble_eq_true rfl) (kd kX7_save_0 11 rfl)) (fun H locs hP hS => ?_)
  exact fl_iret C hP hS hf (kd kX7_save_0 12 rfl)
def f_X7_restore (σ : fS) : Option (Int32 × fS) := (if (σ 0 8) = 0 then some ((-10005 : Int32), σ) else fcallv (f_X3_copyFrom 1 31 σ) (fun σ1 => fcallv (f_X1_forget σ1) (fun σ2 => fcall (f_X5_size 6 12 4 σ2) (fun r3_ σ3 => some (r3_, σ3)))))
set_option maxRecDepth 100000 in
set_option maxHeartbeats 4000000 in
theorem m_X7_restore {Γ : fGm} (hI : fI Γ) (l : Launch) {σ : fS} {r : Int32} {σ' : fS} (hf : f_X7_restore  σ = some (r, σ')) : Met l yX7_restore (.code yX7_restore cX7_restore 1 (some .int) :: lw_g) ({ frames := 3, cells := 0, slots := 0, locals := 82 } : Room) (fPre Γ [.ref (Γ.1 0)] σ) (fQi Γ r σ') 0 0 (fAd Γ) := by
  refine fl_enter (own := RX7) hI (by decide +kernel) rfl (Nat.le_of_ble_eq_true rfl) ?_
  intro p e s m args below meth c ls C hl hP hS
  have hl : lv_has ls 1 [(0, .ref (Γ.1 0))] := hl
  obtain ⟨H, hH⟩ : ∃ H, H = s.heap := ⟨_, rfl⟩
  obtain ⟨locs, hL⟩ : ∃ L : List Loc, L = [] := ⟨_, rfl⟩
  have hP : fH Γ σ H := by rw [hH]; exact hP
  have hS : va_S (fAd Γ) s.heap H locs := by rw [hH, hL]; exact hS
  suffices hw : W p l e ({ frames := 3, cells := 0, slots := 0, locals := 82 } : Room) s m args below meth c H locs 0 0 (MQ below (fQi Γ r σ') args s 0 0 (fAd Γ)) (F0 m 0 ls []) by rw [hH, hL] at hw; exact hw
  unfold f_X7_restore at hf
  refine lv_aload_n C.1 C.2.1 (kd kX7_restore_0 0 rfl) rfl (lv_at hl 0 rfl) ?_
  refine fl_get (j := 8) (v := .int (σ 0 8)) C hP rfl (Nat.le_of_ble_eq_true rfl) rfl inX7 (Nat.le_of_ble_eq_true rfl) tw_291 rfl (kd kX7_restore_0 1 rfl) ?_
  refine lv_if_ne (tgt := 11) C.1 C.2.1 (kd kX7_restore_0 2 rfl) (by decide) (fun q => ?_) (fun q => ?_)
  · have hf := fif_neg q hf
    refine lv_aload_n C.1 C.2.1 (kd kX7_restore_0 5 rfl) rfl (lv_at hl 0 rfl) ?_
    refine fl_get (j := 0) (v := .ref (Γ.1 1)) C hP rfl (Nat.le_of_ble_eq_true rfl) rfl inX7 (Nat.le_of_ble_eq_true rfl) tw_283 rfl (kd kX7_restore_0 6 rfl) ?_
    refine lv_aload_n C.1 C.2.1 (kd kX7_restore_0 7 rfl) rfl (lv_at hl 0 rfl) ?_
    refine fl_get (j := 2) (v := .ref (Γ.1 31)) C hP rfl (Nat.le_of_ble_eq_true rfl) rfl inX7 (Nat.le_of_ble_eq_true rfl) tw_285 rfl (kd kX7_restore_0 8 rfl) ?_
    obtain ⟨σ1, hσ1, hf⟩ := fcallv_some hf
    refine fl_v hS (fl_runV (As := [.ref (Γ.1 31)]) (rest := []) C hP rfl (Nat.le_of_ble_eq_true rfl) rfl (m_X3_copyFrom C.2.2.2.2.2.2.2.2 l rfl rfl hσ1) (fgV tw_315 tw_316 tw_317 tw_68 tw_318) hd_X3_copyFrom ⟨rfl, rfl, Nat.le_of_ble_eq_true rfl, Nat.le_of_ble_eq_true rfl⟩ rfl hl.1 rfl (Nat.le_of_ble_eq_true rfl) (kd kX7_restore_0 9 rfl)) (fun H locs hP hS => ?_)
    refine lv_aload_n C.1 C.2.1 (kd kX7_restore_0 10 rfl) rfl (lv_at hl 0 rfl) ?_
    refine fl_get (j := 3) (v := .ref (Γ.1 46)) C hP rfl (Nat.le_of_ble_eq_true rfl) rfl inX7 (Nat.le_of_ble_eq_true rfl) tw_286 rfl (kd kX7_restore_0 11 rfl) ?_
    obtain ⟨σ2, hσ2, hf⟩ := fcallv_some hf
    refine fl_v hS (fl_runV (As := []) (rest := []) C hP rfl (Nat.le_of_ble_eq_true rfl) rfl (m_X1_forget C.2.2.2.2.2.2.2.2 l  hσ2) (fgV tw_852 tw_853 tw_854 tw_70 tw_855) hd_X1_forget ⟨rfl, rfl, Nat.le_of_ble_eq_true rfl, Nat.le_of_ble_eq_true rfl⟩ rfl hl.1 rfl (Nat.le_of_ble_eq_true rfl) (kd kX7_restore_0 12 rfl)) (fun H locs hP hS => ?_)
    refine lv_aload_n C.1 C.2.1 (kd kX7_restore_0 13 rfl) rfl (lv_at hl 0 rfl) ?_
    refine fl_get (j := 0) (v := .ref (Γ.1 1)) C hP rfl (Nat.le_of_ble_eq_true rfl) rfl inX7 (Nat.le_of_ble_eq_true rfl) tw_283 rfl (kd kX7_restore_0 14 rfl) ?_
    refine fl_get (j := 2) (v := .ref (Γ.1 6)) C hP rfl (Nat.le_of_ble_eq_true rfl) rfl inX3 (Nat.le_of_ble_eq_true rfl) tw_120 rfl (kd kX7_restore_0 15 rfl) ?_
    obtain ⟨r3_, σ3, hσ3, hf⟩ := fcall_some hf
    refine fl_i hS (fl_runV (As := []) (rest := []) C hP rfl (Nat.le_of_ble_eq_true rfl) rfl (m_X5_size C.2.2.2.2.2.2.2.2 l rfl hσ3) (fgV tw_527 tw_414 tw_415 tw_69 tw_416) hd_X5_size ⟨rfl, rfl, Nat.le_of_ble_eq_true rfl, Nat.le_of_ble_eq_true rfl⟩ rfl hl.1 rfl (Nat.le_of_ble_eq_true rfl) (kd kX7_restore_0 16 rfl)) (fun H locs hP hS => ?_)
    exact fl_iret C hP hS hf (kd kX7_restore_0 17 rfl)
  have hf := fif_pos q hf
  refine lv_sipush (v := (-10005 : Int32)) C.1 C.2.1 (kd kX7_restore_0 3 rfl) (by decide) ?_
  exact fl_iret C hP hS hf (kd kX7_restore_0 4 rfl)
end GM

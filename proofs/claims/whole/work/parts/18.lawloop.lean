set_option maxRecDepth 100000 in
set_option maxHeartbeats 40000000 in
theorem law_loop {p : Program} {l : Launch} {e : Env} {s : State} {m : MethodId} {below : List Frame} {meth : Method} {c : Code} {Γ : fGm} {b L : Nat} {xs : Nat → Int32} {LI : fS → Prop} (hL : L ≤ 2560) (C : fC Γ p s m #[Value.ref b] meth c cL_law ret RL 4) (hX : va_X b L xs s s.heap) (hbl : b < s.heap.size) (hAd : ∀ q, fAd Γ q → s.heap.size ≤ q) (h0 : ∀ (σ : fS) (x1 : Int32) (x2 : Int32) (x3 : Int32) (x4 : Int32), LI σ → ∃ (r : Int32) (σ1 σ2 : fS), f_X7_addShip x1 x2 x3 x4 σ = some (r, σ1) ∧ f_X8_addShip x1 x2 x3 x4 σ1 = some (r, σ2) ∧ LI σ2) (h1 : ∀ (σ : fS) (x1 : Int32) (x2 : Int32), LI σ → ∃ (r : Int32) (σ1 σ2 : fS), f_X7_addBerth x1 x2 σ = some (r, σ1) ∧ f_X8_addBerth x1 x2 σ1 = some (r, σ2) ∧ LI σ2) (h2 : ∀ (σ : fS) (x1 : Int32) (x2 : Int32) (x3 : Int32) (x4 : Int32), LI σ → ∃ (r : Int32) (σ1 σ2 : fS), f_X7_addCrossing x1 x2 x3 x4 σ = some (r, σ1) ∧ f_X8_addCrossing x1 x2 x3 x4 σ1 = some (r, σ2) ∧ LI σ2) (h3 : ∀ (σ : fS) (x1 : Int32) (x2 : Int32) (x3 : Int32), LI σ → ∃ (r : Int32) (σ1 σ2 : fS), f_X7_addVehicle x1 x2 x3 σ = some (r, σ1) ∧ f_X8_addVehicle x1 x2 x3 σ1 = some (r, σ2) ∧ LI σ2) (h4 : ∀ (σ : fS) (x1 : Int32) (x2 : Int32) (x3 : Int32) (x4 : Int32), LI σ → ∃ (r : Int32) (σ1 σ2 : fS), f_X7_addConnection x1 x2 x3 x4 σ = some (r, σ1) ∧ f_X8_addConnection x1 x2 x3 x4 σ1 = some (r, σ2) ∧ LI σ2) (h5 : ∀ (σ : fS) (x1 : Int32), LI σ → ∃ (r : Int32) (σ1 σ2 : fS), f_X7_removeCrossing x1 σ = some (r, σ1) ∧ f_X8_removeCrossing x1 σ1 = some (r, σ2) ∧ LI σ2) (h6 : ∀ (σ : fS) (x1 : Int32) (x2 : Int32) (x3 : Int32), LI σ → ∃ (r : Int32) (σ1 σ2 : fS), f_X7_setBerth x1 x2 x3 σ = some (r, σ1) ∧ f_X8_setBerth x1 x2 x3 σ1 = some (r, σ2) ∧ LI σ2) (h7 : ∀ (σ : fS) (x1 : Int32) (x2 : Int32), LI σ → ∃ (r : Int32) (σ1 σ2 : fS), f_X7_setTide x1 x2 σ = some (r, σ1) ∧ f_X8_setTide x1 x2 σ1 = some (r, σ2) ∧ LI σ2) (h8 : ∀ (σ : fS) (x1 : Int32) (x2 : Int32), LI σ → ∃ (r : Int32) (σ1 σ2 : fS), f_X7_setWind x1 x2 σ = some (r, σ1) ∧ f_X8_setWind x1 x2 σ1 = some (r, σ2) ∧ LI σ2) (h9 : ∀ (σ : fS) (x1 : Int32), LI σ → ∃ (r : Int32) (σ1 σ2 : fS), f_X7_setMargin x1 σ = some (r, σ1) ∧ f_X8_setMargin x1 σ1 = some (r, σ2) ∧ LI σ2) (h10 : ∀ (σ : fS) (x1 : Int32), LI σ → ∃ (r : Int32) (σ1 σ2 : fS), f_X7_append x1 σ = some (r, σ1) ∧ f_X8_append x1 σ1 = some (r, σ2) ∧ LI σ2) (h11 : ∀ (σ : fS), LI σ → ∃ (r : Int32) (σ1 σ2 : fS), f_X7_read  σ = some (r, σ1) ∧ f_X8_read  σ1 = some (r, σ2) ∧ LI σ2) (h12 : ∀ (σ : fS), LI σ → ∃ (r : Int32) (σ1 σ2 : fS), f_X7_faultPosition  σ = some (r, σ1) ∧ f_X8_faultPosition  σ1 = some (r, σ2) ∧ LI σ2) (h13 : ∀ (σ : fS), LI σ → ∃ (r : Int32) (σ1 σ2 : fS), f_X7_undo  σ = some (r, σ1) ∧ f_X8_undo  σ1 = some (r, σ2) ∧ LI σ2) (h14 : ∀ (σ : fS) (x1 : Int32), LI σ → ∃ (r : Int32) (σ1 σ2 : fS), f_X7_count x1 σ = some (r, σ1) ∧ f_X8_count x1 σ1 = some (r, σ2) ∧ LI σ2) (h15 : ∀ (σ : fS) (x1 : Int32) (x2 : Int32), LI σ → ∃ (r : Int32) (σ1 σ2 : fS), f_X7_ship x1 x2 σ = some (r, σ1) ∧ f_X8_ship x1 x2 σ1 = some (r, σ2) ∧ LI σ2) (h16 : ∀ (σ : fS) (x1 : Int32) (x2 : Int32), LI σ → ∃ (r : Int32) (σ1 σ2 : fS), f_X7_berth x1 x2 σ = some (r, σ1) ∧ f_X8_berth x1 x2 σ1 = some (r, σ2) ∧ LI σ2) (h17 : ∀ (σ : fS) (x1 : Int32) (x2 : Int32), LI σ → ∃ (r : Int32) (σ1 σ2 : fS), f_X7_crossing x1 x2 σ = some (r, σ1) ∧ f_X8_crossing x1 x2 σ1 = some (r, σ2) ∧ LI σ2) (h18 : ∀ (σ : fS) (x1 : Int32), LI σ → ∃ (r : Int32) (σ1 σ2 : fS), f_X7_decided x1 σ = some (r, σ1) ∧ f_X8_decided x1 σ1 = some (r, σ2) ∧ LI σ2) (h19 : ∀ (σ : fS) (x1 : Int32) (x2 : Int32), LI σ → ∃ (r : Int32) (σ1 σ2 : fS), f_X7_vehicle x1 x2 σ = some (r, σ1) ∧ f_X8_vehicle x1 x2 σ1 = some (r, σ2) ∧ LI σ2) (h20 : ∀ (σ : fS) (x1 : Int32) (x2 : Int32), LI σ → ∃ (r : Int32) (σ1 σ2 : fS), f_X7_connection x1 x2 σ = some (r, σ1) ∧ f_X8_connection x1 x2 σ1 = some (r, σ2) ∧ LI σ2) (h21 : ∀ (σ : fS) (x1 : Int32), LI σ → ∃ (r : Int32) (σ1 σ2 : fS), f_X7_tide x1 σ = some (r, σ1) ∧ f_X8_tide x1 σ1 = some (r, σ2) ∧ LI σ2) (h22 : ∀ (σ : fS) (x1 : Int32), LI σ → ∃ (r : Int32) (σ1 σ2 : fS), f_X7_wind x1 σ = some (r, σ1) ∧ f_X8_wind x1 σ1 = some (r, σ2) ∧ LI σ2) (h23 : ∀ (σ : fS) (x1 : Int32), LI σ → ∃ (r : Int32) (σ1 σ2 : fS), f_X7_height x1 σ = some (r, σ1) ∧ f_X8_height x1 σ1 = some (r, σ2) ∧ LI σ2) (h24 : ∀ (σ : fS) (x1 : Int32), LI σ → ∃ (r : Int32) (σ1 σ2 : fS), f_X7_heightBits x1 σ = some (r, σ1) ∧ f_X8_heightBits x1 σ1 = some (r, σ2) ∧ LI σ2) (h25 : ∀ (σ : fS) (x1 : Int32) (x2 : Int32), LI σ → ∃ (r : Int32) (σ1 σ2 : fS), f_X7_water x1 x2 σ = some (r, σ1) ∧ f_X8_water x1 x2 σ1 = some (r, σ2) ∧ LI σ2) (h26 : ∀ (σ : fS) (x1 : Int32) (x2 : Int32) (x3 : Int32), LI σ → ∃ (r : Int32) (σ1 σ2 : fS), f_X7_firstTime x1 x2 x3 σ = some (r, σ1) ∧ f_X8_firstTime x1 x2 x3 σ1 = some (r, σ2) ∧ LI σ2) (h27 : ∀ (σ : fS) (x1 : Int32) (x2 : Int32), LI σ → ∃ (r : Int32) (σ1 σ2 : fS), f_X7_laneLeft x1 x2 σ = some (r, σ1) ∧ f_X8_laneLeft x1 x2 σ1 = some (r, σ2) ∧ LI σ2) (h28 : ∀ (σ : fS) (x1 : Int32) (x2 : Int32) (x3 : Int32), LI σ → ∃ (r : Int32) (σ1 σ2 : fS), f_X7_laneVehicle x1 x2 x3 σ = some (r, σ1) ∧ f_X8_laneVehicle x1 x2 x3 σ1 = some (r, σ2) ∧ LI σ2) (h29 : ∀ (σ : fS) (x1 : Int32) (x2 : Int32), LI σ → ∃ (r : Int32) (σ1 σ2 : fS), f_X7_leaves x1 x2 σ = some (r, σ1) ∧ f_X8_leaves x1 x2 σ1 = some (r, σ2) ∧ LI σ2) (h30 : ∀ (σ : fS), LI σ → ∃ (r : Int32) (σ1 σ2 : fS), f_X7_isOrderly  σ = some (r, σ1) ∧ f_X8_isOrderly  σ1 = some (r, σ2) ∧ LI σ2) (h31 : ∀ (σ : fS) (x1 : Int32), LI σ → ∃ (r : Int32) (σ1 σ2 : fS), f_X7_account x1 σ = some (r, σ1) ∧ f_X8_account x1 σ1 = some (r, σ2) ∧ LI σ2) (h32 : ∀ (σ : fS), LI σ → ∃ (r : Int32) (σ1 σ2 : fS), f_X7_loadBits  σ = some (r, σ1) ∧ f_X8_loadBits  σ1 = some (r, σ2) ∧ LI σ2) (h33 : ∀ (σ : fS) (x1 : Int32), LI σ → ∃ (r : Int32) (σ1 σ2 : fS), f_X7_sailingIf x1 σ = some (r, σ1) ∧ f_X8_sailingIf x1 σ1 = some (r, σ2) ∧ LI σ2) (h34 : ∀ (σ : fS) (x1 : Int32), LI σ → ∃ (r : Int32) (σ1 σ2 : fS), f_X7_bestBerth x1 σ = some (r, σ1) ∧ f_X8_bestBerth x1 σ1 = some (r, σ2) ∧ LI σ2) (h35 : ∀ (σ : fS) (x1 : Int32) (x2 : Int32) (x3 : Int32) (x4 : Int32), LI σ → ∃ (r : Int32) (σ1 σ2 : fS), f_X7_layDown x1 x2 x3 x4 σ = some (r, σ1) ∧ f_X8_layDown x1 x2 x3 x4 σ1 = some (r, σ2) ∧ LI σ2) (h36 : ∀ (σ : fS) (x1 : Int32) (x2 : Int32), LI σ → ∃ (r : Int32) (σ1 σ2 : fS), f_X7_takeOut x1 x2 σ = some (r, σ1) ∧ f_X8_takeOut x1 x2 σ1 = some (r, σ2) ∧ LI σ2) (h37 : ∀ (σ : fS) (x1 : Int32) (x2 : Int32), LI σ → ∃ (r : Int32) (σ1 σ2 : fS), f_X7_lying x1 x2 σ = some (r, σ1) ∧ f_X8_lying x1 x2 σ1 = some (r, σ2) ∧ LI σ2) (h38 : ∀ (σ : fS), LI σ → ∃ (r : Int32) (σ1 σ2 : fS), f_X7_save  σ = some (r, σ1) ∧ f_X8_save  σ1 = some (r, σ2) ∧ LI σ2) (h39 : ∀ (σ : fS), LI σ → ∃ (r : Int32) (σ1 σ2 : fS), f_X7_restore  σ = some (r, σ1) ∧ f_X8_restore  σ1 = some (r, σ2) ∧ LI σ2) :
    ∀ (n i : Nat), i ≤ L → L < i + n → ∀ (σ : fS), LI σ → ∀ (H : Heap) (locs : List Loc), fH Γ σ H → va_S (fun q : Nat => s.heap.size ≤ q) s.heap H locs → ∀ (ls : Array Slot), lv_has ls 4 [(0, .ref b), (1, .ref (Γ.1 0)), (2, .ref (Γ.1 164)), (3, .int (nI i))] → W p l e room_1 s m #[Value.ref b] below meth c H locs 189 7990 (lw_Z below #[Value.ref b] s) (F0 m 18 ls []) := by
  have hbA : ¬ (fun q : Nat => s.heap.size ≤ q) b := Nat.not_le.mpr hbl
  intro n
  induction n with
  | zero =>
    intro i h1 h2
    exact absurd h2 (by omega)
  | succ n ih =>
    intro i hi hin σ hLI H locs hP hS ls hl
    refine lv_iload_n C.1 C.2.1 (kd kL_law_0 10 rfl) rfl (lv_at hl 3 rfl) ?_
    refine lv_aload_n C.1 C.2.1 (kd kL_law_0 11 rfl) rfl (lv_at hl 0 rfl) ?_
    refine va_slen C.1 C.2.1 hX hbl hbA hS (kd kL_law_0 12 rfl) ?_
    refine lv_iconst (v := 5) C.1 C.2.1 (kd kL_law_0 13 rfl) (by decide) ?_
    refine lv_isub C.1 C.2.1 (kd kL_law_0 14 rfl) ?_
    refine lv_icmp_gt (tgt := 1394) C.1 C.2.1 (kd kL_law_0 15 rfl) (by decide) (fun q => ?_) (fun q => ?_)
    · refine lv_iconst (v := 1) C.1 C.2.1 (kd kL_law_16 4 rfl) (by decide) ?_
      refine va_forget (fun q hq => hS.2.2 q hq) ?_
      refine W.widen (k := 600000) (n := 7302250) (Nat.le_of_ble_eq_true rfl) (Nat.le_of_ble_eq_true rfl) ?_
      exact lw_ret (d0 := s.drawn) (Drawn.sameBut.refl s.drawn lw_cs) C.1 C.2.1 C.2.2.1 C.2.2.2.2.2.2.1 (kd kL_law_16 5 rfl)
    have hi5 : i + 5 ≤ L := law_lt hL hi q
    have b0 : vp_in (nI i) L := vp_in_nI (by omega) (by omega)
    have b1 : vp_in (nI i + 1) L := law_in hL hi5 1 (by decide)
    have b2 : vp_in (nI i + 2) L := law_in hL hi5 2 (by decide)
    have b3 : vp_in (nI i + 3) L := law_in hL hi5 3 (by decide)
    have b4 : vp_in (nI i + 4) L := law_in hL hi5 4 (by decide)
    have t1 : xs (nI i + 1).toNatClampNeg = xs (i + 1) := law_at hL hi5 1 (by decide) xs
    have t2 : xs (nI i + 2).toNatClampNeg = xs (i + 2) := law_at hL hi5 2 (by decide) xs
    have t3 : xs (nI i + 3).toNatClampNeg = xs (i + 3) := law_at hL hi5 3 (by decide) xs
    have t4 : xs (nI i + 4).toNatClampNeg = xs (i + 4) := law_at hL hi5 4 (by decide) xs
    have t0 : xs (nI i).toNatClampNeg = xs i := law_at0 hL hi5 xs
    refine lv_aload_n C.1 C.2.1 (kd kL_law_0 16 rfl) rfl (lv_at hl 0 rfl) ?_
    refine lv_iload_n C.1 C.2.1 (kd kL_law_0 17 rfl) rfl (lv_at hl 3 rfl) ?_
    refine va_sld C.1 C.2.1 hX hbl hbA hS b0 (kd kL_law_0 18 rfl) ?_
    rw [t0]
    refine lv_bipush (v := 63) C.1 C.2.1 (kd kL_law_0 19 rfl) (by decide) ?_
    refine lv_iand C.1 C.2.1 (kd kL_law_0 20 rfl) ?_
    generalize xs i &&& 63 = o
    by_cases q0 : o = 0
    · refine lv_tableIn (tgt := 208) C.1 C.2.1 (kd kL_law_0 21 rfl) (by rw [q0] <;> decide) (by rw [q0] <;> decide) (by rw [q0] <;> rfl) (by decide) ?_
      obtain ⟨r, σ1, σ2, e1, e2, hLI⟩ := h0 σ (xs (i + 1)) (xs (i + 2)) (xs (i + 3)) (xs (i + 4)) hLI
      refine lv_aload_n C.1 C.2.1 (kd kL_law_0 22 rfl) rfl (lv_at hl 1 rfl) ?_
      refine lv_aload_n C.1 C.2.1 (kd kL_law_0 23 rfl) rfl (lv_at hl 0 rfl) ?_
      refine lv_iload_n C.1 C.2.1 (kd kL_law_0 24 rfl) rfl (lv_at hl 3 rfl) ?_
      refine lv_iconst (v := 1) C.1 C.2.1 (kd kL_law_0 25 rfl) (by decide) ?_
      refine lv_iadd C.1 C.2.1 (kd kL_law_0 26 rfl) ?_
      refine va_sld C.1 C.2.1 hX hbl hbA hS b1 (kd kL_law_0 27 rfl) ?_
      rw [t1]
      refine lv_aload_n C.1 C.2.1 (kd kL_law_0 28 rfl) rfl (lv_at hl 0 rfl) ?_
      refine lv_iload_n C.1 C.2.1 (kd kL_law_0 29 rfl) rfl (lv_at hl 3 rfl) ?_
      refine lv_iconst (v := 2) C.1 C.2.1 (kd kL_law_0 30 rfl) (by decide) ?_
      refine lv_iadd C.1 C.2.1 (kd kL_law_0 31 rfl) ?_
      refine va_sld C.1 C.2.1 hX hbl hbA hS b2 (kd kL_law_0 32 rfl) ?_
      rw [t2]
      refine lv_aload_n C.1 C.2.1 (kd kL_law_0 33 rfl) rfl (lv_at hl 0 rfl) ?_
      refine lv_iload_n C.1 C.2.1 (kd kL_law_0 34 rfl) rfl (lv_at hl 3 rfl) ?_
      refine lv_iconst (v := 3) C.1 C.2.1 (kd kL_law_0 35 rfl) (by decide) ?_
      refine lv_iadd C.1 C.2.1 (kd kL_law_0 36 rfl) ?_
      refine va_sld C.1 C.2.1 hX hbl hbA hS b3 (kd kL_law_0 37 rfl) ?_
      rw [t3]
      refine lv_aload_n C.1 C.2.1 (kd kL_law_0 38 rfl) rfl (lv_at hl 0 rfl) ?_
      refine lv_iload_n C.1 C.2.1 (kd kL_law_0 39 rfl) rfl (lv_at hl 3 rfl) ?_
      refine lv_iconst (v := 4) C.1 C.2.1 (kd kL_law_0 40 rfl) (by decide) ?_
      refine lv_iadd C.1 C.2.1 (kd kL_law_0 41 rfl) ?_
      refine va_sld C.1 C.2.1 hX hbl hbA hS b4 (kd kL_law_0 42 rfl) ?_
      rw [t4]
      refine la_V (k := 0) (As := [.int (xs (i + 1)), .int (xs (i + 2)), .int (xs (i + 3)), .int (xs (i + 4))]) (rest := []) (n := 4) C hP hS hAd rfl (Nat.le_of_ble_eq_true rfl) rfl (m_X7_addShip C.2.2.2.2.2.2.2.2 l e1) (fgV tw_311 tw_312 tw_313 tw_67 tw_314) hd_X7_addShip ⟨rfl, rfl, Nat.le_of_ble_eq_true rfl, Nat.le_of_ble_eq_true rfl⟩ rfl hl.1 rfl (Nat.le_of_ble_eq_true rfl) (kd kL_law_0 43 rfl) (Nat.le_of_ble_eq_true rfl) (Nat.le_of_ble_eq_true rfl) (fun H locs hP hS => ?_)
      refine lv_aload_n C.1 C.2.1 (kd kL_law_0 44 rfl) rfl (lv_at hl 2 rfl) ?_
      refine lv_aload_n C.1 C.2.1 (kd kL_law_0 45 rfl) rfl (lv_at hl 0 rfl) ?_
      refine lv_iload_n C.1 C.2.1 (kd kL_law_0 46 rfl) rfl (lv_at hl 3 rfl) ?_
      refine lv_iconst (v := 1) C.1 C.2.1 (kd kL_law_0 47 rfl) (by decide) ?_
      refine lv_iadd C.1 C.2.1 (kd kL_law_0 48 rfl) ?_
      refine va_sld C.1 C.2.1 hX hbl hbA hS b1 (kd kL_law_0 49 rfl) ?_
      rw [t1]
      refine lv_aload_n C.1 C.2.1 (kd kL_law_0 50 rfl) rfl (lv_at hl 0 rfl) ?_
      refine lv_iload_n C.1 C.2.1 (kd kL_law_0 51 rfl) rfl (lv_at hl 3 rfl) ?_
      refine lv_iconst (v := 2) C.1 C.2.1 (kd kL_law_0 52 rfl) (by decide) ?_
      refine lv_iadd C.1 C.2.1 (kd kL_law_0 53 rfl) ?_
      refine va_sld C.1 C.2.1 hX hbl hbA hS b2 (kd kL_law_0 54 rfl) ?_
      rw [t2]
      refine lv_aload_n C.1 C.2.1 (kd kL_law_0 55 rfl) rfl (lv_at hl 0 rfl) ?_
      refine lv_iload_n C.1 C.2.1 (kd kL_law_0 56 rfl) rfl (lv_at hl 3 rfl) ?_
      refine lv_iconst (v := 3) C.1 C.2.1 (kd kL_law_0 57 rfl) (by decide) ?_
      refine lv_iadd C.1 C.2.1 (kd kL_law_0 58 rfl) ?_
      refine va_sld C.1 C.2.1 hX hbl hbA hS b3 (kd kL_law_0 59 rfl) ?_
      rw [t3]
      refine lv_aload_n C.1 C.2.1 (kd kL_law_1 0 rfl) rfl (lv_at hl 0 rfl) ?_
      refine lv_iload_n C.1 C.2.1 (kd kL_law_1 1 rfl) rfl (lv_at hl 3 rfl) ?_
      refine lv_iconst (v := 4) C.1 C.2.1 (kd kL_law_1 2 rfl) (by decide) ?_
      refine lv_iadd C.1 C.2.1 (kd kL_law_1 3 rfl) ?_
      refine va_sld C.1 C.2.1 hX hbl hbA hS b4 (kd kL_law_1 4 rfl) ?_
      rw [t4]
      refine la_V (k := 164) (As := [.int (xs (i + 1)), .int (xs (i + 2)), .int (xs (i + 3)), .int (xs (i + 4))]) (rest := [.int r]) (n := 4) C hP hS hAd rfl (Nat.le_of_ble_eq_true rfl) rfl (m_X8_addShip C.2.2.2.2.2.2.2.2 l e2) (fgV tw_956 tw_957 tw_958 tw_75 tw_959) hd_X8_addShip ⟨rfl, rfl, Nat.le_of_ble_eq_true rfl, Nat.le_of_ble_eq_true rfl⟩ rfl hl.1 rfl (Nat.le_of_ble_eq_true rfl) (kd kL_law_1 5 rfl) (Nat.le_of_ble_eq_true rfl) (Nat.le_of_ble_eq_true rfl) (fun H locs hP hS => ?_)
      refine lv_icmp_eq (tgt := 1388) C.1 C.2.1 (kd kL_law_1 6 rfl) (by decide) (fun _ => ?_) (fun z => absurd rfl z)
      refine lv_iinc (v := nI (i + 5)) (lv' := [(3, .int (nI (i + 5))), (0, .ref b), (1, .ref (Γ.1 0)), (2, .ref (Γ.1 164))]) C.1 C.2.1 (kd kL_law_16 2 rfl) hl (k := 3) rfl (law_inc i) (Nat.le_of_ble_eq_true rfl) rfl (fun ls hl => ?_)
      refine lv_goto (tgt := 18) C.1 C.2.1 (kd kL_law_16 3 rfl) (by decide) ?_
      exact ih (i + 5) hi5 (by omega) σ2 hLI H locs hP hS ls (lv_sub hl [1, 2, 3, 0] rfl)
    have z0 : ¬ o.toInt = 0 := fi_ne q0 (by decide)
    by_cases q1 : o = 1
    · refine lv_tableIn (tgt := 261) C.1 C.2.1 (kd kL_law_0 21 rfl) (by rw [q1] <;> decide) (by rw [q1] <;> decide) (by rw [q1] <;> rfl) (by decide) ?_
      obtain ⟨r, σ1, σ2, e1, e2, hLI⟩ := h1 σ (xs (i + 1)) (xs (i + 2)) hLI
      refine lv_aload_n C.1 C.2.1 (kd kL_law_1 9 rfl) rfl (lv_at hl 1 rfl) ?_
      refine lv_aload_n C.1 C.2.1 (kd kL_law_1 10 rfl) rfl (lv_at hl 0 rfl) ?_
      refine lv_iload_n C.1 C.2.1 (kd kL_law_1 11 rfl) rfl (lv_at hl 3 rfl) ?_
      refine lv_iconst (v := 1) C.1 C.2.1 (kd kL_law_1 12 rfl) (by decide) ?_
      refine lv_iadd C.1 C.2.1 (kd kL_law_1 13 rfl) ?_
      refine va_sld C.1 C.2.1 hX hbl hbA hS b1 (kd kL_law_1 14 rfl) ?_
      rw [t1]
      refine lv_aload_n C.1 C.2.1 (kd kL_law_1 15 rfl) rfl (lv_at hl 0 rfl) ?_
      refine lv_iload_n C.1 C.2.1 (kd kL_law_1 16 rfl) rfl (lv_at hl 3 rfl) ?_
      refine lv_iconst (v := 2) C.1 C.2.1 (kd kL_law_1 17 rfl) (by decide) ?_
      refine lv_iadd C.1 C.2.1 (kd kL_law_1 18 rfl) ?_
      refine va_sld C.1 C.2.1 hX hbl hbA hS b2 (kd kL_law_1 19 rfl) ?_
      rw [t2]
      refine la_V (k := 0) (As := [.int (xs (i + 1)), .int (xs (i + 2))]) (rest := []) (n := 2) C hP hS hAd rfl (Nat.le_of_ble_eq_true rfl) rfl (m_X7_addBerth C.2.2.2.2.2.2.2.2 l e1) (fgV tw_358 tw_359 tw_360 tw_67 tw_361) hd_X7_addBerth ⟨rfl, rfl, Nat.le_of_ble_eq_true rfl, Nat.le_of_ble_eq_true rfl⟩ rfl hl.1 rfl (Nat.le_of_ble_eq_true rfl) (kd kL_law_1 20 rfl) (Nat.le_of_ble_eq_true rfl) (Nat.le_of_ble_eq_true rfl) (fun H locs hP hS => ?_)
      refine lv_aload_n C.1 C.2.1 (kd kL_law_1 21 rfl) rfl (lv_at hl 2 rfl) ?_
      refine lv_aload_n C.1 C.2.1 (kd kL_law_1 22 rfl) rfl (lv_at hl 0 rfl) ?_
      refine lv_iload_n C.1 C.2.1 (kd kL_law_1 23 rfl) rfl (lv_at hl 3 rfl) ?_
      refine lv_iconst (v := 1) C.1 C.2.1 (kd kL_law_1 24 rfl) (by decide) ?_
      refine lv_iadd C.1 C.2.1 (kd kL_law_1 25 rfl) ?_
      refine va_sld C.1 C.2.1 hX hbl hbA hS b1 (kd kL_law_1 26 rfl) ?_
      rw [t1]
      refine lv_aload_n C.1 C.2.1 (kd kL_law_1 27 rfl) rfl (lv_at hl 0 rfl) ?_
      refine lv_iload_n C.1 C.2.1 (kd kL_law_1 28 rfl) rfl (lv_at hl 3 rfl) ?_
      refine lv_iconst (v := 2) C.1 C.2.1 (kd kL_law_1 29 rfl) (by decide) ?_
      refine lv_iadd C.1 C.2.1 (kd kL_law_1 30 rfl) ?_
      refine va_sld C.1 C.2.1 hX hbl hbA hS b2 (kd kL_law_1 31 rfl) ?_
      rw [t2]
      refine la_V (k := 164) (As := [.int (xs (i + 1)), .int (xs (i + 2))]) (rest := [.int r]) (n := 2) C hP hS hAd rfl (Nat.le_of_ble_eq_true rfl) rfl (m_X8_addBerth C.2.2.2.2.2.2.2.2 l e2) (fgV tw_978 tw_979 tw_980 tw_75 tw_981) hd_X8_addBerth ⟨rfl, rfl, Nat.le_of_ble_eq_true rfl, Nat.le_of_ble_eq_true rfl⟩ rfl hl.1 rfl (Nat.le_of_ble_eq_true rfl) (kd kL_law_1 32 rfl) (Nat.le_of_ble_eq_true rfl) (Nat.le_of_ble_eq_true rfl) (fun H locs hP hS => ?_)
      refine lv_icmp_eq (tgt := 1388) C.1 C.2.1 (kd kL_law_1 33 rfl) (by decide) (fun _ => ?_) (fun z => absurd rfl z)
      refine lv_iinc (v := nI (i + 5)) (lv' := [(3, .int (nI (i + 5))), (0, .ref b), (1, .ref (Γ.1 0)), (2, .ref (Γ.1 164))]) C.1 C.2.1 (kd kL_law_16 2 rfl) hl (k := 3) rfl (law_inc i) (Nat.le_of_ble_eq_true rfl) rfl (fun ls hl => ?_)
      refine lv_goto (tgt := 18) C.1 C.2.1 (kd kL_law_16 3 rfl) (by decide) ?_
      exact ih (i + 5) hi5 (by omega) σ2 hLI H locs hP hS ls (lv_sub hl [1, 2, 3, 0] rfl)
    have z1 : ¬ o.toInt = 1 := fi_ne q1 (by decide)
    by_cases q2 : o = 2
    · refine lv_tableIn (tgt := 294) C.1 C.2.1 (kd kL_law_0 21 rfl) (by rw [q2] <;> decide) (by rw [q2] <;> decide) (by rw [q2] <;> rfl) (by decide) ?_
      obtain ⟨r, σ1, σ2, e1, e2, hLI⟩ := h2 σ (xs (i + 1)) (xs (i + 2)) (xs (i + 3)) (xs (i + 4)) hLI
      refine lv_aload_n C.1 C.2.1 (kd kL_law_1 36 rfl) rfl (lv_at hl 1 rfl) ?_
      refine lv_aload_n C.1 C.2.1 (kd kL_law_1 37 rfl) rfl (lv_at hl 0 rfl) ?_
      refine lv_iload_n C.1 C.2.1 (kd kL_law_1 38 rfl) rfl (lv_at hl 3 rfl) ?_
      refine lv_iconst (v := 1) C.1 C.2.1 (kd kL_law_1 39 rfl) (by decide) ?_
      refine lv_iadd C.1 C.2.1 (kd kL_law_1 40 rfl) ?_
      refine va_sld C.1 C.2.1 hX hbl hbA hS b1 (kd kL_law_1 41 rfl) ?_
      rw [t1]
      refine lv_aload_n C.1 C.2.1 (kd kL_law_1 42 rfl) rfl (lv_at hl 0 rfl) ?_
      refine lv_iload_n C.1 C.2.1 (kd kL_law_1 43 rfl) rfl (lv_at hl 3 rfl) ?_
      refine lv_iconst (v := 2) C.1 C.2.1 (kd kL_law_1 44 rfl) (by decide) ?_
      refine lv_iadd C.1 C.2.1 (kd kL_law_1 45 rfl) ?_
      refine va_sld C.1 C.2.1 hX hbl hbA hS b2 (kd kL_law_1 46 rfl) ?_
      rw [t2]
      refine lv_aload_n C.1 C.2.1 (kd kL_law_1 47 rfl) rfl (lv_at hl 0 rfl) ?_
      refine lv_iload_n C.1 C.2.1 (kd kL_law_1 48 rfl) rfl (lv_at hl 3 rfl) ?_
      refine lv_iconst (v := 3) C.1 C.2.1 (kd kL_law_1 49 rfl) (by decide) ?_
      refine lv_iadd C.1 C.2.1 (kd kL_law_1 50 rfl) ?_
      refine va_sld C.1 C.2.1 hX hbl hbA hS b3 (kd kL_law_1 51 rfl) ?_
      rw [t3]
      refine lv_aload_n C.1 C.2.1 (kd kL_law_1 52 rfl) rfl (lv_at hl 0 rfl) ?_
      refine lv_iload_n C.1 C.2.1 (kd kL_law_1 53 rfl) rfl (lv_at hl 3 rfl) ?_
      refine lv_iconst (v := 4) C.1 C.2.1 (kd kL_law_1 54 rfl) (by decide) ?_
      refine lv_iadd C.1 C.2.1 (kd kL_law_1 55 rfl) ?_
      refine va_sld C.1 C.2.1 hX hbl hbA hS b4 (kd kL_law_1 56 rfl) ?_
      rw [t4]
      refine la_V (k := 0) (As := [.int (xs (i + 1)), .int (xs (i + 2)), .int (xs (i + 3)), .int (xs (i + 4))]) (rest := []) (n := 4) C hP hS hAd rfl (Nat.le_of_ble_eq_true rfl) rfl (m_X7_addCrossing C.2.2.2.2.2.2.2.2 l e1) (fgV tw_369 tw_370 tw_371 tw_67 tw_372) hd_X7_addCrossing ⟨rfl, rfl, Nat.le_of_ble_eq_true rfl, Nat.le_of_ble_eq_true rfl⟩ rfl hl.1 rfl (Nat.le_of_ble_eq_true rfl) (kd kL_law_1 57 rfl) (Nat.le_of_ble_eq_true rfl) (Nat.le_of_ble_eq_true rfl) (fun H locs hP hS => ?_)
      refine lv_aload_n C.1 C.2.1 (kd kL_law_1 58 rfl) rfl (lv_at hl 2 rfl) ?_
      refine lv_aload_n C.1 C.2.1 (kd kL_law_1 59 rfl) rfl (lv_at hl 0 rfl) ?_
      refine lv_iload_n C.1 C.2.1 (kd kL_law_2 0 rfl) rfl (lv_at hl 3 rfl) ?_
      refine lv_iconst (v := 1) C.1 C.2.1 (kd kL_law_2 1 rfl) (by decide) ?_
      refine lv_iadd C.1 C.2.1 (kd kL_law_2 2 rfl) ?_
      refine va_sld C.1 C.2.1 hX hbl hbA hS b1 (kd kL_law_2 3 rfl) ?_
      rw [t1]
      refine lv_aload_n C.1 C.2.1 (kd kL_law_2 4 rfl) rfl (lv_at hl 0 rfl) ?_
      refine lv_iload_n C.1 C.2.1 (kd kL_law_2 5 rfl) rfl (lv_at hl 3 rfl) ?_
      refine lv_iconst (v := 2) C.1 C.2.1 (kd kL_law_2 6 rfl) (by decide) ?_
      refine lv_iadd C.1 C.2.1 (kd kL_law_2 7 rfl) ?_
      refine va_sld C.1 C.2.1 hX hbl hbA hS b2 (kd kL_law_2 8 rfl) ?_
      rw [t2]
      refine lv_aload_n C.1 C.2.1 (kd kL_law_2 9 rfl) rfl (lv_at hl 0 rfl) ?_
      refine lv_iload_n C.1 C.2.1 (kd kL_law_2 10 rfl) rfl (lv_at hl 3 rfl) ?_
      refine lv_iconst (v := 3) C.1 C.2.1 (kd kL_law_2 11 rfl) (by decide) ?_
      refine lv_iadd C.1 C.2.1 (kd kL_law_2 12 rfl) ?_
      refine va_sld C.1 C.2.1 hX hbl hbA hS b3 (kd kL_law_2 13 rfl) ?_
      rw [t3]
      refine lv_aload_n C.1 C.2.1 (kd kL_law_2 14 rfl) rfl (lv_at hl 0 rfl) ?_
      refine lv_iload_n C.1 C.2.1 (kd kL_law_2 15 rfl) rfl (lv_at hl 3 rfl) ?_
      refine lv_iconst (v := 4) C.1 C.2.1 (kd kL_law_2 16 rfl) (by decide) ?_
      refine lv_iadd C.1 C.2.1 (kd kL_law_2 17 rfl) ?_
      refine va_sld C.1 C.2.1 hX hbl hbA hS b4 (kd kL_law_2 18 rfl) ?_
      rw [t4]
      refine la_V (k := 164) (As := [.int (xs (i + 1)), .int (xs (i + 2)), .int (xs (i + 3)), .int (xs (i + 4))]) (rest := [.int r]) (n := 4) C hP hS hAd rfl (Nat.le_of_ble_eq_true rfl) rfl (m_X8_addCrossing C.2.2.2.2.2.2.2.2 l e2) (fgV tw_986 tw_987 tw_988 tw_75 tw_989) hd_X8_addCrossing ⟨rfl, rfl, Nat.le_of_ble_eq_true rfl, Nat.le_of_ble_eq_true rfl⟩ rfl hl.1 rfl (Nat.le_of_ble_eq_true rfl) (kd kL_law_2 19 rfl) (Nat.le_of_ble_eq_true rfl) (Nat.le_of_ble_eq_true rfl) (fun H locs hP hS => ?_)
      refine lv_icmp_eq (tgt := 1388) C.1 C.2.1 (kd kL_law_2 20 rfl) (by decide) (fun _ => ?_) (fun z => absurd rfl z)
      refine lv_iinc (v := nI (i + 5)) (lv' := [(3, .int (nI (i + 5))), (0, .ref b), (1, .ref (Γ.1 0)), (2, .ref (Γ.1 164))]) C.1 C.2.1 (kd kL_law_16 2 rfl) hl (k := 3) rfl (law_inc i) (Nat.le_of_ble_eq_true rfl) rfl (fun ls hl => ?_)
      refine lv_goto (tgt := 18) C.1 C.2.1 (kd kL_law_16 3 rfl) (by decide) ?_
      exact ih (i + 5) hi5 (by omega) σ2 hLI H locs hP hS ls (lv_sub hl [1, 2, 3, 0] rfl)
    have z2 : ¬ o.toInt = 2 := fi_ne q2 (by decide)
    by_cases q3 : o = 3
    · refine lv_tableIn (tgt := 347) C.1 C.2.1 (kd kL_law_0 21 rfl) (by rw [q3] <;> decide) (by rw [q3] <;> decide) (by rw [q3] <;> rfl) (by decide) ?_
      obtain ⟨r, σ1, σ2, e1, e2, hLI⟩ := h3 σ (xs (i + 1)) (xs (i + 2)) (xs (i + 3)) hLI
      refine lv_aload_n C.1 C.2.1 (kd kL_law_2 23 rfl) rfl (lv_at hl 1 rfl) ?_
      refine lv_aload_n C.1 C.2.1 (kd kL_law_2 24 rfl) rfl (lv_at hl 0 rfl) ?_
      refine lv_iload_n C.1 C.2.1 (kd kL_law_2 25 rfl) rfl (lv_at hl 3 rfl) ?_
      refine lv_iconst (v := 1) C.1 C.2.1 (kd kL_law_2 26 rfl) (by decide) ?_
      refine lv_iadd C.1 C.2.1 (kd kL_law_2 27 rfl) ?_
      refine va_sld C.1 C.2.1 hX hbl hbA hS b1 (kd kL_law_2 28 rfl) ?_
      rw [t1]
      refine lv_aload_n C.1 C.2.1 (kd kL_law_2 29 rfl) rfl (lv_at hl 0 rfl) ?_
      refine lv_iload_n C.1 C.2.1 (kd kL_law_2 30 rfl) rfl (lv_at hl 3 rfl) ?_
      refine lv_iconst (v := 2) C.1 C.2.1 (kd kL_law_2 31 rfl) (by decide) ?_
      refine lv_iadd C.1 C.2.1 (kd kL_law_2 32 rfl) ?_
      refine va_sld C.1 C.2.1 hX hbl hbA hS b2 (kd kL_law_2 33 rfl) ?_
      rw [t2]
      refine lv_aload_n C.1 C.2.1 (kd kL_law_2 34 rfl) rfl (lv_at hl 0 rfl) ?_
      refine lv_iload_n C.1 C.2.1 (kd kL_law_2 35 rfl) rfl (lv_at hl 3 rfl) ?_
      refine lv_iconst (v := 3) C.1 C.2.1 (kd kL_law_2 36 rfl) (by decide) ?_
      refine lv_iadd C.1 C.2.1 (kd kL_law_2 37 rfl) ?_
      refine va_sld C.1 C.2.1 hX hbl hbA hS b3 (kd kL_law_2 38 rfl) ?_
      rw [t3]
      refine la_V (k := 0) (As := [.int (xs (i + 1)), .int (xs (i + 2)), .int (xs (i + 3))]) (rest := []) (n := 3) C hP hS hAd rfl (Nat.le_of_ble_eq_true rfl) rfl (m_X7_addVehicle C.2.2.2.2.2.2.2.2 l e1) (fgV tw_381 tw_382 tw_383 tw_67 tw_384) hd_X7_addVehicle ⟨rfl, rfl, Nat.le_of_ble_eq_true rfl, Nat.le_of_ble_eq_true rfl⟩ rfl hl.1 rfl (Nat.le_of_ble_eq_true rfl) (kd kL_law_2 39 rfl) (Nat.le_of_ble_eq_true rfl) (Nat.le_of_ble_eq_true rfl) (fun H locs hP hS => ?_)
      refine lv_aload_n C.1 C.2.1 (kd kL_law_2 40 rfl) rfl (lv_at hl 2 rfl) ?_
      refine lv_aload_n C.1 C.2.1 (kd kL_law_2 41 rfl) rfl (lv_at hl 0 rfl) ?_
      refine lv_iload_n C.1 C.2.1 (kd kL_law_2 42 rfl) rfl (lv_at hl 3 rfl) ?_
      refine lv_iconst (v := 1) C.1 C.2.1 (kd kL_law_2 43 rfl) (by decide) ?_
      refine lv_iadd C.1 C.2.1 (kd kL_law_2 44 rfl) ?_
      refine va_sld C.1 C.2.1 hX hbl hbA hS b1 (kd kL_law_2 45 rfl) ?_
      rw [t1]
      refine lv_aload_n C.1 C.2.1 (kd kL_law_2 46 rfl) rfl (lv_at hl 0 rfl) ?_
      refine lv_iload_n C.1 C.2.1 (kd kL_law_2 47 rfl) rfl (lv_at hl 3 rfl) ?_
      refine lv_iconst (v := 2) C.1 C.2.1 (kd kL_law_2 48 rfl) (by decide) ?_
      refine lv_iadd C.1 C.2.1 (kd kL_law_2 49 rfl) ?_
      refine va_sld C.1 C.2.1 hX hbl hbA hS b2 (kd kL_law_2 50 rfl) ?_
      rw [t2]
      refine lv_aload_n C.1 C.2.1 (kd kL_law_2 51 rfl) rfl (lv_at hl 0 rfl) ?_
      refine lv_iload_n C.1 C.2.1 (kd kL_law_2 52 rfl) rfl (lv_at hl 3 rfl) ?_
      refine lv_iconst (v := 3) C.1 C.2.1 (kd kL_law_2 53 rfl) (by decide) ?_
      refine lv_iadd C.1 C.2.1 (kd kL_law_2 54 rfl) ?_
      refine va_sld C.1 C.2.1 hX hbl hbA hS b3 (kd kL_law_2 55 rfl) ?_
      rw [t3]
      refine la_V (k := 164) (As := [.int (xs (i + 1)), .int (xs (i + 2)), .int (xs (i + 3))]) (rest := [.int r]) (n := 3) C hP hS hAd rfl (Nat.le_of_ble_eq_true rfl) rfl (m_X8_addVehicle C.2.2.2.2.2.2.2.2 l e2) (fgV tw_1002 tw_1003 tw_1004 tw_75 tw_1005) hd_X8_addVehicle ⟨rfl, rfl, Nat.le_of_ble_eq_true rfl, Nat.le_of_ble_eq_true rfl⟩ rfl hl.1 rfl (Nat.le_of_ble_eq_true rfl) (kd kL_law_2 56 rfl) (Nat.le_of_ble_eq_true rfl) (Nat.le_of_ble_eq_true rfl) (fun H locs hP hS => ?_)
      refine lv_icmp_eq (tgt := 1388) C.1 C.2.1 (kd kL_law_2 57 rfl) (by decide) (fun _ => ?_) (fun z => absurd rfl z)
      refine lv_iinc (v := nI (i + 5)) (lv' := [(3, .int (nI (i + 5))), (0, .ref b), (1, .ref (Γ.1 0)), (2, .ref (Γ.1 164))]) C.1 C.2.1 (kd kL_law_16 2 rfl) hl (k := 3) rfl (law_inc i) (Nat.le_of_ble_eq_true rfl) rfl (fun ls hl => ?_)
      refine lv_goto (tgt := 18) C.1 C.2.1 (kd kL_law_16 3 rfl) (by decide) ?_
      exact ih (i + 5) hi5 (by omega) σ2 hLI H locs hP hS ls (lv_sub hl [1, 2, 3, 0] rfl)
    have z3 : ¬ o.toInt = 3 := fi_ne q3 (by decide)
    by_cases q4 : o = 4
    · refine lv_tableIn (tgt := 390) C.1 C.2.1 (kd kL_law_0 21 rfl) (by rw [q4] <;> decide) (by rw [q4] <;> decide) (by rw [q4] <;> rfl) (by decide) ?_
      obtain ⟨r, σ1, σ2, e1, e2, hLI⟩ := h4 σ (xs (i + 1)) (xs (i + 2)) (xs (i + 3)) (xs (i + 4)) hLI
      refine lv_aload_n C.1 C.2.1 (kd kL_law_3 0 rfl) rfl (lv_at hl 1 rfl) ?_
      refine lv_aload_n C.1 C.2.1 (kd kL_law_3 1 rfl) rfl (lv_at hl 0 rfl) ?_
      refine lv_iload_n C.1 C.2.1 (kd kL_law_3 2 rfl) rfl (lv_at hl 3 rfl) ?_
      refine lv_iconst (v := 1) C.1 C.2.1 (kd kL_law_3 3 rfl) (by decide) ?_
      refine lv_iadd C.1 C.2.1 (kd kL_law_3 4 rfl) ?_
      refine va_sld C.1 C.2.1 hX hbl hbA hS b1 (kd kL_law_3 5 rfl) ?_
      rw [t1]
      refine lv_aload_n C.1 C.2.1 (kd kL_law_3 6 rfl) rfl (lv_at hl 0 rfl) ?_
      refine lv_iload_n C.1 C.2.1 (kd kL_law_3 7 rfl) rfl (lv_at hl 3 rfl) ?_
      refine lv_iconst (v := 2) C.1 C.2.1 (kd kL_law_3 8 rfl) (by decide) ?_
      refine lv_iadd C.1 C.2.1 (kd kL_law_3 9 rfl) ?_
      refine va_sld C.1 C.2.1 hX hbl hbA hS b2 (kd kL_law_3 10 rfl) ?_
      rw [t2]
      refine lv_aload_n C.1 C.2.1 (kd kL_law_3 11 rfl) rfl (lv_at hl 0 rfl) ?_
      refine lv_iload_n C.1 C.2.1 (kd kL_law_3 12 rfl) rfl (lv_at hl 3 rfl) ?_
      refine lv_iconst (v := 3) C.1 C.2.1 (kd kL_law_3 13 rfl) (by decide) ?_
      refine lv_iadd C.1 C.2.1 (kd kL_law_3 14 rfl) ?_
      refine va_sld C.1 C.2.1 hX hbl hbA hS b3 (kd kL_law_3 15 rfl) ?_
      rw [t3]
      refine lv_aload_n C.1 C.2.1 (kd kL_law_3 16 rfl) rfl (lv_at hl 0 rfl) ?_
      refine lv_iload_n C.1 C.2.1 (kd kL_law_3 17 rfl) rfl (lv_at hl 3 rfl) ?_
      refine lv_iconst (v := 4) C.1 C.2.1 (kd kL_law_3 18 rfl) (by decide) ?_
      refine lv_iadd C.1 C.2.1 (kd kL_law_3 19 rfl) ?_
      refine va_sld C.1 C.2.1 hX hbl hbA hS b4 (kd kL_law_3 20 rfl) ?_
      rw [t4]
      refine la_V (k := 0) (As := [.int (xs (i + 1)), .int (xs (i + 2)), .int (xs (i + 3)), .int (xs (i + 4))]) (rest := []) (n := 4) C hP hS hAd rfl (Nat.le_of_ble_eq_true rfl) rfl (m_X7_addConnection C.2.2.2.2.2.2.2.2 l e1) (fgV tw_389 tw_390 tw_391 tw_67 tw_392) hd_X7_addConnection ⟨rfl, rfl, Nat.le_of_ble_eq_true rfl, Nat.le_of_ble_eq_true rfl⟩ rfl hl.1 rfl (Nat.le_of_ble_eq_true rfl) (kd kL_law_3 21 rfl) (Nat.le_of_ble_eq_true rfl) (Nat.le_of_ble_eq_true rfl) (fun H locs hP hS => ?_)
      refine lv_aload_n C.1 C.2.1 (kd kL_law_3 22 rfl) rfl (lv_at hl 2 rfl) ?_
      refine lv_aload_n C.1 C.2.1 (kd kL_law_3 23 rfl) rfl (lv_at hl 0 rfl) ?_
      refine lv_iload_n C.1 C.2.1 (kd kL_law_3 24 rfl) rfl (lv_at hl 3 rfl) ?_
      refine lv_iconst (v := 1) C.1 C.2.1 (kd kL_law_3 25 rfl) (by decide) ?_
      refine lv_iadd C.1 C.2.1 (kd kL_law_3 26 rfl) ?_
      refine va_sld C.1 C.2.1 hX hbl hbA hS b1 (kd kL_law_3 27 rfl) ?_
      rw [t1]
      refine lv_aload_n C.1 C.2.1 (kd kL_law_3 28 rfl) rfl (lv_at hl 0 rfl) ?_
      refine lv_iload_n C.1 C.2.1 (kd kL_law_3 29 rfl) rfl (lv_at hl 3 rfl) ?_
      refine lv_iconst (v := 2) C.1 C.2.1 (kd kL_law_3 30 rfl) (by decide) ?_
      refine lv_iadd C.1 C.2.1 (kd kL_law_3 31 rfl) ?_
      refine va_sld C.1 C.2.1 hX hbl hbA hS b2 (kd kL_law_3 32 rfl) ?_
      rw [t2]
      refine lv_aload_n C.1 C.2.1 (kd kL_law_3 33 rfl) rfl (lv_at hl 0 rfl) ?_
      refine lv_iload_n C.1 C.2.1 (kd kL_law_3 34 rfl) rfl (lv_at hl 3 rfl) ?_
      refine lv_iconst (v := 3) C.1 C.2.1 (kd kL_law_3 35 rfl) (by decide) ?_
      refine lv_iadd C.1 C.2.1 (kd kL_law_3 36 rfl) ?_
      refine va_sld C.1 C.2.1 hX hbl hbA hS b3 (kd kL_law_3 37 rfl) ?_
      rw [t3]
      refine lv_aload_n C.1 C.2.1 (kd kL_law_3 38 rfl) rfl (lv_at hl 0 rfl) ?_
      refine lv_iload_n C.1 C.2.1 (kd kL_law_3 39 rfl) rfl (lv_at hl 3 rfl) ?_
      refine lv_iconst (v := 4) C.1 C.2.1 (kd kL_law_3 40 rfl) (by decide) ?_
      refine lv_iadd C.1 C.2.1 (kd kL_law_3 41 rfl) ?_
      refine va_sld C.1 C.2.1 hX hbl hbA hS b4 (kd kL_law_3 42 rfl) ?_
      rw [t4]
      refine la_V (k := 164) (As := [.int (xs (i + 1)), .int (xs (i + 2)), .int (xs (i + 3)), .int (xs (i + 4))]) (rest := [.int r]) (n := 4) C hP hS hAd rfl (Nat.le_of_ble_eq_true rfl) rfl (m_X8_addConnection C.2.2.2.2.2.2.2.2 l e2) (fgV tw_1014 tw_1015 tw_1016 tw_75 tw_1017) hd_X8_addConnection ⟨rfl, rfl, Nat.le_of_ble_eq_true rfl, Nat.le_of_ble_eq_true rfl⟩ rfl hl.1 rfl (Nat.le_of_ble_eq_true rfl) (kd kL_law_3 43 rfl) (Nat.le_of_ble_eq_true rfl) (Nat.le_of_ble_eq_true rfl) (fun H locs hP hS => ?_)
      refine lv_icmp_eq (tgt := 1388) C.1 C.2.1 (kd kL_law_3 44 rfl) (by decide) (fun _ => ?_) (fun z => absurd rfl z)
      refine lv_iinc (v := nI (i + 5)) (lv' := [(3, .int (nI (i + 5))), (0, .ref b), (1, .ref (Γ.1 0)), (2, .ref (Γ.1 164))]) C.1 C.2.1 (kd kL_law_16 2 rfl) hl (k := 3) rfl (law_inc i) (Nat.le_of_ble_eq_true rfl) rfl (fun ls hl => ?_)
      refine lv_goto (tgt := 18) C.1 C.2.1 (kd kL_law_16 3 rfl) (by decide) ?_
      exact ih (i + 5) hi5 (by omega) σ2 hLI H locs hP hS ls (lv_sub hl [1, 2, 3, 0] rfl)
    have z4 : ¬ o.toInt = 4 := fi_ne q4 (by decide)
    by_cases q5 : o = 5
    · refine lv_tableIn (tgt := 443) C.1 C.2.1 (kd kL_law_0 21 rfl) (by rw [q5] <;> decide) (by rw [q5] <;> decide) (by rw [q5] <;> rfl) (by decide) ?_
      obtain ⟨r, σ1, σ2, e1, e2, hLI⟩ := h5 σ (xs (i + 1)) hLI
      refine lv_aload_n C.1 C.2.1 (kd kL_law_3 47 rfl) rfl (lv_at hl 1 rfl) ?_
      refine lv_aload_n C.1 C.2.1 (kd kL_law_3 48 rfl) rfl (lv_at hl 0 rfl) ?_
      refine lv_iload_n C.1 C.2.1 (kd kL_law_3 49 rfl) rfl (lv_at hl 3 rfl) ?_
      refine lv_iconst (v := 1) C.1 C.2.1 (kd kL_law_3 50 rfl) (by decide) ?_
      refine lv_iadd C.1 C.2.1 (kd kL_law_3 51 rfl) ?_
      refine va_sld C.1 C.2.1 hX hbl hbA hS b1 (kd kL_law_3 52 rfl) ?_
      rw [t1]
      refine la_V (k := 0) (As := [.int (xs (i + 1))]) (rest := []) (n := 1) C hP hS hAd rfl (Nat.le_of_ble_eq_true rfl) rfl (m_X7_removeCrossing C.2.2.2.2.2.2.2.2 l e1) (fgV tw_397 tw_398 tw_399 tw_67 tw_400) hd_X7_removeCrossing ⟨rfl, rfl, Nat.le_of_ble_eq_true rfl, Nat.le_of_ble_eq_true rfl⟩ rfl hl.1 rfl (Nat.le_of_ble_eq_true rfl) (kd kL_law_3 53 rfl) (Nat.le_of_ble_eq_true rfl) (Nat.le_of_ble_eq_true rfl) (fun H locs hP hS => ?_)
      refine lv_aload_n C.1 C.2.1 (kd kL_law_3 54 rfl) rfl (lv_at hl 2 rfl) ?_
      refine lv_aload_n C.1 C.2.1 (kd kL_law_3 55 rfl) rfl (lv_at hl 0 rfl) ?_
      refine lv_iload_n C.1 C.2.1 (kd kL_law_3 56 rfl) rfl (lv_at hl 3 rfl) ?_
      refine lv_iconst (v := 1) C.1 C.2.1 (kd kL_law_3 57 rfl) (by decide) ?_
      refine lv_iadd C.1 C.2.1 (kd kL_law_3 58 rfl) ?_
      refine va_sld C.1 C.2.1 hX hbl hbA hS b1 (kd kL_law_3 59 rfl) ?_
      rw [t1]
      refine la_V (k := 164) (As := [.int (xs (i + 1))]) (rest := [.int r]) (n := 1) C hP hS hAd rfl (Nat.le_of_ble_eq_true rfl) rfl (m_X8_removeCrossing C.2.2.2.2.2.2.2.2 l e2) (fgV tw_1022 tw_1023 tw_1024 tw_75 tw_1025) hd_X8_removeCrossing ⟨rfl, rfl, Nat.le_of_ble_eq_true rfl, Nat.le_of_ble_eq_true rfl⟩ rfl hl.1 rfl (Nat.le_of_ble_eq_true rfl) (kd kL_law_4 0 rfl) (Nat.le_of_ble_eq_true rfl) (Nat.le_of_ble_eq_true rfl) (fun H locs hP hS => ?_)
      refine lv_icmp_eq (tgt := 1388) C.1 C.2.1 (kd kL_law_4 1 rfl) (by decide) (fun _ => ?_) (fun z => absurd rfl z)
      refine lv_iinc (v := nI (i + 5)) (lv' := [(3, .int (nI (i + 5))), (0, .ref b), (1, .ref (Γ.1 0)), (2, .ref (Γ.1 164))]) C.1 C.2.1 (kd kL_law_16 2 rfl) hl (k := 3) rfl (law_inc i) (Nat.le_of_ble_eq_true rfl) rfl (fun ls hl => ?_)
      refine lv_goto (tgt := 18) C.1 C.2.1 (kd kL_law_16 3 rfl) (by decide) ?_
      exact ih (i + 5) hi5 (by omega) σ2 hLI H locs hP hS ls (lv_sub hl [1, 2, 3, 0] rfl)
    have z5 : ¬ o.toInt = 5 := fi_ne q5 (by decide)
    by_cases q6 : o = 6
    · refine lv_tableIn (tgt := 466) C.1 C.2.1 (kd kL_law_0 21 rfl) (by rw [q6] <;> decide) (by rw [q6] <;> decide) (by rw [q6] <;> rfl) (by decide) ?_
      obtain ⟨r, σ1, σ2, e1, e2, hLI⟩ := h6 σ (xs (i + 1)) (xs (i + 2)) (xs (i + 3)) hLI
      refine lv_aload_n C.1 C.2.1 (kd kL_law_4 4 rfl) rfl (lv_at hl 1 rfl) ?_
      refine lv_aload_n C.1 C.2.1 (kd kL_law_4 5 rfl) rfl (lv_at hl 0 rfl) ?_
      refine lv_iload_n C.1 C.2.1 (kd kL_law_4 6 rfl) rfl (lv_at hl 3 rfl) ?_
      refine lv_iconst (v := 1) C.1 C.2.1 (kd kL_law_4 7 rfl) (by decide) ?_
      refine lv_iadd C.1 C.2.1 (kd kL_law_4 8 rfl) ?_
      refine va_sld C.1 C.2.1 hX hbl hbA hS b1 (kd kL_law_4 9 rfl) ?_
      rw [t1]
      refine lv_aload_n C.1 C.2.1 (kd kL_law_4 10 rfl) rfl (lv_at hl 0 rfl) ?_
      refine lv_iload_n C.1 C.2.1 (kd kL_law_4 11 rfl) rfl (lv_at hl 3 rfl) ?_
      refine lv_iconst (v := 2) C.1 C.2.1 (kd kL_law_4 12 rfl) (by decide) ?_
      refine lv_iadd C.1 C.2.1 (kd kL_law_4 13 rfl) ?_
      refine va_sld C.1 C.2.1 hX hbl hbA hS b2 (kd kL_law_4 14 rfl) ?_
      rw [t2]
      refine lv_aload_n C.1 C.2.1 (kd kL_law_4 15 rfl) rfl (lv_at hl 0 rfl) ?_
      refine lv_iload_n C.1 C.2.1 (kd kL_law_4 16 rfl) rfl (lv_at hl 3 rfl) ?_
      refine lv_iconst (v := 3) C.1 C.2.1 (kd kL_law_4 17 rfl) (by decide) ?_
      refine lv_iadd C.1 C.2.1 (kd kL_law_4 18 rfl) ?_
      refine va_sld C.1 C.2.1 hX hbl hbA hS b3 (kd kL_law_4 19 rfl) ?_
      rw [t3]
      refine la_V (k := 0) (As := [.int (xs (i + 1)), .int (xs (i + 2)), .int (xs (i + 3))]) (rest := []) (n := 3) C hP hS hAd rfl (Nat.le_of_ble_eq_true rfl) rfl (m_X7_setBerth C.2.2.2.2.2.2.2.2 l e1) (fgV tw_422 tw_423 tw_424 tw_67 tw_425) hd_X7_setBerth ⟨rfl, rfl, Nat.le_of_ble_eq_true rfl, Nat.le_of_ble_eq_true rfl⟩ rfl hl.1 rfl (Nat.le_of_ble_eq_true rfl) (kd kL_law_4 20 rfl) (Nat.le_of_ble_eq_true rfl) (Nat.le_of_ble_eq_true rfl) (fun H locs hP hS => ?_)
      refine lv_aload_n C.1 C.2.1 (kd kL_law_4 21 rfl) rfl (lv_at hl 2 rfl) ?_
      refine lv_aload_n C.1 C.2.1 (kd kL_law_4 22 rfl) rfl (lv_at hl 0 rfl) ?_
      refine lv_iload_n C.1 C.2.1 (kd kL_law_4 23 rfl) rfl (lv_at hl 3 rfl) ?_
      refine lv_iconst (v := 1) C.1 C.2.1 (kd kL_law_4 24 rfl) (by decide) ?_
      refine lv_iadd C.1 C.2.1 (kd kL_law_4 25 rfl) ?_
      refine va_sld C.1 C.2.1 hX hbl hbA hS b1 (kd kL_law_4 26 rfl) ?_
      rw [t1]
      refine lv_aload_n C.1 C.2.1 (kd kL_law_4 27 rfl) rfl (lv_at hl 0 rfl) ?_
      refine lv_iload_n C.1 C.2.1 (kd kL_law_4 28 rfl) rfl (lv_at hl 3 rfl) ?_
      refine lv_iconst (v := 2) C.1 C.2.1 (kd kL_law_4 29 rfl) (by decide) ?_
      refine lv_iadd C.1 C.2.1 (kd kL_law_4 30 rfl) ?_
      refine va_sld C.1 C.2.1 hX hbl hbA hS b2 (kd kL_law_4 31 rfl) ?_
      rw [t2]
      refine lv_aload_n C.1 C.2.1 (kd kL_law_4 32 rfl) rfl (lv_at hl 0 rfl) ?_
      refine lv_iload_n C.1 C.2.1 (kd kL_law_4 33 rfl) rfl (lv_at hl 3 rfl) ?_
      refine lv_iconst (v := 3) C.1 C.2.1 (kd kL_law_4 34 rfl) (by decide) ?_
      refine lv_iadd C.1 C.2.1 (kd kL_law_4 35 rfl) ?_
      refine va_sld C.1 C.2.1 hX hbl hbA hS b3 (kd kL_law_4 36 rfl) ?_
      rw [t3]
      refine la_V (k := 164) (As := [.int (xs (i + 1)), .int (xs (i + 2)), .int (xs (i + 3))]) (rest := [.int r]) (n := 3) C hP hS hAd rfl (Nat.le_of_ble_eq_true rfl) rfl (m_X8_setBerth C.2.2.2.2.2.2.2.2 l e2) (fgV tw_1030 tw_1031 tw_1032 tw_75 tw_1033) hd_X8_setBerth ⟨rfl, rfl, Nat.le_of_ble_eq_true rfl, Nat.le_of_ble_eq_true rfl⟩ rfl hl.1 rfl (Nat.le_of_ble_eq_true rfl) (kd kL_law_4 37 rfl) (Nat.le_of_ble_eq_true rfl) (Nat.le_of_ble_eq_true rfl) (fun H locs hP hS => ?_)
      refine lv_icmp_eq (tgt := 1388) C.1 C.2.1 (kd kL_law_4 38 rfl) (by decide) (fun _ => ?_) (fun z => absurd rfl z)
      refine lv_iinc (v := nI (i + 5)) (lv' := [(3, .int (nI (i + 5))), (0, .ref b), (1, .ref (Γ.1 0)), (2, .ref (Γ.1 164))]) C.1 C.2.1 (kd kL_law_16 2 rfl) hl (k := 3) rfl (law_inc i) (Nat.le_of_ble_eq_true rfl) rfl (fun ls hl => ?_)
      refine lv_goto (tgt := 18) C.1 C.2.1 (kd kL_law_16 3 rfl) (by decide) ?_
      exact ih (i + 5) hi5 (by omega) σ2 hLI H locs hP hS ls (lv_sub hl [1, 2, 3, 0] rfl)
    have z6 : ¬ o.toInt = 6 := fi_ne q6 (by decide)
    by_cases q7 : o = 7
    · refine lv_tableIn (tgt := 509) C.1 C.2.1 (kd kL_law_0 21 rfl) (by rw [q7] <;> decide) (by rw [q7] <;> decide) (by rw [q7] <;> rfl) (by decide) ?_
      obtain ⟨r, σ1, σ2, e1, e2, hLI⟩ := h7 σ (xs (i + 1)) (xs (i + 2)) hLI
      refine lv_aload_n C.1 C.2.1 (kd kL_law_4 41 rfl) rfl (lv_at hl 1 rfl) ?_
      refine lv_aload_n C.1 C.2.1 (kd kL_law_4 42 rfl) rfl (lv_at hl 0 rfl) ?_
      refine lv_iload_n C.1 C.2.1 (kd kL_law_4 43 rfl) rfl (lv_at hl 3 rfl) ?_
      refine lv_iconst (v := 1) C.1 C.2.1 (kd kL_law_4 44 rfl) (by decide) ?_
      refine lv_iadd C.1 C.2.1 (kd kL_law_4 45 rfl) ?_
      refine va_sld C.1 C.2.1 hX hbl hbA hS b1 (kd kL_law_4 46 rfl) ?_
      rw [t1]
      refine lv_aload_n C.1 C.2.1 (kd kL_law_4 47 rfl) rfl (lv_at hl 0 rfl) ?_
      refine lv_iload_n C.1 C.2.1 (kd kL_law_4 48 rfl) rfl (lv_at hl 3 rfl) ?_
      refine lv_iconst (v := 2) C.1 C.2.1 (kd kL_law_4 49 rfl) (by decide) ?_
      refine lv_iadd C.1 C.2.1 (kd kL_law_4 50 rfl) ?_
      refine va_sld C.1 C.2.1 hX hbl hbA hS b2 (kd kL_law_4 51 rfl) ?_
      rw [t2]
      refine la_V (k := 0) (As := [.int (xs (i + 1)), .int (xs (i + 2))]) (rest := []) (n := 2) C hP hS hAd rfl (Nat.le_of_ble_eq_true rfl) rfl (m_X7_setTide C.2.2.2.2.2.2.2.2 l e1) (fgV tw_430 tw_431 tw_432 tw_67 tw_433) hd_X7_setTide ⟨rfl, rfl, Nat.le_of_ble_eq_true rfl, Nat.le_of_ble_eq_true rfl⟩ rfl hl.1 rfl (Nat.le_of_ble_eq_true rfl) (kd kL_law_4 52 rfl) (Nat.le_of_ble_eq_true rfl) (Nat.le_of_ble_eq_true rfl) (fun H locs hP hS => ?_)
      refine lv_aload_n C.1 C.2.1 (kd kL_law_4 53 rfl) rfl (lv_at hl 2 rfl) ?_
      refine lv_aload_n C.1 C.2.1 (kd kL_law_4 54 rfl) rfl (lv_at hl 0 rfl) ?_
      refine lv_iload_n C.1 C.2.1 (kd kL_law_4 55 rfl) rfl (lv_at hl 3 rfl) ?_
      refine lv_iconst (v := 1) C.1 C.2.1 (kd kL_law_4 56 rfl) (by decide) ?_
      refine lv_iadd C.1 C.2.1 (kd kL_law_4 57 rfl) ?_
      refine va_sld C.1 C.2.1 hX hbl hbA hS b1 (kd kL_law_4 58 rfl) ?_
      rw [t1]
      refine lv_aload_n C.1 C.2.1 (kd kL_law_4 59 rfl) rfl (lv_at hl 0 rfl) ?_
      refine lv_iload_n C.1 C.2.1 (kd kL_law_5 0 rfl) rfl (lv_at hl 3 rfl) ?_
      refine lv_iconst (v := 2) C.1 C.2.1 (kd kL_law_5 1 rfl) (by decide) ?_
      refine lv_iadd C.1 C.2.1 (kd kL_law_5 2 rfl) ?_
      refine va_sld C.1 C.2.1 hX hbl hbA hS b2 (kd kL_law_5 3 rfl) ?_
      rw [t2]
      refine la_V (k := 164) (As := [.int (xs (i + 1)), .int (xs (i + 2))]) (rest := [.int r]) (n := 2) C hP hS hAd rfl (Nat.le_of_ble_eq_true rfl) rfl (m_X8_setTide C.2.2.2.2.2.2.2.2 l e2) (fgV tw_1038 tw_1039 tw_1040 tw_75 tw_1041) hd_X8_setTide ⟨rfl, rfl, Nat.le_of_ble_eq_true rfl, Nat.le_of_ble_eq_true rfl⟩ rfl hl.1 rfl (Nat.le_of_ble_eq_true rfl) (kd kL_law_5 4 rfl) (Nat.le_of_ble_eq_true rfl) (Nat.le_of_ble_eq_true rfl) (fun H locs hP hS => ?_)
      refine lv_icmp_eq (tgt := 1388) C.1 C.2.1 (kd kL_law_5 5 rfl) (by decide) (fun _ => ?_) (fun z => absurd rfl z)
      refine lv_iinc (v := nI (i + 5)) (lv' := [(3, .int (nI (i + 5))), (0, .ref b), (1, .ref (Γ.1 0)), (2, .ref (Γ.1 164))]) C.1 C.2.1 (kd kL_law_16 2 rfl) hl (k := 3) rfl (law_inc i) (Nat.le_of_ble_eq_true rfl) rfl (fun ls hl => ?_)
      refine lv_goto (tgt := 18) C.1 C.2.1 (kd kL_law_16 3 rfl) (by decide) ?_
      exact ih (i + 5) hi5 (by omega) σ2 hLI H locs hP hS ls (lv_sub hl [1, 2, 3, 0] rfl)
    have z7 : ¬ o.toInt = 7 := fi_ne q7 (by decide)
    by_cases q8 : o = 8
    · refine lv_tableIn (tgt := 542) C.1 C.2.1 (kd kL_law_0 21 rfl) (by rw [q8] <;> decide) (by rw [q8] <;> decide) (by rw [q8] <;> rfl) (by decide) ?_
      obtain ⟨r, σ1, σ2, e1, e2, hLI⟩ := h8 σ (xs (i + 1)) (xs (i + 2)) hLI
      refine lv_aload_n C.1 C.2.1 (kd kL_law_5 8 rfl) rfl (lv_at hl 1 rfl) ?_
      refine lv_aload_n C.1 C.2.1 (kd kL_law_5 9 rfl) rfl (lv_at hl 0 rfl) ?_
      refine lv_iload_n C.1 C.2.1 (kd kL_law_5 10 rfl) rfl (lv_at hl 3 rfl) ?_
      refine lv_iconst (v := 1) C.1 C.2.1 (kd kL_law_5 11 rfl) (by decide) ?_
      refine lv_iadd C.1 C.2.1 (kd kL_law_5 12 rfl) ?_
      refine va_sld C.1 C.2.1 hX hbl hbA hS b1 (kd kL_law_5 13 rfl) ?_
      rw [t1]
      refine lv_aload_n C.1 C.2.1 (kd kL_law_5 14 rfl) rfl (lv_at hl 0 rfl) ?_
      refine lv_iload_n C.1 C.2.1 (kd kL_law_5 15 rfl) rfl (lv_at hl 3 rfl) ?_
      refine lv_iconst (v := 2) C.1 C.2.1 (kd kL_law_5 16 rfl) (by decide) ?_
      refine lv_iadd C.1 C.2.1 (kd kL_law_5 17 rfl) ?_
      refine va_sld C.1 C.2.1 hX hbl hbA hS b2 (kd kL_law_5 18 rfl) ?_
      rw [t2]
      refine la_V (k := 0) (As := [.int (xs (i + 1)), .int (xs (i + 2))]) (rest := []) (n := 2) C hP hS hAd rfl (Nat.le_of_ble_eq_true rfl) rfl (m_X7_setWind C.2.2.2.2.2.2.2.2 l e1) (fgV tw_438 tw_439 tw_440 tw_67 tw_441) hd_X7_setWind ⟨rfl, rfl, Nat.le_of_ble_eq_true rfl, Nat.le_of_ble_eq_true rfl⟩ rfl hl.1 rfl (Nat.le_of_ble_eq_true rfl) (kd kL_law_5 19 rfl) (Nat.le_of_ble_eq_true rfl) (Nat.le_of_ble_eq_true rfl) (fun H locs hP hS => ?_)
      refine lv_aload_n C.1 C.2.1 (kd kL_law_5 20 rfl) rfl (lv_at hl 2 rfl) ?_
      refine lv_aload_n C.1 C.2.1 (kd kL_law_5 21 rfl) rfl (lv_at hl 0 rfl) ?_
      refine lv_iload_n C.1 C.2.1 (kd kL_law_5 22 rfl) rfl (lv_at hl 3 rfl) ?_
      refine lv_iconst (v := 1) C.1 C.2.1 (kd kL_law_5 23 rfl) (by decide) ?_
      refine lv_iadd C.1 C.2.1 (kd kL_law_5 24 rfl) ?_
      refine va_sld C.1 C.2.1 hX hbl hbA hS b1 (kd kL_law_5 25 rfl) ?_
      rw [t1]
      refine lv_aload_n C.1 C.2.1 (kd kL_law_5 26 rfl) rfl (lv_at hl 0 rfl) ?_
      refine lv_iload_n C.1 C.2.1 (kd kL_law_5 27 rfl) rfl (lv_at hl 3 rfl) ?_
      refine lv_iconst (v := 2) C.1 C.2.1 (kd kL_law_5 28 rfl) (by decide) ?_
      refine lv_iadd C.1 C.2.1 (kd kL_law_5 29 rfl) ?_
      refine va_sld C.1 C.2.1 hX hbl hbA hS b2 (kd kL_law_5 30 rfl) ?_
      rw [t2]
      refine la_V (k := 164) (As := [.int (xs (i + 1)), .int (xs (i + 2))]) (rest := [.int r]) (n := 2) C hP hS hAd rfl (Nat.le_of_ble_eq_true rfl) rfl (m_X8_setWind C.2.2.2.2.2.2.2.2 l e2) (fgV tw_1046 tw_1047 tw_1048 tw_75 tw_1049) hd_X8_setWind ⟨rfl, rfl, Nat.le_of_ble_eq_true rfl, Nat.le_of_ble_eq_true rfl⟩ rfl hl.1 rfl (Nat.le_of_ble_eq_true rfl) (kd kL_law_5 31 rfl) (Nat.le_of_ble_eq_true rfl) (Nat.le_of_ble_eq_true rfl) (fun H locs hP hS => ?_)
      refine lv_icmp_eq (tgt := 1388) C.1 C.2.1 (kd kL_law_5 32 rfl) (by decide) (fun _ => ?_) (fun z => absurd rfl z)
      refine lv_iinc (v := nI (i + 5)) (lv' := [(3, .int (nI (i + 5))), (0, .ref b), (1, .ref (Γ.1 0)), (2, .ref (Γ.1 164))]) C.1 C.2.1 (kd kL_law_16 2 rfl) hl (k := 3) rfl (law_inc i) (Nat.le_of_ble_eq_true rfl) rfl (fun ls hl => ?_)
      refine lv_goto (tgt := 18) C.1 C.2.1 (kd kL_law_16 3 rfl) (by decide) ?_
      exact ih (i + 5) hi5 (by omega) σ2 hLI H locs hP hS ls (lv_sub hl [1, 2, 3, 0] rfl)
    have z8 : ¬ o.toInt = 8 := fi_ne q8 (by decide)
    by_cases q9 : o = 9
    · refine lv_tableIn (tgt := 575) C.1 C.2.1 (kd kL_law_0 21 rfl) (by rw [q9] <;> decide) (by rw [q9] <;> decide) (by rw [q9] <;> rfl) (by decide) ?_
      obtain ⟨r, σ1, σ2, e1, e2, hLI⟩ := h9 σ (xs (i + 1)) hLI
      refine lv_aload_n C.1 C.2.1 (kd kL_law_5 35 rfl) rfl (lv_at hl 1 rfl) ?_
      refine lv_aload_n C.1 C.2.1 (kd kL_law_5 36 rfl) rfl (lv_at hl 0 rfl) ?_
      refine lv_iload_n C.1 C.2.1 (kd kL_law_5 37 rfl) rfl (lv_at hl 3 rfl) ?_
      refine lv_iconst (v := 1) C.1 C.2.1 (kd kL_law_5 38 rfl) (by decide) ?_
      refine lv_iadd C.1 C.2.1 (kd kL_law_5 39 rfl) ?_
      refine va_sld C.1 C.2.1 hX hbl hbA hS b1 (kd kL_law_5 40 rfl) ?_
      rw [t1]
      refine la_V (k := 0) (As := [.int (xs (i + 1))]) (rest := []) (n := 1) C hP hS hAd rfl (Nat.le_of_ble_eq_true rfl) rfl (m_X7_setMargin C.2.2.2.2.2.2.2.2 l e1) (fgV tw_446 tw_447 tw_448 tw_67 tw_449) hd_X7_setMargin ⟨rfl, rfl, Nat.le_of_ble_eq_true rfl, Nat.le_of_ble_eq_true rfl⟩ rfl hl.1 rfl (Nat.le_of_ble_eq_true rfl) (kd kL_law_5 41 rfl) (Nat.le_of_ble_eq_true rfl) (Nat.le_of_ble_eq_true rfl) (fun H locs hP hS => ?_)
      refine lv_aload_n C.1 C.2.1 (kd kL_law_5 42 rfl) rfl (lv_at hl 2 rfl) ?_
      refine lv_aload_n C.1 C.2.1 (kd kL_law_5 43 rfl) rfl (lv_at hl 0 rfl) ?_
      refine lv_iload_n C.1 C.2.1 (kd kL_law_5 44 rfl) rfl (lv_at hl 3 rfl) ?_
      refine lv_iconst (v := 1) C.1 C.2.1 (kd kL_law_5 45 rfl) (by decide) ?_
      refine lv_iadd C.1 C.2.1 (kd kL_law_5 46 rfl) ?_
      refine va_sld C.1 C.2.1 hX hbl hbA hS b1 (kd kL_law_5 47 rfl) ?_
      rw [t1]
      refine la_V (k := 164) (As := [.int (xs (i + 1))]) (rest := [.int r]) (n := 1) C hP hS hAd rfl (Nat.le_of_ble_eq_true rfl) rfl (m_X8_setMargin C.2.2.2.2.2.2.2.2 l e2) (fgV tw_1054 tw_1055 tw_1056 tw_75 tw_1057) hd_X8_setMargin ⟨rfl, rfl, Nat.le_of_ble_eq_true rfl, Nat.le_of_ble_eq_true rfl⟩ rfl hl.1 rfl (Nat.le_of_ble_eq_true rfl) (kd kL_law_5 48 rfl) (Nat.le_of_ble_eq_true rfl) (Nat.le_of_ble_eq_true rfl) (fun H locs hP hS => ?_)
      refine lv_icmp_eq (tgt := 1388) C.1 C.2.1 (kd kL_law_5 49 rfl) (by decide) (fun _ => ?_) (fun z => absurd rfl z)
      refine lv_iinc (v := nI (i + 5)) (lv' := [(3, .int (nI (i + 5))), (0, .ref b), (1, .ref (Γ.1 0)), (2, .ref (Γ.1 164))]) C.1 C.2.1 (kd kL_law_16 2 rfl) hl (k := 3) rfl (law_inc i) (Nat.le_of_ble_eq_true rfl) rfl (fun ls hl => ?_)
      refine lv_goto (tgt := 18) C.1 C.2.1 (kd kL_law_16 3 rfl) (by decide) ?_
      exact ih (i + 5) hi5 (by omega) σ2 hLI H locs hP hS ls (lv_sub hl [1, 2, 3, 0] rfl)
    have z9 : ¬ o.toInt = 9 := fi_ne q9 (by decide)
    by_cases q10 : o = 10
    · refine lv_tableIn (tgt := 598) C.1 C.2.1 (kd kL_law_0 21 rfl) (by rw [q10] <;> decide) (by rw [q10] <;> decide) (by rw [q10] <;> rfl) (by decide) ?_
      obtain ⟨r, σ1, σ2, e1, e2, hLI⟩ := h10 σ (xs (i + 1)) hLI
      refine lv_aload_n C.1 C.2.1 (kd kL_law_5 52 rfl) rfl (lv_at hl 1 rfl) ?_
      refine lv_aload_n C.1 C.2.1 (kd kL_law_5 53 rfl) rfl (lv_at hl 0 rfl) ?_
      refine lv_iload_n C.1 C.2.1 (kd kL_law_5 54 rfl) rfl (lv_at hl 3 rfl) ?_
      refine lv_iconst (v := 1) C.1 C.2.1 (kd kL_law_5 55 rfl) (by decide) ?_
      refine lv_iadd C.1 C.2.1 (kd kL_law_5 56 rfl) ?_
      refine va_sld C.1 C.2.1 hX hbl hbA hS b1 (kd kL_law_5 57 rfl) ?_
      rw [t1]
      refine la_V (k := 0) (As := [.int (xs (i + 1))]) (rest := []) (n := 1) C hP hS hAd rfl (Nat.le_of_ble_eq_true rfl) rfl (m_X7_append C.2.2.2.2.2.2.2.2 l e1) (fgV tw_454 tw_455 tw_456 tw_67 tw_457) hd_X7_append ⟨rfl, rfl, Nat.le_of_ble_eq_true rfl, Nat.le_of_ble_eq_true rfl⟩ rfl hl.1 rfl (Nat.le_of_ble_eq_true rfl) (kd kL_law_5 58 rfl) (Nat.le_of_ble_eq_true rfl) (Nat.le_of_ble_eq_true rfl) (fun H locs hP hS => ?_)
      refine lv_aload_n C.1 C.2.1 (kd kL_law_5 59 rfl) rfl (lv_at hl 2 rfl) ?_
      refine lv_aload_n C.1 C.2.1 (kd kL_law_6 0 rfl) rfl (lv_at hl 0 rfl) ?_
      refine lv_iload_n C.1 C.2.1 (kd kL_law_6 1 rfl) rfl (lv_at hl 3 rfl) ?_
      refine lv_iconst (v := 1) C.1 C.2.1 (kd kL_law_6 2 rfl) (by decide) ?_
      refine lv_iadd C.1 C.2.1 (kd kL_law_6 3 rfl) ?_
      refine va_sld C.1 C.2.1 hX hbl hbA hS b1 (kd kL_law_6 4 rfl) ?_
      rw [t1]
      refine la_V (k := 164) (As := [.int (xs (i + 1))]) (rest := [.int r]) (n := 1) C hP hS hAd rfl (Nat.le_of_ble_eq_true rfl) rfl (m_X8_append C.2.2.2.2.2.2.2.2 l e2) (fgV tw_1058 tw_1059 tw_1060 tw_75 tw_1061) hd_X8_append ⟨rfl, rfl, Nat.le_of_ble_eq_true rfl, Nat.le_of_ble_eq_true rfl⟩ rfl hl.1 rfl (Nat.le_of_ble_eq_true rfl) (kd kL_law_6 5 rfl) (Nat.le_of_ble_eq_true rfl) (Nat.le_of_ble_eq_true rfl) (fun H locs hP hS => ?_)
      refine lv_icmp_eq (tgt := 1388) C.1 C.2.1 (kd kL_law_6 6 rfl) (by decide) (fun _ => ?_) (fun z => absurd rfl z)
      refine lv_iinc (v := nI (i + 5)) (lv' := [(3, .int (nI (i + 5))), (0, .ref b), (1, .ref (Γ.1 0)), (2, .ref (Γ.1 164))]) C.1 C.2.1 (kd kL_law_16 2 rfl) hl (k := 3) rfl (law_inc i) (Nat.le_of_ble_eq_true rfl) rfl (fun ls hl => ?_)
      refine lv_goto (tgt := 18) C.1 C.2.1 (kd kL_law_16 3 rfl) (by decide) ?_
      exact ih (i + 5) hi5 (by omega) σ2 hLI H locs hP hS ls (lv_sub hl [1, 2, 3, 0] rfl)
    have z10 : ¬ o.toInt = 10 := fi_ne q10 (by decide)
    by_cases q11 : o = 11
    · refine lv_tableIn (tgt := 621) C.1 C.2.1 (kd kL_law_0 21 rfl) (by rw [q11] <;> decide) (by rw [q11] <;> decide) (by rw [q11] <;> rfl) (by decide) ?_
      obtain ⟨r, σ1, σ2, e1, e2, hLI⟩ := h11 σ  hLI
      refine lv_aload_n C.1 C.2.1 (kd kL_law_6 9 rfl) rfl (lv_at hl 1 rfl) ?_
      refine la_V (k := 0) (As := []) (rest := []) (n := 0) C hP hS hAd rfl (Nat.le_of_ble_eq_true rfl) rfl (m_X7_read C.2.2.2.2.2.2.2.2 l e1) (fgV tw_463 tw_464 tw_465 tw_67 tw_466) hd_X7_read ⟨rfl, rfl, Nat.le_of_ble_eq_true rfl, Nat.le_of_ble_eq_true rfl⟩ rfl hl.1 rfl (Nat.le_of_ble_eq_true rfl) (kd kL_law_6 10 rfl) (Nat.le_of_ble_eq_true rfl) (Nat.le_of_ble_eq_true rfl) (fun H locs hP hS => ?_)
      refine lv_aload_n C.1 C.2.1 (kd kL_law_6 11 rfl) rfl (lv_at hl 2 rfl) ?_
      refine la_V (k := 164) (As := []) (rest := [.int r]) (n := 0) C hP hS hAd rfl (Nat.le_of_ble_eq_true rfl) rfl (m_X8_read C.2.2.2.2.2.2.2.2 l e2) (fgV tw_1062 tw_1063 tw_1064 tw_75 tw_1065) hd_X8_read ⟨rfl, rfl, Nat.le_of_ble_eq_true rfl, Nat.le_of_ble_eq_true rfl⟩ rfl hl.1 rfl (Nat.le_of_ble_eq_true rfl) (kd kL_law_6 12 rfl) (Nat.le_of_ble_eq_true rfl) (Nat.le_of_ble_eq_true rfl) (fun H locs hP hS => ?_)
      refine lv_icmp_eq (tgt := 1388) C.1 C.2.1 (kd kL_law_6 13 rfl) (by decide) (fun _ => ?_) (fun z => absurd rfl z)
      refine lv_iinc (v := nI (i + 5)) (lv' := [(3, .int (nI (i + 5))), (0, .ref b), (1, .ref (Γ.1 0)), (2, .ref (Γ.1 164))]) C.1 C.2.1 (kd kL_law_16 2 rfl) hl (k := 3) rfl (law_inc i) (Nat.le_of_ble_eq_true rfl) rfl (fun ls hl => ?_)
      refine lv_goto (tgt := 18) C.1 C.2.1 (kd kL_law_16 3 rfl) (by decide) ?_
      exact ih (i + 5) hi5 (by omega) σ2 hLI H locs hP hS ls (lv_sub hl [1, 2, 3, 0] rfl)
    have z11 : ¬ o.toInt = 11 := fi_ne q11 (by decide)
    by_cases q12 : o = 12
    · refine lv_tableIn (tgt := 634) C.1 C.2.1 (kd kL_law_0 21 rfl) (by rw [q12] <;> decide) (by rw [q12] <;> decide) (by rw [q12] <;> rfl) (by decide) ?_
      obtain ⟨r, σ1, σ2, e1, e2, hLI⟩ := h12 σ  hLI
      refine lv_aload_n C.1 C.2.1 (kd kL_law_6 16 rfl) rfl (lv_at hl 1 rfl) ?_
      refine la_V (k := 0) (As := []) (rest := []) (n := 0) C hP hS hAd rfl (Nat.le_of_ble_eq_true rfl) rfl (m_X7_faultPosition C.2.2.2.2.2.2.2.2 l e1) (fgV tw_511 tw_512 tw_513 tw_67 tw_514) hd_X7_faultPosition ⟨rfl, rfl, Nat.le_of_ble_eq_true rfl, Nat.le_of_ble_eq_true rfl⟩ rfl hl.1 rfl (Nat.le_of_ble_eq_true rfl) (kd kL_law_6 17 rfl) (Nat.le_of_ble_eq_true rfl) (Nat.le_of_ble_eq_true rfl) (fun H locs hP hS => ?_)
      refine lv_aload_n C.1 C.2.1 (kd kL_law_6 18 rfl) rfl (lv_at hl 2 rfl) ?_
      refine la_V (k := 164) (As := []) (rest := [.int r]) (n := 0) C hP hS hAd rfl (Nat.le_of_ble_eq_true rfl) rfl (m_X8_faultPosition C.2.2.2.2.2.2.2.2 l e2) (fgV tw_1086 tw_1087 tw_1088 tw_75 tw_1089) hd_X8_faultPosition ⟨rfl, rfl, Nat.le_of_ble_eq_true rfl, Nat.le_of_ble_eq_true rfl⟩ rfl hl.1 rfl (Nat.le_of_ble_eq_true rfl) (kd kL_law_6 19 rfl) (Nat.le_of_ble_eq_true rfl) (Nat.le_of_ble_eq_true rfl) (fun H locs hP hS => ?_)
      refine lv_icmp_eq (tgt := 1388) C.1 C.2.1 (kd kL_law_6 20 rfl) (by decide) (fun _ => ?_) (fun z => absurd rfl z)
      refine lv_iinc (v := nI (i + 5)) (lv' := [(3, .int (nI (i + 5))), (0, .ref b), (1, .ref (Γ.1 0)), (2, .ref (Γ.1 164))]) C.1 C.2.1 (kd kL_law_16 2 rfl) hl (k := 3) rfl (law_inc i) (Nat.le_of_ble_eq_true rfl) rfl (fun ls hl => ?_)
      refine lv_goto (tgt := 18) C.1 C.2.1 (kd kL_law_16 3 rfl) (by decide) ?_
      exact ih (i + 5) hi5 (by omega) σ2 hLI H locs hP hS ls (lv_sub hl [1, 2, 3, 0] rfl)
    have z12 : ¬ o.toInt = 12 := fi_ne q12 (by decide)
    by_cases q13 : o = 13
    · refine lv_tableIn (tgt := 647) C.1 C.2.1 (kd kL_law_0 21 rfl) (by rw [q13] <;> decide) (by rw [q13] <;> decide) (by rw [q13] <;> rfl) (by decide) ?_
      obtain ⟨r, σ1, σ2, e1, e2, hLI⟩ := h13 σ  hLI
      refine lv_aload_n C.1 C.2.1 (kd kL_law_6 23 rfl) rfl (lv_at hl 1 rfl) ?_
      refine la_V (k := 0) (As := []) (rest := []) (n := 0) C hP hS hAd rfl (Nat.le_of_ble_eq_true rfl) rfl (m_X7_undo C.2.2.2.2.2.2.2.2 l e1) (fgV tw_515 tw_516 tw_517 tw_67 tw_518) hd_X7_undo ⟨rfl, rfl, Nat.le_of_ble_eq_true rfl, Nat.le_of_ble_eq_true rfl⟩ rfl hl.1 rfl (Nat.le_of_ble_eq_true rfl) (kd kL_law_6 24 rfl) (Nat.le_of_ble_eq_true rfl) (Nat.le_of_ble_eq_true rfl) (fun H locs hP hS => ?_)
      refine lv_aload_n C.1 C.2.1 (kd kL_law_6 25 rfl) rfl (lv_at hl 2 rfl) ?_
      refine la_V (k := 164) (As := []) (rest := [.int r]) (n := 0) C hP hS hAd rfl (Nat.le_of_ble_eq_true rfl) rfl (m_X8_undo C.2.2.2.2.2.2.2.2 l e2) (fgV tw_1090 tw_1091 tw_1092 tw_75 tw_1093) hd_X8_undo ⟨rfl, rfl, Nat.le_of_ble_eq_true rfl, Nat.le_of_ble_eq_true rfl⟩ rfl hl.1 rfl (Nat.le_of_ble_eq_true rfl) (kd kL_law_6 26 rfl) (Nat.le_of_ble_eq_true rfl) (Nat.le_of_ble_eq_true rfl) (fun H locs hP hS => ?_)
      refine lv_icmp_eq (tgt := 1388) C.1 C.2.1 (kd kL_law_6 27 rfl) (by decide) (fun _ => ?_) (fun z => absurd rfl z)
      refine lv_iinc (v := nI (i + 5)) (lv' := [(3, .int (nI (i + 5))), (0, .ref b), (1, .ref (Γ.1 0)), (2, .ref (Γ.1 164))]) C.1 C.2.1 (kd kL_law_16 2 rfl) hl (k := 3) rfl (law_inc i) (Nat.le_of_ble_eq_true rfl) rfl (fun ls hl => ?_)
      refine lv_goto (tgt := 18) C.1 C.2.1 (kd kL_law_16 3 rfl) (by decide) ?_
      exact ih (i + 5) hi5 (by omega) σ2 hLI H locs hP hS ls (lv_sub hl [1, 2, 3, 0] rfl)
    have z13 : ¬ o.toInt = 13 := fi_ne q13 (by decide)
    by_cases q14 : o = 14
    · refine lv_tableIn (tgt := 660) C.1 C.2.1 (kd kL_law_0 21 rfl) (by rw [q14] <;> decide) (by rw [q14] <;> decide) (by rw [q14] <;> rfl) (by decide) ?_
      obtain ⟨r, σ1, σ2, e1, e2, hLI⟩ := h14 σ (xs (i + 1)) hLI
      refine lv_aload_n C.1 C.2.1 (kd kL_law_6 30 rfl) rfl (lv_at hl 1 rfl) ?_
      refine lv_aload_n C.1 C.2.1 (kd kL_law_6 31 rfl) rfl (lv_at hl 0 rfl) ?_
      refine lv_iload_n C.1 C.2.1 (kd kL_law_6 32 rfl) rfl (lv_at hl 3 rfl) ?_
      refine lv_iconst (v := 1) C.1 C.2.1 (kd kL_law_6 33 rfl) (by decide) ?_
      refine lv_iadd C.1 C.2.1 (kd kL_law_6 34 rfl) ?_
      refine va_sld C.1 C.2.1 hX hbl hbA hS b1 (kd kL_law_6 35 rfl) ?_
      rw [t1]
      refine la_V (k := 0) (As := [.int (xs (i + 1))]) (rest := []) (n := 1) C hP hS hAd rfl (Nat.le_of_ble_eq_true rfl) rfl (m_X7_count C.2.2.2.2.2.2.2.2 l e1) (fgV tw_523 tw_524 tw_525 tw_67 tw_526) hd_X7_count ⟨rfl, rfl, Nat.le_of_ble_eq_true rfl, Nat.le_of_ble_eq_true rfl⟩ rfl hl.1 rfl (Nat.le_of_ble_eq_true rfl) (kd kL_law_6 36 rfl) (Nat.le_of_ble_eq_true rfl) (Nat.le_of_ble_eq_true rfl) (fun H locs hP hS => ?_)
      refine lv_aload_n C.1 C.2.1 (kd kL_law_6 37 rfl) rfl (lv_at hl 2 rfl) ?_
      refine lv_aload_n C.1 C.2.1 (kd kL_law_6 38 rfl) rfl (lv_at hl 0 rfl) ?_
      refine lv_iload_n C.1 C.2.1 (kd kL_law_6 39 rfl) rfl (lv_at hl 3 rfl) ?_
      refine lv_iconst (v := 1) C.1 C.2.1 (kd kL_law_6 40 rfl) (by decide) ?_
      refine lv_iadd C.1 C.2.1 (kd kL_law_6 41 rfl) ?_
      refine va_sld C.1 C.2.1 hX hbl hbA hS b1 (kd kL_law_6 42 rfl) ?_
      rw [t1]
      refine la_V (k := 164) (As := [.int (xs (i + 1))]) (rest := [.int r]) (n := 1) C hP hS hAd rfl (Nat.le_of_ble_eq_true rfl) rfl (m_X8_count C.2.2.2.2.2.2.2.2 l e2) (fgV tw_1094 tw_1095 tw_1096 tw_75 tw_1097) hd_X8_count ⟨rfl, rfl, Nat.le_of_ble_eq_true rfl, Nat.le_of_ble_eq_true rfl⟩ rfl hl.1 rfl (Nat.le_of_ble_eq_true rfl) (kd kL_law_6 43 rfl) (Nat.le_of_ble_eq_true rfl) (Nat.le_of_ble_eq_true rfl) (fun H locs hP hS => ?_)
      refine lv_icmp_eq (tgt := 1388) C.1 C.2.1 (kd kL_law_6 44 rfl) (by decide) (fun _ => ?_) (fun z => absurd rfl z)
      refine lv_iinc (v := nI (i + 5)) (lv' := [(3, .int (nI (i + 5))), (0, .ref b), (1, .ref (Γ.1 0)), (2, .ref (Γ.1 164))]) C.1 C.2.1 (kd kL_law_16 2 rfl) hl (k := 3) rfl (law_inc i) (Nat.le_of_ble_eq_true rfl) rfl (fun ls hl => ?_)
      refine lv_goto (tgt := 18) C.1 C.2.1 (kd kL_law_16 3 rfl) (by decide) ?_
      exact ih (i + 5) hi5 (by omega) σ2 hLI H locs hP hS ls (lv_sub hl [1, 2, 3, 0] rfl)
    have z14 : ¬ o.toInt = 14 := fi_ne q14 (by decide)
    by_cases q15 : o = 15
    · refine lv_tableIn (tgt := 683) C.1 C.2.1 (kd kL_law_0 21 rfl) (by rw [q15] <;> decide) (by rw [q15] <;> decide) (by rw [q15] <;> rfl) (by decide) ?_
      obtain ⟨r, σ1, σ2, e1, e2, hLI⟩ := h15 σ (xs (i + 1)) (xs (i + 2)) hLI
      refine lv_aload_n C.1 C.2.1 (kd kL_law_6 47 rfl) rfl (lv_at hl 1 rfl) ?_
      refine lv_aload_n C.1 C.2.1 (kd kL_law_6 48 rfl) rfl (lv_at hl 0 rfl) ?_
      refine lv_iload_n C.1 C.2.1 (kd kL_law_6 49 rfl) rfl (lv_at hl 3 rfl) ?_
      refine lv_iconst (v := 1) C.1 C.2.1 (kd kL_law_6 50 rfl) (by decide) ?_
      refine lv_iadd C.1 C.2.1 (kd kL_law_6 51 rfl) ?_
      refine va_sld C.1 C.2.1 hX hbl hbA hS b1 (kd kL_law_6 52 rfl) ?_
      rw [t1]
      refine lv_aload_n C.1 C.2.1 (kd kL_law_6 53 rfl) rfl (lv_at hl 0 rfl) ?_
      refine lv_iload_n C.1 C.2.1 (kd kL_law_6 54 rfl) rfl (lv_at hl 3 rfl) ?_
      refine lv_iconst (v := 2) C.1 C.2.1 (kd kL_law_6 55 rfl) (by decide) ?_
      refine lv_iadd C.1 C.2.1 (kd kL_law_6 56 rfl) ?_
      refine va_sld C.1 C.2.1 hX hbl hbA hS b2 (kd kL_law_6 57 rfl) ?_
      rw [t2]
      refine la_V (k := 0) (As := [.int (xs (i + 1)), .int (xs (i + 2))]) (rest := []) (n := 2) C hP hS hAd rfl (Nat.le_of_ble_eq_true rfl) rfl (m_X7_ship C.2.2.2.2.2.2.2.2 l e1) (fgV tw_528 tw_529 tw_530 tw_67 tw_531) hd_X7_ship ⟨rfl, rfl, Nat.le_of_ble_eq_true rfl, Nat.le_of_ble_eq_true rfl⟩ rfl hl.1 rfl (Nat.le_of_ble_eq_true rfl) (kd kL_law_6 58 rfl) (Nat.le_of_ble_eq_true rfl) (Nat.le_of_ble_eq_true rfl) (fun H locs hP hS => ?_)
      refine lv_aload_n C.1 C.2.1 (kd kL_law_6 59 rfl) rfl (lv_at hl 2 rfl) ?_
      refine lv_aload_n C.1 C.2.1 (kd kL_law_7 0 rfl) rfl (lv_at hl 0 rfl) ?_
      refine lv_iload_n C.1 C.2.1 (kd kL_law_7 1 rfl) rfl (lv_at hl 3 rfl) ?_
      refine lv_iconst (v := 1) C.1 C.2.1 (kd kL_law_7 2 rfl) (by decide) ?_
      refine lv_iadd C.1 C.2.1 (kd kL_law_7 3 rfl) ?_
      refine va_sld C.1 C.2.1 hX hbl hbA hS b1 (kd kL_law_7 4 rfl) ?_
      rw [t1]
      refine lv_aload_n C.1 C.2.1 (kd kL_law_7 5 rfl) rfl (lv_at hl 0 rfl) ?_
      refine lv_iload_n C.1 C.2.1 (kd kL_law_7 6 rfl) rfl (lv_at hl 3 rfl) ?_
      refine lv_iconst (v := 2) C.1 C.2.1 (kd kL_law_7 7 rfl) (by decide) ?_
      refine lv_iadd C.1 C.2.1 (kd kL_law_7 8 rfl) ?_
      refine va_sld C.1 C.2.1 hX hbl hbA hS b2 (kd kL_law_7 9 rfl) ?_
      rw [t2]
      refine la_V (k := 164) (As := [.int (xs (i + 1)), .int (xs (i + 2))]) (rest := [.int r]) (n := 2) C hP hS hAd rfl (Nat.le_of_ble_eq_true rfl) rfl (m_X8_ship C.2.2.2.2.2.2.2.2 l e2) (fgV tw_1098 tw_1099 tw_1100 tw_75 tw_1101) hd_X8_ship ⟨rfl, rfl, Nat.le_of_ble_eq_true rfl, Nat.le_of_ble_eq_true rfl⟩ rfl hl.1 rfl (Nat.le_of_ble_eq_true rfl) (kd kL_law_7 10 rfl) (Nat.le_of_ble_eq_true rfl) (Nat.le_of_ble_eq_true rfl) (fun H locs hP hS => ?_)
      refine lv_icmp_eq (tgt := 1388) C.1 C.2.1 (kd kL_law_7 11 rfl) (by decide) (fun _ => ?_) (fun z => absurd rfl z)
      refine lv_iinc (v := nI (i + 5)) (lv' := [(3, .int (nI (i + 5))), (0, .ref b), (1, .ref (Γ.1 0)), (2, .ref (Γ.1 164))]) C.1 C.2.1 (kd kL_law_16 2 rfl) hl (k := 3) rfl (law_inc i) (Nat.le_of_ble_eq_true rfl) rfl (fun ls hl => ?_)
      refine lv_goto (tgt := 18) C.1 C.2.1 (kd kL_law_16 3 rfl) (by decide) ?_
      exact ih (i + 5) hi5 (by omega) σ2 hLI H locs hP hS ls (lv_sub hl [1, 2, 3, 0] rfl)
    have z15 : ¬ o.toInt = 15 := fi_ne q15 (by decide)
    by_cases q16 : o = 16
    · refine lv_tableIn (tgt := 716) C.1 C.2.1 (kd kL_law_0 21 rfl) (by rw [q16] <;> decide) (by rw [q16] <;> decide) (by rw [q16] <;> rfl) (by decide) ?_
      obtain ⟨r, σ1, σ2, e1, e2, hLI⟩ := h16 σ (xs (i + 1)) (xs (i + 2)) hLI
      refine lv_aload_n C.1 C.2.1 (kd kL_law_7 14 rfl) rfl (lv_at hl 1 rfl) ?_
      refine lv_aload_n C.1 C.2.1 (kd kL_law_7 15 rfl) rfl (lv_at hl 0 rfl) ?_
      refine lv_iload_n C.1 C.2.1 (kd kL_law_7 16 rfl) rfl (lv_at hl 3 rfl) ?_
      refine lv_iconst (v := 1) C.1 C.2.1 (kd kL_law_7 17 rfl) (by decide) ?_
      refine lv_iadd C.1 C.2.1 (kd kL_law_7 18 rfl) ?_
      refine va_sld C.1 C.2.1 hX hbl hbA hS b1 (kd kL_law_7 19 rfl) ?_
      rw [t1]
      refine lv_aload_n C.1 C.2.1 (kd kL_law_7 20 rfl) rfl (lv_at hl 0 rfl) ?_
      refine lv_iload_n C.1 C.2.1 (kd kL_law_7 21 rfl) rfl (lv_at hl 3 rfl) ?_
      refine lv_iconst (v := 2) C.1 C.2.1 (kd kL_law_7 22 rfl) (by decide) ?_
      refine lv_iadd C.1 C.2.1 (kd kL_law_7 23 rfl) ?_
      refine va_sld C.1 C.2.1 hX hbl hbA hS b2 (kd kL_law_7 24 rfl) ?_
      rw [t2]
      refine la_V (k := 0) (As := [.int (xs (i + 1)), .int (xs (i + 2))]) (rest := []) (n := 2) C hP hS hAd rfl (Nat.le_of_ble_eq_true rfl) rfl (m_X7_berth C.2.2.2.2.2.2.2.2 l e1) (fgV tw_600 tw_601 tw_602 tw_67 tw_603) hd_X7_berth ⟨rfl, rfl, Nat.le_of_ble_eq_true rfl, Nat.le_of_ble_eq_true rfl⟩ rfl hl.1 rfl (Nat.le_of_ble_eq_true rfl) (kd kL_law_7 25 rfl) (Nat.le_of_ble_eq_true rfl) (Nat.le_of_ble_eq_true rfl) (fun H locs hP hS => ?_)
      refine lv_aload_n C.1 C.2.1 (kd kL_law_7 26 rfl) rfl (lv_at hl 2 rfl) ?_
      refine lv_aload_n C.1 C.2.1 (kd kL_law_7 27 rfl) rfl (lv_at hl 0 rfl) ?_
      refine lv_iload_n C.1 C.2.1 (kd kL_law_7 28 rfl) rfl (lv_at hl 3 rfl) ?_
      refine lv_iconst (v := 1) C.1 C.2.1 (kd kL_law_7 29 rfl) (by decide) ?_
      refine lv_iadd C.1 C.2.1 (kd kL_law_7 30 rfl) ?_
      refine va_sld C.1 C.2.1 hX hbl hbA hS b1 (kd kL_law_7 31 rfl) ?_
      rw [t1]
      refine lv_aload_n C.1 C.2.1 (kd kL_law_7 32 rfl) rfl (lv_at hl 0 rfl) ?_
      refine lv_iload_n C.1 C.2.1 (kd kL_law_7 33 rfl) rfl (lv_at hl 3 rfl) ?_
      refine lv_iconst (v := 2) C.1 C.2.1 (kd kL_law_7 34 rfl) (by decide) ?_
      refine lv_iadd C.1 C.2.1 (kd kL_law_7 35 rfl) ?_
      refine va_sld C.1 C.2.1 hX hbl hbA hS b2 (kd kL_law_7 36 rfl) ?_
      rw [t2]
      refine la_V (k := 164) (As := [.int (xs (i + 1)), .int (xs (i + 2))]) (rest := [.int r]) (n := 2) C hP hS hAd rfl (Nat.le_of_ble_eq_true rfl) rfl (m_X8_berth C.2.2.2.2.2.2.2.2 l e2) (fgV tw_1183 tw_1184 tw_1185 tw_75 tw_1186) hd_X8_berth ⟨rfl, rfl, Nat.le_of_ble_eq_true rfl, Nat.le_of_ble_eq_true rfl⟩ rfl hl.1 rfl (Nat.le_of_ble_eq_true rfl) (kd kL_law_7 37 rfl) (Nat.le_of_ble_eq_true rfl) (Nat.le_of_ble_eq_true rfl) (fun H locs hP hS => ?_)
      refine lv_icmp_eq (tgt := 1388) C.1 C.2.1 (kd kL_law_7 38 rfl) (by decide) (fun _ => ?_) (fun z => absurd rfl z)
      refine lv_iinc (v := nI (i + 5)) (lv' := [(3, .int (nI (i + 5))), (0, .ref b), (1, .ref (Γ.1 0)), (2, .ref (Γ.1 164))]) C.1 C.2.1 (kd kL_law_16 2 rfl) hl (k := 3) rfl (law_inc i) (Nat.le_of_ble_eq_true rfl) rfl (fun ls hl => ?_)
      refine lv_goto (tgt := 18) C.1 C.2.1 (kd kL_law_16 3 rfl) (by decide) ?_
      exact ih (i + 5) hi5 (by omega) σ2 hLI H locs hP hS ls (lv_sub hl [1, 2, 3, 0] rfl)
    have z16 : ¬ o.toInt = 16 := fi_ne q16 (by decide)
    by_cases q17 : o = 17
    · refine lv_tableIn (tgt := 749) C.1 C.2.1 (kd kL_law_0 21 rfl) (by rw [q17] <;> decide) (by rw [q17] <;> decide) (by rw [q17] <;> rfl) (by decide) ?_
      obtain ⟨r, σ1, σ2, e1, e2, hLI⟩ := h17 σ (xs (i + 1)) (xs (i + 2)) hLI
      refine lv_aload_n C.1 C.2.1 (kd kL_law_7 41 rfl) rfl (lv_at hl 1 rfl) ?_
      refine lv_aload_n C.1 C.2.1 (kd kL_law_7 42 rfl) rfl (lv_at hl 0 rfl) ?_
      refine lv_iload_n C.1 C.2.1 (kd kL_law_7 43 rfl) rfl (lv_at hl 3 rfl) ?_
      refine lv_iconst (v := 1) C.1 C.2.1 (kd kL_law_7 44 rfl) (by decide) ?_
      refine lv_iadd C.1 C.2.1 (kd kL_law_7 45 rfl) ?_
      refine va_sld C.1 C.2.1 hX hbl hbA hS b1 (kd kL_law_7 46 rfl) ?_
      rw [t1]
      refine lv_aload_n C.1 C.2.1 (kd kL_law_7 47 rfl) rfl (lv_at hl 0 rfl) ?_
      refine lv_iload_n C.1 C.2.1 (kd kL_law_7 48 rfl) rfl (lv_at hl 3 rfl) ?_
      refine lv_iconst (v := 2) C.1 C.2.1 (kd kL_law_7 49 rfl) (by decide) ?_
      refine lv_iadd C.1 C.2.1 (kd kL_law_7 50 rfl) ?_
      refine va_sld C.1 C.2.1 hX hbl hbA hS b2 (kd kL_law_7 51 rfl) ?_
      rw [t2]
      refine la_V (k := 0) (As := [.int (xs (i + 1)), .int (xs (i + 2))]) (rest := []) (n := 2) C hP hS hAd rfl (Nat.le_of_ble_eq_true rfl) rfl (m_X7_crossing C.2.2.2.2.2.2.2.2 l e1) (fgV tw_604 tw_605 tw_606 tw_67 tw_607) hd_X7_crossing ⟨rfl, rfl, Nat.le_of_ble_eq_true rfl, Nat.le_of_ble_eq_true rfl⟩ rfl hl.1 rfl (Nat.le_of_ble_eq_true rfl) (kd kL_law_7 52 rfl) (Nat.le_of_ble_eq_true rfl) (Nat.le_of_ble_eq_true rfl) (fun H locs hP hS => ?_)
      refine lv_aload_n C.1 C.2.1 (kd kL_law_7 53 rfl) rfl (lv_at hl 2 rfl) ?_
      refine lv_aload_n C.1 C.2.1 (kd kL_law_7 54 rfl) rfl (lv_at hl 0 rfl) ?_
      refine lv_iload_n C.1 C.2.1 (kd kL_law_7 55 rfl) rfl (lv_at hl 3 rfl) ?_
      refine lv_iconst (v := 1) C.1 C.2.1 (kd kL_law_7 56 rfl) (by decide) ?_
      refine lv_iadd C.1 C.2.1 (kd kL_law_7 57 rfl) ?_
      refine va_sld C.1 C.2.1 hX hbl hbA hS b1 (kd kL_law_7 58 rfl) ?_
      rw [t1]
      refine lv_aload_n C.1 C.2.1 (kd kL_law_7 59 rfl) rfl (lv_at hl 0 rfl) ?_
      refine lv_iload_n C.1 C.2.1 (kd kL_law_8 0 rfl) rfl (lv_at hl 3 rfl) ?_
      refine lv_iconst (v := 2) C.1 C.2.1 (kd kL_law_8 1 rfl) (by decide) ?_
      refine lv_iadd C.1 C.2.1 (kd kL_law_8 2 rfl) ?_
      refine va_sld C.1 C.2.1 hX hbl hbA hS b2 (kd kL_law_8 3 rfl) ?_
      rw [t2]
      refine la_V (k := 164) (As := [.int (xs (i + 1)), .int (xs (i + 2))]) (rest := [.int r]) (n := 2) C hP hS hAd rfl (Nat.le_of_ble_eq_true rfl) rfl (m_X8_crossing C.2.2.2.2.2.2.2.2 l e2) (fgV tw_1187 tw_1188 tw_1189 tw_75 tw_1190) hd_X8_crossing ⟨rfl, rfl, Nat.le_of_ble_eq_true rfl, Nat.le_of_ble_eq_true rfl⟩ rfl hl.1 rfl (Nat.le_of_ble_eq_true rfl) (kd kL_law_8 4 rfl) (Nat.le_of_ble_eq_true rfl) (Nat.le_of_ble_eq_true rfl) (fun H locs hP hS => ?_)
      refine lv_icmp_eq (tgt := 1388) C.1 C.2.1 (kd kL_law_8 5 rfl) (by decide) (fun _ => ?_) (fun z => absurd rfl z)
      refine lv_iinc (v := nI (i + 5)) (lv' := [(3, .int (nI (i + 5))), (0, .ref b), (1, .ref (Γ.1 0)), (2, .ref (Γ.1 164))]) C.1 C.2.1 (kd kL_law_16 2 rfl) hl (k := 3) rfl (law_inc i) (Nat.le_of_ble_eq_true rfl) rfl (fun ls hl => ?_)
      refine lv_goto (tgt := 18) C.1 C.2.1 (kd kL_law_16 3 rfl) (by decide) ?_
      exact ih (i + 5) hi5 (by omega) σ2 hLI H locs hP hS ls (lv_sub hl [1, 2, 3, 0] rfl)
    have z17 : ¬ o.toInt = 17 := fi_ne q17 (by decide)
    by_cases q18 : o = 18
    · refine lv_tableIn (tgt := 782) C.1 C.2.1 (kd kL_law_0 21 rfl) (by rw [q18] <;> decide) (by rw [q18] <;> decide) (by rw [q18] <;> rfl) (by decide) ?_
      obtain ⟨r, σ1, σ2, e1, e2, hLI⟩ := h18 σ (xs (i + 1)) hLI
      refine lv_aload_n C.1 C.2.1 (kd kL_law_8 8 rfl) rfl (lv_at hl 1 rfl) ?_
      refine lv_aload_n C.1 C.2.1 (kd kL_law_8 9 rfl) rfl (lv_at hl 0 rfl) ?_
      refine lv_iload_n C.1 C.2.1 (kd kL_law_8 10 rfl) rfl (lv_at hl 3 rfl) ?_
      refine lv_iconst (v := 1) C.1 C.2.1 (kd kL_law_8 11 rfl) (by decide) ?_
      refine lv_iadd C.1 C.2.1 (kd kL_law_8 12 rfl) ?_
      refine va_sld C.1 C.2.1 hX hbl hbA hS b1 (kd kL_law_8 13 rfl) ?_
      rw [t1]
      refine la_V (k := 0) (As := [.int (xs (i + 1))]) (rest := []) (n := 1) C hP hS hAd rfl (Nat.le_of_ble_eq_true rfl) rfl (m_X7_decided C.2.2.2.2.2.2.2.2 l e1) (fgV tw_663 tw_664 tw_665 tw_67 tw_666) hd_X7_decided ⟨rfl, rfl, Nat.le_of_ble_eq_true rfl, Nat.le_of_ble_eq_true rfl⟩ rfl hl.1 rfl (Nat.le_of_ble_eq_true rfl) (kd kL_law_8 14 rfl) (Nat.le_of_ble_eq_true rfl) (Nat.le_of_ble_eq_true rfl) (fun H locs hP hS => ?_)
      refine lv_aload_n C.1 C.2.1 (kd kL_law_8 15 rfl) rfl (lv_at hl 2 rfl) ?_
      refine lv_aload_n C.1 C.2.1 (kd kL_law_8 16 rfl) rfl (lv_at hl 0 rfl) ?_
      refine lv_iload_n C.1 C.2.1 (kd kL_law_8 17 rfl) rfl (lv_at hl 3 rfl) ?_
      refine lv_iconst (v := 1) C.1 C.2.1 (kd kL_law_8 18 rfl) (by decide) ?_
      refine lv_iadd C.1 C.2.1 (kd kL_law_8 19 rfl) ?_
      refine va_sld C.1 C.2.1 hX hbl hbA hS b1 (kd kL_law_8 20 rfl) ?_
      rw [t1]
      refine la_V (k := 164) (As := [.int (xs (i + 1))]) (rest := [.int r]) (n := 1) C hP hS hAd rfl (Nat.le_of_ble_eq_true rfl) rfl (m_X8_decided C.2.2.2.2.2.2.2.2 l e2) (fgV tw_1195 tw_1196 tw_1197 tw_75 tw_1198) hd_X8_decided ⟨rfl, rfl, Nat.le_of_ble_eq_true rfl, Nat.le_of_ble_eq_true rfl⟩ rfl hl.1 rfl (Nat.le_of_ble_eq_true rfl) (kd kL_law_8 21 rfl) (Nat.le_of_ble_eq_true rfl) (Nat.le_of_ble_eq_true rfl) (fun H locs hP hS => ?_)
      refine lv_icmp_eq (tgt := 1388) C.1 C.2.1 (kd kL_law_8 22 rfl) (by decide) (fun _ => ?_) (fun z => absurd rfl z)
      refine lv_iinc (v := nI (i + 5)) (lv' := [(3, .int (nI (i + 5))), (0, .ref b), (1, .ref (Γ.1 0)), (2, .ref (Γ.1 164))]) C.1 C.2.1 (kd kL_law_16 2 rfl) hl (k := 3) rfl (law_inc i) (Nat.le_of_ble_eq_true rfl) rfl (fun ls hl => ?_)
      refine lv_goto (tgt := 18) C.1 C.2.1 (kd kL_law_16 3 rfl) (by decide) ?_
      exact ih (i + 5) hi5 (by omega) σ2 hLI H locs hP hS ls (lv_sub hl [1, 2, 3, 0] rfl)
    have z18 : ¬ o.toInt = 18 := fi_ne q18 (by decide)
    by_cases q19 : o = 19
    · refine lv_tableIn (tgt := 805) C.1 C.2.1 (kd kL_law_0 21 rfl) (by rw [q19] <;> decide) (by rw [q19] <;> decide) (by rw [q19] <;> rfl) (by decide) ?_
      obtain ⟨r, σ1, σ2, e1, e2, hLI⟩ := h19 σ (xs (i + 1)) (xs (i + 2)) hLI
      refine lv_aload_n C.1 C.2.1 (kd kL_law_8 25 rfl) rfl (lv_at hl 1 rfl) ?_
      refine lv_aload_n C.1 C.2.1 (kd kL_law_8 26 rfl) rfl (lv_at hl 0 rfl) ?_
      refine lv_iload_n C.1 C.2.1 (kd kL_law_8 27 rfl) rfl (lv_at hl 3 rfl) ?_
      refine lv_iconst (v := 1) C.1 C.2.1 (kd kL_law_8 28 rfl) (by decide) ?_
      refine lv_iadd C.1 C.2.1 (kd kL_law_8 29 rfl) ?_
      refine va_sld C.1 C.2.1 hX hbl hbA hS b1 (kd kL_law_8 30 rfl) ?_
      rw [t1]
      refine lv_aload_n C.1 C.2.1 (kd kL_law_8 31 rfl) rfl (lv_at hl 0 rfl) ?_
      refine lv_iload_n C.1 C.2.1 (kd kL_law_8 32 rfl) rfl (lv_at hl 3 rfl) ?_
      refine lv_iconst (v := 2) C.1 C.2.1 (kd kL_law_8 33 rfl) (by decide) ?_
      refine lv_iadd C.1 C.2.1 (kd kL_law_8 34 rfl) ?_
      refine va_sld C.1 C.2.1 hX hbl hbA hS b2 (kd kL_law_8 35 rfl) ?_
      rw [t2]
      refine la_V (k := 0) (As := [.int (xs (i + 1)), .int (xs (i + 2))]) (rest := []) (n := 2) C hP hS hAd rfl (Nat.le_of_ble_eq_true rfl) rfl (m_X7_vehicle C.2.2.2.2.2.2.2.2 l e1) (fgV tw_667 tw_668 tw_669 tw_67 tw_670) hd_X7_vehicle ⟨rfl, rfl, Nat.le_of_ble_eq_true rfl, Nat.le_of_ble_eq_true rfl⟩ rfl hl.1 rfl (Nat.le_of_ble_eq_true rfl) (kd kL_law_8 36 rfl) (Nat.le_of_ble_eq_true rfl) (Nat.le_of_ble_eq_true rfl) (fun H locs hP hS => ?_)
      refine lv_aload_n C.1 C.2.1 (kd kL_law_8 37 rfl) rfl (lv_at hl 2 rfl) ?_
      refine lv_aload_n C.1 C.2.1 (kd kL_law_8 38 rfl) rfl (lv_at hl 0 rfl) ?_
      refine lv_iload_n C.1 C.2.1 (kd kL_law_8 39 rfl) rfl (lv_at hl 3 rfl) ?_
      refine lv_iconst (v := 1) C.1 C.2.1 (kd kL_law_8 40 rfl) (by decide) ?_
      refine lv_iadd C.1 C.2.1 (kd kL_law_8 41 rfl) ?_
      refine va_sld C.1 C.2.1 hX hbl hbA hS b1 (kd kL_law_8 42 rfl) ?_
      rw [t1]
      refine lv_aload_n C.1 C.2.1 (kd kL_law_8 43 rfl) rfl (lv_at hl 0 rfl) ?_
      refine lv_iload_n C.1 C.2.1 (kd kL_law_8 44 rfl) rfl (lv_at hl 3 rfl) ?_
      refine lv_iconst (v := 2) C.1 C.2.1 (kd kL_law_8 45 rfl) (by decide) ?_
      refine lv_iadd C.1 C.2.1 (kd kL_law_8 46 rfl) ?_
      refine va_sld C.1 C.2.1 hX hbl hbA hS b2 (kd kL_law_8 47 rfl) ?_
      rw [t2]
      refine la_V (k := 164) (As := [.int (xs (i + 1)), .int (xs (i + 2))]) (rest := [.int r]) (n := 2) C hP hS hAd rfl (Nat.le_of_ble_eq_true rfl) rfl (m_X8_vehicle C.2.2.2.2.2.2.2.2 l e2) (fgV tw_1199 tw_1200 tw_1201 tw_75 tw_1202) hd_X8_vehicle ⟨rfl, rfl, Nat.le_of_ble_eq_true rfl, Nat.le_of_ble_eq_true rfl⟩ rfl hl.1 rfl (Nat.le_of_ble_eq_true rfl) (kd kL_law_8 48 rfl) (Nat.le_of_ble_eq_true rfl) (Nat.le_of_ble_eq_true rfl) (fun H locs hP hS => ?_)
      refine lv_icmp_eq (tgt := 1388) C.1 C.2.1 (kd kL_law_8 49 rfl) (by decide) (fun _ => ?_) (fun z => absurd rfl z)
      refine lv_iinc (v := nI (i + 5)) (lv' := [(3, .int (nI (i + 5))), (0, .ref b), (1, .ref (Γ.1 0)), (2, .ref (Γ.1 164))]) C.1 C.2.1 (kd kL_law_16 2 rfl) hl (k := 3) rfl (law_inc i) (Nat.le_of_ble_eq_true rfl) rfl (fun ls hl => ?_)
      refine lv_goto (tgt := 18) C.1 C.2.1 (kd kL_law_16 3 rfl) (by decide) ?_
      exact ih (i + 5) hi5 (by omega) σ2 hLI H locs hP hS ls (lv_sub hl [1, 2, 3, 0] rfl)
    have z19 : ¬ o.toInt = 19 := fi_ne q19 (by decide)
    by_cases q20 : o = 20
    · refine lv_tableIn (tgt := 838) C.1 C.2.1 (kd kL_law_0 21 rfl) (by rw [q20] <;> decide) (by rw [q20] <;> decide) (by rw [q20] <;> rfl) (by decide) ?_
      obtain ⟨r, σ1, σ2, e1, e2, hLI⟩ := h20 σ (xs (i + 1)) (xs (i + 2)) hLI
      refine lv_aload_n C.1 C.2.1 (kd kL_law_8 52 rfl) rfl (lv_at hl 1 rfl) ?_
      refine lv_aload_n C.1 C.2.1 (kd kL_law_8 53 rfl) rfl (lv_at hl 0 rfl) ?_
      refine lv_iload_n C.1 C.2.1 (kd kL_law_8 54 rfl) rfl (lv_at hl 3 rfl) ?_
      refine lv_iconst (v := 1) C.1 C.2.1 (kd kL_law_8 55 rfl) (by decide) ?_
      refine lv_iadd C.1 C.2.1 (kd kL_law_8 56 rfl) ?_
      refine va_sld C.1 C.2.1 hX hbl hbA hS b1 (kd kL_law_8 57 rfl) ?_
      rw [t1]
      refine lv_aload_n C.1 C.2.1 (kd kL_law_8 58 rfl) rfl (lv_at hl 0 rfl) ?_
      refine lv_iload_n C.1 C.2.1 (kd kL_law_8 59 rfl) rfl (lv_at hl 3 rfl) ?_
      refine lv_iconst (v := 2) C.1 C.2.1 (kd kL_law_9 0 rfl) (by decide) ?_
      refine lv_iadd C.1 C.2.1 (kd kL_law_9 1 rfl) ?_
      refine va_sld C.1 C.2.1 hX hbl hbA hS b2 (kd kL_law_9 2 rfl) ?_
      rw [t2]
      refine la_V (k := 0) (As := [.int (xs (i + 1)), .int (xs (i + 2))]) (rest := []) (n := 2) C hP hS hAd rfl (Nat.le_of_ble_eq_true rfl) rfl (m_X7_connection C.2.2.2.2.2.2.2.2 l e1) (fgV tw_675 tw_676 tw_677 tw_67 tw_678) hd_X7_connection ⟨rfl, rfl, Nat.le_of_ble_eq_true rfl, Nat.le_of_ble_eq_true rfl⟩ rfl hl.1 rfl (Nat.le_of_ble_eq_true rfl) (kd kL_law_9 3 rfl) (Nat.le_of_ble_eq_true rfl) (Nat.le_of_ble_eq_true rfl) (fun H locs hP hS => ?_)
      refine lv_aload_n C.1 C.2.1 (kd kL_law_9 4 rfl) rfl (lv_at hl 2 rfl) ?_
      refine lv_aload_n C.1 C.2.1 (kd kL_law_9 5 rfl) rfl (lv_at hl 0 rfl) ?_
      refine lv_iload_n C.1 C.2.1 (kd kL_law_9 6 rfl) rfl (lv_at hl 3 rfl) ?_
      refine lv_iconst (v := 1) C.1 C.2.1 (kd kL_law_9 7 rfl) (by decide) ?_
      refine lv_iadd C.1 C.2.1 (kd kL_law_9 8 rfl) ?_
      refine va_sld C.1 C.2.1 hX hbl hbA hS b1 (kd kL_law_9 9 rfl) ?_
      rw [t1]
      refine lv_aload_n C.1 C.2.1 (kd kL_law_9 10 rfl) rfl (lv_at hl 0 rfl) ?_
      refine lv_iload_n C.1 C.2.1 (kd kL_law_9 11 rfl) rfl (lv_at hl 3 rfl) ?_
      refine lv_iconst (v := 2) C.1 C.2.1 (kd kL_law_9 12 rfl) (by decide) ?_
      refine lv_iadd C.1 C.2.1 (kd kL_law_9 13 rfl) ?_
      refine va_sld C.1 C.2.1 hX hbl hbA hS b2 (kd kL_law_9 14 rfl) ?_
      rw [t2]
      refine la_V (k := 164) (As := [.int (xs (i + 1)), .int (xs (i + 2))]) (rest := [.int r]) (n := 2) C hP hS hAd rfl (Nat.le_of_ble_eq_true rfl) rfl (m_X8_connection C.2.2.2.2.2.2.2.2 l e2) (fgV tw_1203 tw_1204 tw_1205 tw_75 tw_1206) hd_X8_connection ⟨rfl, rfl, Nat.le_of_ble_eq_true rfl, Nat.le_of_ble_eq_true rfl⟩ rfl hl.1 rfl (Nat.le_of_ble_eq_true rfl) (kd kL_law_9 15 rfl) (Nat.le_of_ble_eq_true rfl) (Nat.le_of_ble_eq_true rfl) (fun H locs hP hS => ?_)
      refine lv_icmp_eq (tgt := 1388) C.1 C.2.1 (kd kL_law_9 16 rfl) (by decide) (fun _ => ?_) (fun z => absurd rfl z)
      refine lv_iinc (v := nI (i + 5)) (lv' := [(3, .int (nI (i + 5))), (0, .ref b), (1, .ref (Γ.1 0)), (2, .ref (Γ.1 164))]) C.1 C.2.1 (kd kL_law_16 2 rfl) hl (k := 3) rfl (law_inc i) (Nat.le_of_ble_eq_true rfl) rfl (fun ls hl => ?_)
      refine lv_goto (tgt := 18) C.1 C.2.1 (kd kL_law_16 3 rfl) (by decide) ?_
      exact ih (i + 5) hi5 (by omega) σ2 hLI H locs hP hS ls (lv_sub hl [1, 2, 3, 0] rfl)
    have z20 : ¬ o.toInt = 20 := fi_ne q20 (by decide)
    by_cases q21 : o = 21
    · refine lv_tableIn (tgt := 871) C.1 C.2.1 (kd kL_law_0 21 rfl) (by rw [q21] <;> decide) (by rw [q21] <;> decide) (by rw [q21] <;> rfl) (by decide) ?_
      obtain ⟨r, σ1, σ2, e1, e2, hLI⟩ := h21 σ (xs (i + 1)) hLI
      refine lv_aload_n C.1 C.2.1 (kd kL_law_9 19 rfl) rfl (lv_at hl 1 rfl) ?_
      refine lv_aload_n C.1 C.2.1 (kd kL_law_9 20 rfl) rfl (lv_at hl 0 rfl) ?_
      refine lv_iload_n C.1 C.2.1 (kd kL_law_9 21 rfl) rfl (lv_at hl 3 rfl) ?_
      refine lv_iconst (v := 1) C.1 C.2.1 (kd kL_law_9 22 rfl) (by decide) ?_
      refine lv_iadd C.1 C.2.1 (kd kL_law_9 23 rfl) ?_
      refine va_sld C.1 C.2.1 hX hbl hbA hS b1 (kd kL_law_9 24 rfl) ?_
      rw [t1]
      refine la_V (k := 0) (As := [.int (xs (i + 1))]) (rest := []) (n := 1) C hP hS hAd rfl (Nat.le_of_ble_eq_true rfl) rfl (m_X7_tide C.2.2.2.2.2.2.2.2 l e1) (fgV tw_679 tw_680 tw_681 tw_67 tw_682) hd_X7_tide ⟨rfl, rfl, Nat.le_of_ble_eq_true rfl, Nat.le_of_ble_eq_true rfl⟩ rfl hl.1 rfl (Nat.le_of_ble_eq_true rfl) (kd kL_law_9 25 rfl) (Nat.le_of_ble_eq_true rfl) (Nat.le_of_ble_eq_true rfl) (fun H locs hP hS => ?_)
      refine lv_aload_n C.1 C.2.1 (kd kL_law_9 26 rfl) rfl (lv_at hl 2 rfl) ?_
      refine lv_aload_n C.1 C.2.1 (kd kL_law_9 27 rfl) rfl (lv_at hl 0 rfl) ?_
      refine lv_iload_n C.1 C.2.1 (kd kL_law_9 28 rfl) rfl (lv_at hl 3 rfl) ?_
      refine lv_iconst (v := 1) C.1 C.2.1 (kd kL_law_9 29 rfl) (by decide) ?_
      refine lv_iadd C.1 C.2.1 (kd kL_law_9 30 rfl) ?_
      refine va_sld C.1 C.2.1 hX hbl hbA hS b1 (kd kL_law_9 31 rfl) ?_
      rw [t1]
      refine la_V (k := 164) (As := [.int (xs (i + 1))]) (rest := [.int r]) (n := 1) C hP hS hAd rfl (Nat.le_of_ble_eq_true rfl) rfl (m_X8_tide C.2.2.2.2.2.2.2.2 l e2) (fgV tw_1207 tw_1208 tw_1209 tw_75 tw_1210) hd_X8_tide ⟨rfl, rfl, Nat.le_of_ble_eq_true rfl, Nat.le_of_ble_eq_true rfl⟩ rfl hl.1 rfl (Nat.le_of_ble_eq_true rfl) (kd kL_law_9 32 rfl) (Nat.le_of_ble_eq_true rfl) (Nat.le_of_ble_eq_true rfl) (fun H locs hP hS => ?_)
      refine lv_icmp_eq (tgt := 1388) C.1 C.2.1 (kd kL_law_9 33 rfl) (by decide) (fun _ => ?_) (fun z => absurd rfl z)
      refine lv_iinc (v := nI (i + 5)) (lv' := [(3, .int (nI (i + 5))), (0, .ref b), (1, .ref (Γ.1 0)), (2, .ref (Γ.1 164))]) C.1 C.2.1 (kd kL_law_16 2 rfl) hl (k := 3) rfl (law_inc i) (Nat.le_of_ble_eq_true rfl) rfl (fun ls hl => ?_)
      refine lv_goto (tgt := 18) C.1 C.2.1 (kd kL_law_16 3 rfl) (by decide) ?_
      exact ih (i + 5) hi5 (by omega) σ2 hLI H locs hP hS ls (lv_sub hl [1, 2, 3, 0] rfl)
    have z21 : ¬ o.toInt = 21 := fi_ne q21 (by decide)
    by_cases q22 : o = 22
    · refine lv_tableIn (tgt := 894) C.1 C.2.1 (kd kL_law_0 21 rfl) (by rw [q22] <;> decide) (by rw [q22] <;> decide) (by rw [q22] <;> rfl) (by decide) ?_
      obtain ⟨r, σ1, σ2, e1, e2, hLI⟩ := h22 σ (xs (i + 1)) hLI
      refine lv_aload_n C.1 C.2.1 (kd kL_law_9 36 rfl) rfl (lv_at hl 1 rfl) ?_
      refine lv_aload_n C.1 C.2.1 (kd kL_law_9 37 rfl) rfl (lv_at hl 0 rfl) ?_
      refine lv_iload_n C.1 C.2.1 (kd kL_law_9 38 rfl) rfl (lv_at hl 3 rfl) ?_
      refine lv_iconst (v := 1) C.1 C.2.1 (kd kL_law_9 39 rfl) (by decide) ?_
      refine lv_iadd C.1 C.2.1 (kd kL_law_9 40 rfl) ?_
      refine va_sld C.1 C.2.1 hX hbl hbA hS b1 (kd kL_law_9 41 rfl) ?_
      rw [t1]
      refine la_V (k := 0) (As := [.int (xs (i + 1))]) (rest := []) (n := 1) C hP hS hAd rfl (Nat.le_of_ble_eq_true rfl) rfl (m_X7_wind C.2.2.2.2.2.2.2.2 l e1) (fgV tw_683 tw_684 tw_685 tw_67 tw_686) hd_X7_wind ⟨rfl, rfl, Nat.le_of_ble_eq_true rfl, Nat.le_of_ble_eq_true rfl⟩ rfl hl.1 rfl (Nat.le_of_ble_eq_true rfl) (kd kL_law_9 42 rfl) (Nat.le_of_ble_eq_true rfl) (Nat.le_of_ble_eq_true rfl) (fun H locs hP hS => ?_)
      refine lv_aload_n C.1 C.2.1 (kd kL_law_9 43 rfl) rfl (lv_at hl 2 rfl) ?_
      refine lv_aload_n C.1 C.2.1 (kd kL_law_9 44 rfl) rfl (lv_at hl 0 rfl) ?_
      refine lv_iload_n C.1 C.2.1 (kd kL_law_9 45 rfl) rfl (lv_at hl 3 rfl) ?_
      refine lv_iconst (v := 1) C.1 C.2.1 (kd kL_law_9 46 rfl) (by decide) ?_
      refine lv_iadd C.1 C.2.1 (kd kL_law_9 47 rfl) ?_
      refine va_sld C.1 C.2.1 hX hbl hbA hS b1 (kd kL_law_9 48 rfl) ?_
      rw [t1]
      refine la_V (k := 164) (As := [.int (xs (i + 1))]) (rest := [.int r]) (n := 1) C hP hS hAd rfl (Nat.le_of_ble_eq_true rfl) rfl (m_X8_wind C.2.2.2.2.2.2.2.2 l e2) (fgV tw_1211 tw_1212 tw_1213 tw_75 tw_1214) hd_X8_wind ⟨rfl, rfl, Nat.le_of_ble_eq_true rfl, Nat.le_of_ble_eq_true rfl⟩ rfl hl.1 rfl (Nat.le_of_ble_eq_true rfl) (kd kL_law_9 49 rfl) (Nat.le_of_ble_eq_true rfl) (Nat.le_of_ble_eq_true rfl) (fun H locs hP hS => ?_)
      refine lv_icmp_eq (tgt := 1388) C.1 C.2.1 (kd kL_law_9 50 rfl) (by decide) (fun _ => ?_) (fun z => absurd rfl z)
      refine lv_iinc (v := nI (i + 5)) (lv' := [(3, .int (nI (i + 5))), (0, .ref b), (1, .ref (Γ.1 0)), (2, .ref (Γ.1 164))]) C.1 C.2.1 (kd kL_law_16 2 rfl) hl (k := 3) rfl (law_inc i) (Nat.le_of_ble_eq_true rfl) rfl (fun ls hl => ?_)
      refine lv_goto (tgt := 18) C.1 C.2.1 (kd kL_law_16 3 rfl) (by decide) ?_
      exact ih (i + 5) hi5 (by omega) σ2 hLI H locs hP hS ls (lv_sub hl [1, 2, 3, 0] rfl)
    have z22 : ¬ o.toInt = 22 := fi_ne q22 (by decide)
    by_cases q23 : o = 23
    · refine lv_tableIn (tgt := 917) C.1 C.2.1 (kd kL_law_0 21 rfl) (by rw [q23] <;> decide) (by rw [q23] <;> decide) (by rw [q23] <;> rfl) (by decide) ?_
      obtain ⟨r, σ1, σ2, e1, e2, hLI⟩ := h23 σ (xs (i + 1)) hLI
      refine lv_aload_n C.1 C.2.1 (kd kL_law_9 53 rfl) rfl (lv_at hl 1 rfl) ?_
      refine lv_aload_n C.1 C.2.1 (kd kL_law_9 54 rfl) rfl (lv_at hl 0 rfl) ?_
      refine lv_iload_n C.1 C.2.1 (kd kL_law_9 55 rfl) rfl (lv_at hl 3 rfl) ?_
      refine lv_iconst (v := 1) C.1 C.2.1 (kd kL_law_9 56 rfl) (by decide) ?_
      refine lv_iadd C.1 C.2.1 (kd kL_law_9 57 rfl) ?_
      refine va_sld C.1 C.2.1 hX hbl hbA hS b1 (kd kL_law_9 58 rfl) ?_
      rw [t1]
      refine la_V (k := 0) (As := [.int (xs (i + 1))]) (rest := []) (n := 1) C hP hS hAd rfl (Nat.le_of_ble_eq_true rfl) rfl (m_X7_height C.2.2.2.2.2.2.2.2 l e1) (fgV tw_687 tw_688 tw_689 tw_67 tw_690) hd_X7_height ⟨rfl, rfl, Nat.le_of_ble_eq_true rfl, Nat.le_of_ble_eq_true rfl⟩ rfl hl.1 rfl (Nat.le_of_ble_eq_true rfl) (kd kL_law_9 59 rfl) (Nat.le_of_ble_eq_true rfl) (Nat.le_of_ble_eq_true rfl) (fun H locs hP hS => ?_)
      refine lv_aload_n C.1 C.2.1 (kd kL_law_10 0 rfl) rfl (lv_at hl 2 rfl) ?_
      refine lv_aload_n C.1 C.2.1 (kd kL_law_10 1 rfl) rfl (lv_at hl 0 rfl) ?_
      refine lv_iload_n C.1 C.2.1 (kd kL_law_10 2 rfl) rfl (lv_at hl 3 rfl) ?_
      refine lv_iconst (v := 1) C.1 C.2.1 (kd kL_law_10 3 rfl) (by decide) ?_
      refine lv_iadd C.1 C.2.1 (kd kL_law_10 4 rfl) ?_
      refine va_sld C.1 C.2.1 hX hbl hbA hS b1 (kd kL_law_10 5 rfl) ?_
      rw [t1]
      refine la_V (k := 164) (As := [.int (xs (i + 1))]) (rest := [.int r]) (n := 1) C hP hS hAd rfl (Nat.le_of_ble_eq_true rfl) rfl (m_X8_height C.2.2.2.2.2.2.2.2 l e2) (fgV tw_1215 tw_1216 tw_1217 tw_75 tw_1218) hd_X8_height ⟨rfl, rfl, Nat.le_of_ble_eq_true rfl, Nat.le_of_ble_eq_true rfl⟩ rfl hl.1 rfl (Nat.le_of_ble_eq_true rfl) (kd kL_law_10 6 rfl) (Nat.le_of_ble_eq_true rfl) (Nat.le_of_ble_eq_true rfl) (fun H locs hP hS => ?_)
      refine lv_icmp_eq (tgt := 1388) C.1 C.2.1 (kd kL_law_10 7 rfl) (by decide) (fun _ => ?_) (fun z => absurd rfl z)
      refine lv_iinc (v := nI (i + 5)) (lv' := [(3, .int (nI (i + 5))), (0, .ref b), (1, .ref (Γ.1 0)), (2, .ref (Γ.1 164))]) C.1 C.2.1 (kd kL_law_16 2 rfl) hl (k := 3) rfl (law_inc i) (Nat.le_of_ble_eq_true rfl) rfl (fun ls hl => ?_)
      refine lv_goto (tgt := 18) C.1 C.2.1 (kd kL_law_16 3 rfl) (by decide) ?_
      exact ih (i + 5) hi5 (by omega) σ2 hLI H locs hP hS ls (lv_sub hl [1, 2, 3, 0] rfl)
    have z23 : ¬ o.toInt = 23 := fi_ne q23 (by decide)
    by_cases q24 : o = 24
    · refine lv_tableIn (tgt := 940) C.1 C.2.1 (kd kL_law_0 21 rfl) (by rw [q24] <;> decide) (by rw [q24] <;> decide) (by rw [q24] <;> rfl) (by decide) ?_
      obtain ⟨r, σ1, σ2, e1, e2, hLI⟩ := h24 σ (xs (i + 1)) hLI
      refine lv_aload_n C.1 C.2.1 (kd kL_law_10 10 rfl) rfl (lv_at hl 1 rfl) ?_
      refine lv_aload_n C.1 C.2.1 (kd kL_law_10 11 rfl) rfl (lv_at hl 0 rfl) ?_
      refine lv_iload_n C.1 C.2.1 (kd kL_law_10 12 rfl) rfl (lv_at hl 3 rfl) ?_
      refine lv_iconst (v := 1) C.1 C.2.1 (kd kL_law_10 13 rfl) (by decide) ?_
      refine lv_iadd C.1 C.2.1 (kd kL_law_10 14 rfl) ?_
      refine va_sld C.1 C.2.1 hX hbl hbA hS b1 (kd kL_law_10 15 rfl) ?_
      rw [t1]
      refine la_V (k := 0) (As := [.int (xs (i + 1))]) (rest := []) (n := 1) C hP hS hAd rfl (Nat.le_of_ble_eq_true rfl) rfl (m_X7_heightBits C.2.2.2.2.2.2.2.2 l e1) (fgV tw_692 tw_693 tw_694 tw_67 tw_695) hd_X7_heightBits ⟨rfl, rfl, Nat.le_of_ble_eq_true rfl, Nat.le_of_ble_eq_true rfl⟩ rfl hl.1 rfl (Nat.le_of_ble_eq_true rfl) (kd kL_law_10 16 rfl) (Nat.le_of_ble_eq_true rfl) (Nat.le_of_ble_eq_true rfl) (fun H locs hP hS => ?_)
      refine lv_aload_n C.1 C.2.1 (kd kL_law_10 17 rfl) rfl (lv_at hl 2 rfl) ?_
      refine lv_aload_n C.1 C.2.1 (kd kL_law_10 18 rfl) rfl (lv_at hl 0 rfl) ?_
      refine lv_iload_n C.1 C.2.1 (kd kL_law_10 19 rfl) rfl (lv_at hl 3 rfl) ?_
      refine lv_iconst (v := 1) C.1 C.2.1 (kd kL_law_10 20 rfl) (by decide) ?_
      refine lv_iadd C.1 C.2.1 (kd kL_law_10 21 rfl) ?_
      refine va_sld C.1 C.2.1 hX hbl hbA hS b1 (kd kL_law_10 22 rfl) ?_
      rw [t1]
      refine la_V (k := 164) (As := [.int (xs (i + 1))]) (rest := [.int r]) (n := 1) C hP hS hAd rfl (Nat.le_of_ble_eq_true rfl) rfl (m_X8_heightBits C.2.2.2.2.2.2.2.2 l e2) (fgV tw_1219 tw_1220 tw_1221 tw_75 tw_1222) hd_X8_heightBits ⟨rfl, rfl, Nat.le_of_ble_eq_true rfl, Nat.le_of_ble_eq_true rfl⟩ rfl hl.1 rfl (Nat.le_of_ble_eq_true rfl) (kd kL_law_10 23 rfl) (Nat.le_of_ble_eq_true rfl) (Nat.le_of_ble_eq_true rfl) (fun H locs hP hS => ?_)
      refine lv_icmp_eq (tgt := 1388) C.1 C.2.1 (kd kL_law_10 24 rfl) (by decide) (fun _ => ?_) (fun z => absurd rfl z)
      refine lv_iinc (v := nI (i + 5)) (lv' := [(3, .int (nI (i + 5))), (0, .ref b), (1, .ref (Γ.1 0)), (2, .ref (Γ.1 164))]) C.1 C.2.1 (kd kL_law_16 2 rfl) hl (k := 3) rfl (law_inc i) (Nat.le_of_ble_eq_true rfl) rfl (fun ls hl => ?_)
      refine lv_goto (tgt := 18) C.1 C.2.1 (kd kL_law_16 3 rfl) (by decide) ?_
      exact ih (i + 5) hi5 (by omega) σ2 hLI H locs hP hS ls (lv_sub hl [1, 2, 3, 0] rfl)
    have z24 : ¬ o.toInt = 24 := fi_ne q24 (by decide)
    by_cases q25 : o = 25
    · refine lv_tableIn (tgt := 963) C.1 C.2.1 (kd kL_law_0 21 rfl) (by rw [q25] <;> decide) (by rw [q25] <;> decide) (by rw [q25] <;> rfl) (by decide) ?_
      obtain ⟨r, σ1, σ2, e1, e2, hLI⟩ := h25 σ (xs (i + 1)) (xs (i + 2)) hLI
      refine lv_aload_n C.1 C.2.1 (kd kL_law_10 27 rfl) rfl (lv_at hl 1 rfl) ?_
      refine lv_aload_n C.1 C.2.1 (kd kL_law_10 28 rfl) rfl (lv_at hl 0 rfl) ?_
      refine lv_iload_n C.1 C.2.1 (kd kL_law_10 29 rfl) rfl (lv_at hl 3 rfl) ?_
      refine lv_iconst (v := 1) C.1 C.2.1 (kd kL_law_10 30 rfl) (by decide) ?_
      refine lv_iadd C.1 C.2.1 (kd kL_law_10 31 rfl) ?_
      refine va_sld C.1 C.2.1 hX hbl hbA hS b1 (kd kL_law_10 32 rfl) ?_
      rw [t1]
      refine lv_aload_n C.1 C.2.1 (kd kL_law_10 33 rfl) rfl (lv_at hl 0 rfl) ?_
      refine lv_iload_n C.1 C.2.1 (kd kL_law_10 34 rfl) rfl (lv_at hl 3 rfl) ?_
      refine lv_iconst (v := 2) C.1 C.2.1 (kd kL_law_10 35 rfl) (by decide) ?_
      refine lv_iadd C.1 C.2.1 (kd kL_law_10 36 rfl) ?_
      refine va_sld C.1 C.2.1 hX hbl hbA hS b2 (kd kL_law_10 37 rfl) ?_
      rw [t2]
      refine la_V (k := 0) (As := [.int (xs (i + 1)), .int (xs (i + 2))]) (rest := []) (n := 2) C hP hS hAd rfl (Nat.le_of_ble_eq_true rfl) rfl (m_X7_water C.2.2.2.2.2.2.2.2 l e1) (fgV tw_702 tw_703 tw_704 tw_67 tw_705) hd_X7_water ⟨rfl, rfl, Nat.le_of_ble_eq_true rfl, Nat.le_of_ble_eq_true rfl⟩ rfl hl.1 rfl (Nat.le_of_ble_eq_true rfl) (kd kL_law_10 38 rfl) (Nat.le_of_ble_eq_true rfl) (Nat.le_of_ble_eq_true rfl) (fun H locs hP hS => ?_)
      refine lv_aload_n C.1 C.2.1 (kd kL_law_10 39 rfl) rfl (lv_at hl 2 rfl) ?_
      refine lv_aload_n C.1 C.2.1 (kd kL_law_10 40 rfl) rfl (lv_at hl 0 rfl) ?_
      refine lv_iload_n C.1 C.2.1 (kd kL_law_10 41 rfl) rfl (lv_at hl 3 rfl) ?_
      refine lv_iconst (v := 1) C.1 C.2.1 (kd kL_law_10 42 rfl) (by decide) ?_
      refine lv_iadd C.1 C.2.1 (kd kL_law_10 43 rfl) ?_
      refine va_sld C.1 C.2.1 hX hbl hbA hS b1 (kd kL_law_10 44 rfl) ?_
      rw [t1]
      refine lv_aload_n C.1 C.2.1 (kd kL_law_10 45 rfl) rfl (lv_at hl 0 rfl) ?_
      refine lv_iload_n C.1 C.2.1 (kd kL_law_10 46 rfl) rfl (lv_at hl 3 rfl) ?_
      refine lv_iconst (v := 2) C.1 C.2.1 (kd kL_law_10 47 rfl) (by decide) ?_
      refine lv_iadd C.1 C.2.1 (kd kL_law_10 48 rfl) ?_
      refine va_sld C.1 C.2.1 hX hbl hbA hS b2 (kd kL_law_10 49 rfl) ?_
      rw [t2]
      refine la_V (k := 164) (As := [.int (xs (i + 1)), .int (xs (i + 2))]) (rest := [.int r]) (n := 2) C hP hS hAd rfl (Nat.le_of_ble_eq_true rfl) rfl (m_X8_water C.2.2.2.2.2.2.2.2 l e2) (fgV tw_1233 tw_1234 tw_1235 tw_75 tw_1236) hd_X8_water ⟨rfl, rfl, Nat.le_of_ble_eq_true rfl, Nat.le_of_ble_eq_true rfl⟩ rfl hl.1 rfl (Nat.le_of_ble_eq_true rfl) (kd kL_law_10 50 rfl) (Nat.le_of_ble_eq_true rfl) (Nat.le_of_ble_eq_true rfl) (fun H locs hP hS => ?_)
      refine lv_icmp_eq (tgt := 1388) C.1 C.2.1 (kd kL_law_10 51 rfl) (by decide) (fun _ => ?_) (fun z => absurd rfl z)
      refine lv_iinc (v := nI (i + 5)) (lv' := [(3, .int (nI (i + 5))), (0, .ref b), (1, .ref (Γ.1 0)), (2, .ref (Γ.1 164))]) C.1 C.2.1 (kd kL_law_16 2 rfl) hl (k := 3) rfl (law_inc i) (Nat.le_of_ble_eq_true rfl) rfl (fun ls hl => ?_)
      refine lv_goto (tgt := 18) C.1 C.2.1 (kd kL_law_16 3 rfl) (by decide) ?_
      exact ih (i + 5) hi5 (by omega) σ2 hLI H locs hP hS ls (lv_sub hl [1, 2, 3, 0] rfl)
    have z25 : ¬ o.toInt = 25 := fi_ne q25 (by decide)
    by_cases q26 : o = 26
    · refine lv_tableIn (tgt := 996) C.1 C.2.1 (kd kL_law_0 21 rfl) (by rw [q26] <;> decide) (by rw [q26] <;> decide) (by rw [q26] <;> rfl) (by decide) ?_
      obtain ⟨r, σ1, σ2, e1, e2, hLI⟩ := h26 σ (xs (i + 1)) (xs (i + 2)) (xs (i + 3)) hLI
      refine lv_aload_n C.1 C.2.1 (kd kL_law_10 54 rfl) rfl (lv_at hl 1 rfl) ?_
      refine lv_aload_n C.1 C.2.1 (kd kL_law_10 55 rfl) rfl (lv_at hl 0 rfl) ?_
      refine lv_iload_n C.1 C.2.1 (kd kL_law_10 56 rfl) rfl (lv_at hl 3 rfl) ?_
      refine lv_iconst (v := 1) C.1 C.2.1 (kd kL_law_10 57 rfl) (by decide) ?_
      refine lv_iadd C.1 C.2.1 (kd kL_law_10 58 rfl) ?_
      refine va_sld C.1 C.2.1 hX hbl hbA hS b1 (kd kL_law_10 59 rfl) ?_
      rw [t1]
      refine lv_aload_n C.1 C.2.1 (kd kL_law_11 0 rfl) rfl (lv_at hl 0 rfl) ?_
      refine lv_iload_n C.1 C.2.1 (kd kL_law_11 1 rfl) rfl (lv_at hl 3 rfl) ?_
      refine lv_iconst (v := 2) C.1 C.2.1 (kd kL_law_11 2 rfl) (by decide) ?_
      refine lv_iadd C.1 C.2.1 (kd kL_law_11 3 rfl) ?_
      refine va_sld C.1 C.2.1 hX hbl hbA hS b2 (kd kL_law_11 4 rfl) ?_
      rw [t2]
      refine lv_aload_n C.1 C.2.1 (kd kL_law_11 5 rfl) rfl (lv_at hl 0 rfl) ?_
      refine lv_iload_n C.1 C.2.1 (kd kL_law_11 6 rfl) rfl (lv_at hl 3 rfl) ?_
      refine lv_iconst (v := 3) C.1 C.2.1 (kd kL_law_11 7 rfl) (by decide) ?_
      refine lv_iadd C.1 C.2.1 (kd kL_law_11 8 rfl) ?_
      refine va_sld C.1 C.2.1 hX hbl hbA hS b3 (kd kL_law_11 9 rfl) ?_
      rw [t3]
      refine la_V (k := 0) (As := [.int (xs (i + 1)), .int (xs (i + 2)), .int (xs (i + 3))]) (rest := []) (n := 3) C hP hS hAd rfl (Nat.le_of_ble_eq_true rfl) rfl (m_X7_firstTime C.2.2.2.2.2.2.2.2 l e1) (fgV tw_707 tw_708 tw_709 tw_67 tw_710) hd_X7_firstTime ⟨rfl, rfl, Nat.le_of_ble_eq_true rfl, Nat.le_of_ble_eq_true rfl⟩ rfl hl.1 rfl (Nat.le_of_ble_eq_true rfl) (kd kL_law_11 10 rfl) (Nat.le_of_ble_eq_true rfl) (Nat.le_of_ble_eq_true rfl) (fun H locs hP hS => ?_)
      refine lv_aload_n C.1 C.2.1 (kd kL_law_11 11 rfl) rfl (lv_at hl 2 rfl) ?_
      refine lv_aload_n C.1 C.2.1 (kd kL_law_11 12 rfl) rfl (lv_at hl 0 rfl) ?_
      refine lv_iload_n C.1 C.2.1 (kd kL_law_11 13 rfl) rfl (lv_at hl 3 rfl) ?_
      refine lv_iconst (v := 1) C.1 C.2.1 (kd kL_law_11 14 rfl) (by decide) ?_
      refine lv_iadd C.1 C.2.1 (kd kL_law_11 15 rfl) ?_
      refine va_sld C.1 C.2.1 hX hbl hbA hS b1 (kd kL_law_11 16 rfl) ?_
      rw [t1]
      refine lv_aload_n C.1 C.2.1 (kd kL_law_11 17 rfl) rfl (lv_at hl 0 rfl) ?_
      refine lv_iload_n C.1 C.2.1 (kd kL_law_11 18 rfl) rfl (lv_at hl 3 rfl) ?_
      refine lv_iconst (v := 2) C.1 C.2.1 (kd kL_law_11 19 rfl) (by decide) ?_
      refine lv_iadd C.1 C.2.1 (kd kL_law_11 20 rfl) ?_
      refine va_sld C.1 C.2.1 hX hbl hbA hS b2 (kd kL_law_11 21 rfl) ?_
      rw [t2]
      refine lv_aload_n C.1 C.2.1 (kd kL_law_11 22 rfl) rfl (lv_at hl 0 rfl) ?_
      refine lv_iload_n C.1 C.2.1 (kd kL_law_11 23 rfl) rfl (lv_at hl 3 rfl) ?_
      refine lv_iconst (v := 3) C.1 C.2.1 (kd kL_law_11 24 rfl) (by decide) ?_
      refine lv_iadd C.1 C.2.1 (kd kL_law_11 25 rfl) ?_
      refine va_sld C.1 C.2.1 hX hbl hbA hS b3 (kd kL_law_11 26 rfl) ?_
      rw [t3]
      refine la_V (k := 164) (As := [.int (xs (i + 1)), .int (xs (i + 2)), .int (xs (i + 3))]) (rest := [.int r]) (n := 3) C hP hS hAd rfl (Nat.le_of_ble_eq_true rfl) rfl (m_X8_firstTime C.2.2.2.2.2.2.2.2 l e2) (fgV tw_1237 tw_1238 tw_1239 tw_75 tw_1240) hd_X8_firstTime ⟨rfl, rfl, Nat.le_of_ble_eq_true rfl, Nat.le_of_ble_eq_true rfl⟩ rfl hl.1 rfl (Nat.le_of_ble_eq_true rfl) (kd kL_law_11 27 rfl) (Nat.le_of_ble_eq_true rfl) (Nat.le_of_ble_eq_true rfl) (fun H locs hP hS => ?_)
      refine lv_icmp_eq (tgt := 1388) C.1 C.2.1 (kd kL_law_11 28 rfl) (by decide) (fun _ => ?_) (fun z => absurd rfl z)
      refine lv_iinc (v := nI (i + 5)) (lv' := [(3, .int (nI (i + 5))), (0, .ref b), (1, .ref (Γ.1 0)), (2, .ref (Γ.1 164))]) C.1 C.2.1 (kd kL_law_16 2 rfl) hl (k := 3) rfl (law_inc i) (Nat.le_of_ble_eq_true rfl) rfl (fun ls hl => ?_)
      refine lv_goto (tgt := 18) C.1 C.2.1 (kd kL_law_16 3 rfl) (by decide) ?_
      exact ih (i + 5) hi5 (by omega) σ2 hLI H locs hP hS ls (lv_sub hl [1, 2, 3, 0] rfl)
    have z26 : ¬ o.toInt = 26 := fi_ne q26 (by decide)
    by_cases q27 : o = 27
    · refine lv_tableIn (tgt := 1039) C.1 C.2.1 (kd kL_law_0 21 rfl) (by rw [q27] <;> decide) (by rw [q27] <;> decide) (by rw [q27] <;> rfl) (by decide) ?_
      obtain ⟨r, σ1, σ2, e1, e2, hLI⟩ := h27 σ (xs (i + 1)) (xs (i + 2)) hLI
      refine lv_aload_n C.1 C.2.1 (kd kL_law_11 31 rfl) rfl (lv_at hl 1 rfl) ?_
      refine lv_aload_n C.1 C.2.1 (kd kL_law_11 32 rfl) rfl (lv_at hl 0 rfl) ?_
      refine lv_iload_n C.1 C.2.1 (kd kL_law_11 33 rfl) rfl (lv_at hl 3 rfl) ?_
      refine lv_iconst (v := 1) C.1 C.2.1 (kd kL_law_11 34 rfl) (by decide) ?_
      refine lv_iadd C.1 C.2.1 (kd kL_law_11 35 rfl) ?_
      refine va_sld C.1 C.2.1 hX hbl hbA hS b1 (kd kL_law_11 36 rfl) ?_
      rw [t1]
      refine lv_aload_n C.1 C.2.1 (kd kL_law_11 37 rfl) rfl (lv_at hl 0 rfl) ?_
      refine lv_iload_n C.1 C.2.1 (kd kL_law_11 38 rfl) rfl (lv_at hl 3 rfl) ?_
      refine lv_iconst (v := 2) C.1 C.2.1 (kd kL_law_11 39 rfl) (by decide) ?_
      refine lv_iadd C.1 C.2.1 (kd kL_law_11 40 rfl) ?_
      refine va_sld C.1 C.2.1 hX hbl hbA hS b2 (kd kL_law_11 41 rfl) ?_
      rw [t2]
      refine la_V (k := 0) (As := [.int (xs (i + 1)), .int (xs (i + 2))]) (rest := []) (n := 2) C hP hS hAd rfl (Nat.le_of_ble_eq_true rfl) rfl (m_X7_laneLeft C.2.2.2.2.2.2.2.2 l e1) (fgV tw_712 tw_713 tw_714 tw_67 tw_715) hd_X7_laneLeft ⟨rfl, rfl, Nat.le_of_ble_eq_true rfl, Nat.le_of_ble_eq_true rfl⟩ rfl hl.1 rfl (Nat.le_of_ble_eq_true rfl) (kd kL_law_11 42 rfl) (Nat.le_of_ble_eq_true rfl) (Nat.le_of_ble_eq_true rfl) (fun H locs hP hS => ?_)
      refine lv_aload_n C.1 C.2.1 (kd kL_law_11 43 rfl) rfl (lv_at hl 2 rfl) ?_
      refine lv_aload_n C.1 C.2.1 (kd kL_law_11 44 rfl) rfl (lv_at hl 0 rfl) ?_
      refine lv_iload_n C.1 C.2.1 (kd kL_law_11 45 rfl) rfl (lv_at hl 3 rfl) ?_
      refine lv_iconst (v := 1) C.1 C.2.1 (kd kL_law_11 46 rfl) (by decide) ?_
      refine lv_iadd C.1 C.2.1 (kd kL_law_11 47 rfl) ?_
      refine va_sld C.1 C.2.1 hX hbl hbA hS b1 (kd kL_law_11 48 rfl) ?_
      rw [t1]
      refine lv_aload_n C.1 C.2.1 (kd kL_law_11 49 rfl) rfl (lv_at hl 0 rfl) ?_
      refine lv_iload_n C.1 C.2.1 (kd kL_law_11 50 rfl) rfl (lv_at hl 3 rfl) ?_
      refine lv_iconst (v := 2) C.1 C.2.1 (kd kL_law_11 51 rfl) (by decide) ?_
      refine lv_iadd C.1 C.2.1 (kd kL_law_11 52 rfl) ?_
      refine va_sld C.1 C.2.1 hX hbl hbA hS b2 (kd kL_law_11 53 rfl) ?_
      rw [t2]
      refine la_V (k := 164) (As := [.int (xs (i + 1)), .int (xs (i + 2))]) (rest := [.int r]) (n := 2) C hP hS hAd rfl (Nat.le_of_ble_eq_true rfl) rfl (m_X8_laneLeft C.2.2.2.2.2.2.2.2 l e2) (fgV tw_1241 tw_1242 tw_1243 tw_75 tw_1244) hd_X8_laneLeft ⟨rfl, rfl, Nat.le_of_ble_eq_true rfl, Nat.le_of_ble_eq_true rfl⟩ rfl hl.1 rfl (Nat.le_of_ble_eq_true rfl) (kd kL_law_11 54 rfl) (Nat.le_of_ble_eq_true rfl) (Nat.le_of_ble_eq_true rfl) (fun H locs hP hS => ?_)
      refine lv_icmp_eq (tgt := 1388) C.1 C.2.1 (kd kL_law_11 55 rfl) (by decide) (fun _ => ?_) (fun z => absurd rfl z)
      refine lv_iinc (v := nI (i + 5)) (lv' := [(3, .int (nI (i + 5))), (0, .ref b), (1, .ref (Γ.1 0)), (2, .ref (Γ.1 164))]) C.1 C.2.1 (kd kL_law_16 2 rfl) hl (k := 3) rfl (law_inc i) (Nat.le_of_ble_eq_true rfl) rfl (fun ls hl => ?_)
      refine lv_goto (tgt := 18) C.1 C.2.1 (kd kL_law_16 3 rfl) (by decide) ?_
      exact ih (i + 5) hi5 (by omega) σ2 hLI H locs hP hS ls (lv_sub hl [1, 2, 3, 0] rfl)
    have z27 : ¬ o.toInt = 27 := fi_ne q27 (by decide)
    by_cases q28 : o = 28
    · refine lv_tableIn (tgt := 1072) C.1 C.2.1 (kd kL_law_0 21 rfl) (by rw [q28] <;> decide) (by rw [q28] <;> decide) (by rw [q28] <;> rfl) (by decide) ?_
      obtain ⟨r, σ1, σ2, e1, e2, hLI⟩ := h28 σ (xs (i + 1)) (xs (i + 2)) (xs (i + 3)) hLI
      refine lv_aload_n C.1 C.2.1 (kd kL_law_11 58 rfl) rfl (lv_at hl 1 rfl) ?_
      refine lv_aload_n C.1 C.2.1 (kd kL_law_11 59 rfl) rfl (lv_at hl 0 rfl) ?_
      refine lv_iload_n C.1 C.2.1 (kd kL_law_12 0 rfl) rfl (lv_at hl 3 rfl) ?_
      refine lv_iconst (v := 1) C.1 C.2.1 (kd kL_law_12 1 rfl) (by decide) ?_
      refine lv_iadd C.1 C.2.1 (kd kL_law_12 2 rfl) ?_
      refine va_sld C.1 C.2.1 hX hbl hbA hS b1 (kd kL_law_12 3 rfl) ?_
      rw [t1]
      refine lv_aload_n C.1 C.2.1 (kd kL_law_12 4 rfl) rfl (lv_at hl 0 rfl) ?_
      refine lv_iload_n C.1 C.2.1 (kd kL_law_12 5 rfl) rfl (lv_at hl 3 rfl) ?_
      refine lv_iconst (v := 2) C.1 C.2.1 (kd kL_law_12 6 rfl) (by decide) ?_
      refine lv_iadd C.1 C.2.1 (kd kL_law_12 7 rfl) ?_
      refine va_sld C.1 C.2.1 hX hbl hbA hS b2 (kd kL_law_12 8 rfl) ?_
      rw [t2]
      refine lv_aload_n C.1 C.2.1 (kd kL_law_12 9 rfl) rfl (lv_at hl 0 rfl) ?_
      refine lv_iload_n C.1 C.2.1 (kd kL_law_12 10 rfl) rfl (lv_at hl 3 rfl) ?_
      refine lv_iconst (v := 3) C.1 C.2.1 (kd kL_law_12 11 rfl) (by decide) ?_
      refine lv_iadd C.1 C.2.1 (kd kL_law_12 12 rfl) ?_
      refine va_sld C.1 C.2.1 hX hbl hbA hS b3 (kd kL_law_12 13 rfl) ?_
      rw [t3]
      refine la_V (k := 0) (As := [.int (xs (i + 1)), .int (xs (i + 2)), .int (xs (i + 3))]) (rest := []) (n := 3) C hP hS hAd rfl (Nat.le_of_ble_eq_true rfl) rfl (m_X7_laneVehicle C.2.2.2.2.2.2.2.2 l e1) (fgV tw_722 tw_723 tw_724 tw_67 tw_725) hd_X7_laneVehicle ⟨rfl, rfl, Nat.le_of_ble_eq_true rfl, Nat.le_of_ble_eq_true rfl⟩ rfl hl.1 rfl (Nat.le_of_ble_eq_true rfl) (kd kL_law_12 14 rfl) (Nat.le_of_ble_eq_true rfl) (Nat.le_of_ble_eq_true rfl) (fun H locs hP hS => ?_)
      refine lv_aload_n C.1 C.2.1 (kd kL_law_12 15 rfl) rfl (lv_at hl 2 rfl) ?_
      refine lv_aload_n C.1 C.2.1 (kd kL_law_12 16 rfl) rfl (lv_at hl 0 rfl) ?_
      refine lv_iload_n C.1 C.2.1 (kd kL_law_12 17 rfl) rfl (lv_at hl 3 rfl) ?_
      refine lv_iconst (v := 1) C.1 C.2.1 (kd kL_law_12 18 rfl) (by decide) ?_
      refine lv_iadd C.1 C.2.1 (kd kL_law_12 19 rfl) ?_
      refine va_sld C.1 C.2.1 hX hbl hbA hS b1 (kd kL_law_12 20 rfl) ?_
      rw [t1]
      refine lv_aload_n C.1 C.2.1 (kd kL_law_12 21 rfl) rfl (lv_at hl 0 rfl) ?_
      refine lv_iload_n C.1 C.2.1 (kd kL_law_12 22 rfl) rfl (lv_at hl 3 rfl) ?_
      refine lv_iconst (v := 2) C.1 C.2.1 (kd kL_law_12 23 rfl) (by decide) ?_
      refine lv_iadd C.1 C.2.1 (kd kL_law_12 24 rfl) ?_
      refine va_sld C.1 C.2.1 hX hbl hbA hS b2 (kd kL_law_12 25 rfl) ?_
      rw [t2]
      refine lv_aload_n C.1 C.2.1 (kd kL_law_12 26 rfl) rfl (lv_at hl 0 rfl) ?_
      refine lv_iload_n C.1 C.2.1 (kd kL_law_12 27 rfl) rfl (lv_at hl 3 rfl) ?_
      refine lv_iconst (v := 3) C.1 C.2.1 (kd kL_law_12 28 rfl) (by decide) ?_
      refine lv_iadd C.1 C.2.1 (kd kL_law_12 29 rfl) ?_
      refine va_sld C.1 C.2.1 hX hbl hbA hS b3 (kd kL_law_12 30 rfl) ?_
      rw [t3]
      refine la_V (k := 164) (As := [.int (xs (i + 1)), .int (xs (i + 2)), .int (xs (i + 3))]) (rest := [.int r]) (n := 3) C hP hS hAd rfl (Nat.le_of_ble_eq_true rfl) rfl (m_X8_laneVehicle C.2.2.2.2.2.2.2.2 l e2) (fgV tw_1249 tw_1250 tw_1251 tw_75 tw_1252) hd_X8_laneVehicle ⟨rfl, rfl, Nat.le_of_ble_eq_true rfl, Nat.le_of_ble_eq_true rfl⟩ rfl hl.1 rfl (Nat.le_of_ble_eq_true rfl) (kd kL_law_12 31 rfl) (Nat.le_of_ble_eq_true rfl) (Nat.le_of_ble_eq_true rfl) (fun H locs hP hS => ?_)
      refine lv_icmp_eq (tgt := 1388) C.1 C.2.1 (kd kL_law_12 32 rfl) (by decide) (fun _ => ?_) (fun z => absurd rfl z)
      refine lv_iinc (v := nI (i + 5)) (lv' := [(3, .int (nI (i + 5))), (0, .ref b), (1, .ref (Γ.1 0)), (2, .ref (Γ.1 164))]) C.1 C.2.1 (kd kL_law_16 2 rfl) hl (k := 3) rfl (law_inc i) (Nat.le_of_ble_eq_true rfl) rfl (fun ls hl => ?_)
      refine lv_goto (tgt := 18) C.1 C.2.1 (kd kL_law_16 3 rfl) (by decide) ?_
      exact ih (i + 5) hi5 (by omega) σ2 hLI H locs hP hS ls (lv_sub hl [1, 2, 3, 0] rfl)
    have z28 : ¬ o.toInt = 28 := fi_ne q28 (by decide)
    by_cases q29 : o = 29
    · refine lv_tableIn (tgt := 1115) C.1 C.2.1 (kd kL_law_0 21 rfl) (by rw [q29] <;> decide) (by rw [q29] <;> decide) (by rw [q29] <;> rfl) (by decide) ?_
      obtain ⟨r, σ1, σ2, e1, e2, hLI⟩ := h29 σ (xs (i + 1)) (xs (i + 2)) hLI
      refine lv_aload_n C.1 C.2.1 (kd kL_law_12 35 rfl) rfl (lv_at hl 1 rfl) ?_
      refine lv_aload_n C.1 C.2.1 (kd kL_law_12 36 rfl) rfl (lv_at hl 0 rfl) ?_
      refine lv_iload_n C.1 C.2.1 (kd kL_law_12 37 rfl) rfl (lv_at hl 3 rfl) ?_
      refine lv_iconst (v := 1) C.1 C.2.1 (kd kL_law_12 38 rfl) (by decide) ?_
      refine lv_iadd C.1 C.2.1 (kd kL_law_12 39 rfl) ?_
      refine va_sld C.1 C.2.1 hX hbl hbA hS b1 (kd kL_law_12 40 rfl) ?_
      rw [t1]
      refine lv_aload_n C.1 C.2.1 (kd kL_law_12 41 rfl) rfl (lv_at hl 0 rfl) ?_
      refine lv_iload_n C.1 C.2.1 (kd kL_law_12 42 rfl) rfl (lv_at hl 3 rfl) ?_
      refine lv_iconst (v := 2) C.1 C.2.1 (kd kL_law_12 43 rfl) (by decide) ?_
      refine lv_iadd C.1 C.2.1 (kd kL_law_12 44 rfl) ?_
      refine va_sld C.1 C.2.1 hX hbl hbA hS b2 (kd kL_law_12 45 rfl) ?_
      rw [t2]
      refine la_V (k := 0) (As := [.int (xs (i + 1)), .int (xs (i + 2))]) (rest := []) (n := 2) C hP hS hAd rfl (Nat.le_of_ble_eq_true rfl) rfl (m_X7_leaves C.2.2.2.2.2.2.2.2 l e1) (fgV tw_730 tw_731 tw_732 tw_67 tw_733) hd_X7_leaves ⟨rfl, rfl, Nat.le_of_ble_eq_true rfl, Nat.le_of_ble_eq_true rfl⟩ rfl hl.1 rfl (Nat.le_of_ble_eq_true rfl) (kd kL_law_12 46 rfl) (Nat.le_of_ble_eq_true rfl) (Nat.le_of_ble_eq_true rfl) (fun H locs hP hS => ?_)
      refine lv_aload_n C.1 C.2.1 (kd kL_law_12 47 rfl) rfl (lv_at hl 2 rfl) ?_
      refine lv_aload_n C.1 C.2.1 (kd kL_law_12 48 rfl) rfl (lv_at hl 0 rfl) ?_
      refine lv_iload_n C.1 C.2.1 (kd kL_law_12 49 rfl) rfl (lv_at hl 3 rfl) ?_
      refine lv_iconst (v := 1) C.1 C.2.1 (kd kL_law_12 50 rfl) (by decide) ?_
      refine lv_iadd C.1 C.2.1 (kd kL_law_12 51 rfl) ?_
      refine va_sld C.1 C.2.1 hX hbl hbA hS b1 (kd kL_law_12 52 rfl) ?_
      rw [t1]
      refine lv_aload_n C.1 C.2.1 (kd kL_law_12 53 rfl) rfl (lv_at hl 0 rfl) ?_
      refine lv_iload_n C.1 C.2.1 (kd kL_law_12 54 rfl) rfl (lv_at hl 3 rfl) ?_
      refine lv_iconst (v := 2) C.1 C.2.1 (kd kL_law_12 55 rfl) (by decide) ?_
      refine lv_iadd C.1 C.2.1 (kd kL_law_12 56 rfl) ?_
      refine va_sld C.1 C.2.1 hX hbl hbA hS b2 (kd kL_law_12 57 rfl) ?_
      rw [t2]
      refine la_V (k := 164) (As := [.int (xs (i + 1)), .int (xs (i + 2))]) (rest := [.int r]) (n := 2) C hP hS hAd rfl (Nat.le_of_ble_eq_true rfl) rfl (m_X8_leaves C.2.2.2.2.2.2.2.2 l e2) (fgV tw_1253 tw_1254 tw_1255 tw_75 tw_1256) hd_X8_leaves ⟨rfl, rfl, Nat.le_of_ble_eq_true rfl, Nat.le_of_ble_eq_true rfl⟩ rfl hl.1 rfl (Nat.le_of_ble_eq_true rfl) (kd kL_law_12 58 rfl) (Nat.le_of_ble_eq_true rfl) (Nat.le_of_ble_eq_true rfl) (fun H locs hP hS => ?_)
      refine lv_icmp_eq (tgt := 1388) C.1 C.2.1 (kd kL_law_12 59 rfl) (by decide) (fun _ => ?_) (fun z => absurd rfl z)
      refine lv_iinc (v := nI (i + 5)) (lv' := [(3, .int (nI (i + 5))), (0, .ref b), (1, .ref (Γ.1 0)), (2, .ref (Γ.1 164))]) C.1 C.2.1 (kd kL_law_16 2 rfl) hl (k := 3) rfl (law_inc i) (Nat.le_of_ble_eq_true rfl) rfl (fun ls hl => ?_)
      refine lv_goto (tgt := 18) C.1 C.2.1 (kd kL_law_16 3 rfl) (by decide) ?_
      exact ih (i + 5) hi5 (by omega) σ2 hLI H locs hP hS ls (lv_sub hl [1, 2, 3, 0] rfl)
    have z29 : ¬ o.toInt = 29 := fi_ne q29 (by decide)
    by_cases q30 : o = 30
    · refine lv_tableIn (tgt := 1148) C.1 C.2.1 (kd kL_law_0 21 rfl) (by rw [q30] <;> decide) (by rw [q30] <;> decide) (by rw [q30] <;> rfl) (by decide) ?_
      obtain ⟨r, σ1, σ2, e1, e2, hLI⟩ := h30 σ  hLI
      refine lv_aload_n C.1 C.2.1 (kd kL_law_13 2 rfl) rfl (lv_at hl 1 rfl) ?_
      refine la_V (k := 0) (As := []) (rest := []) (n := 0) C hP hS hAd rfl (Nat.le_of_ble_eq_true rfl) rfl (m_X7_isOrderly C.2.2.2.2.2.2.2.2 l e1) (fgV tw_747 tw_748 tw_749 tw_67 tw_750) hd_X7_isOrderly ⟨rfl, rfl, Nat.le_of_ble_eq_true rfl, Nat.le_of_ble_eq_true rfl⟩ rfl hl.1 rfl (Nat.le_of_ble_eq_true rfl) (kd kL_law_13 3 rfl) (Nat.le_of_ble_eq_true rfl) (Nat.le_of_ble_eq_true rfl) (fun H locs hP hS => ?_)
      refine lv_aload_n C.1 C.2.1 (kd kL_law_13 4 rfl) rfl (lv_at hl 2 rfl) ?_
      refine la_V (k := 164) (As := []) (rest := [.int r]) (n := 0) C hP hS hAd rfl (Nat.le_of_ble_eq_true rfl) rfl (m_X8_isOrderly C.2.2.2.2.2.2.2.2 l e2) (fgV tw_1261 tw_1262 tw_1263 tw_75 tw_1264) hd_X8_isOrderly ⟨rfl, rfl, Nat.le_of_ble_eq_true rfl, Nat.le_of_ble_eq_true rfl⟩ rfl hl.1 rfl (Nat.le_of_ble_eq_true rfl) (kd kL_law_13 5 rfl) (Nat.le_of_ble_eq_true rfl) (Nat.le_of_ble_eq_true rfl) (fun H locs hP hS => ?_)
      refine lv_icmp_eq (tgt := 1388) C.1 C.2.1 (kd kL_law_13 6 rfl) (by decide) (fun _ => ?_) (fun z => absurd rfl z)
      refine lv_iinc (v := nI (i + 5)) (lv' := [(3, .int (nI (i + 5))), (0, .ref b), (1, .ref (Γ.1 0)), (2, .ref (Γ.1 164))]) C.1 C.2.1 (kd kL_law_16 2 rfl) hl (k := 3) rfl (law_inc i) (Nat.le_of_ble_eq_true rfl) rfl (fun ls hl => ?_)
      refine lv_goto (tgt := 18) C.1 C.2.1 (kd kL_law_16 3 rfl) (by decide) ?_
      exact ih (i + 5) hi5 (by omega) σ2 hLI H locs hP hS ls (lv_sub hl [1, 2, 3, 0] rfl)
    have z30 : ¬ o.toInt = 30 := fi_ne q30 (by decide)
    by_cases q31 : o = 31
    · refine lv_tableIn (tgt := 1161) C.1 C.2.1 (kd kL_law_0 21 rfl) (by rw [q31] <;> decide) (by rw [q31] <;> decide) (by rw [q31] <;> rfl) (by decide) ?_
      obtain ⟨r, σ1, σ2, e1, e2, hLI⟩ := h31 σ (xs (i + 1)) hLI
      refine lv_aload_n C.1 C.2.1 (kd kL_law_13 9 rfl) rfl (lv_at hl 1 rfl) ?_
      refine lv_aload_n C.1 C.2.1 (kd kL_law_13 10 rfl) rfl (lv_at hl 0 rfl) ?_
      refine lv_iload_n C.1 C.2.1 (kd kL_law_13 11 rfl) rfl (lv_at hl 3 rfl) ?_
      refine lv_iconst (v := 1) C.1 C.2.1 (kd kL_law_13 12 rfl) (by decide) ?_
      refine lv_iadd C.1 C.2.1 (kd kL_law_13 13 rfl) ?_
      refine va_sld C.1 C.2.1 hX hbl hbA hS b1 (kd kL_law_13 14 rfl) ?_
      rw [t1]
      refine la_V (k := 0) (As := [.int (xs (i + 1))]) (rest := []) (n := 1) C hP hS hAd rfl (Nat.le_of_ble_eq_true rfl) rfl (m_X7_account C.2.2.2.2.2.2.2.2 l e1) (fgV tw_761 tw_762 tw_763 tw_67 tw_764) hd_X7_account ⟨rfl, rfl, Nat.le_of_ble_eq_true rfl, Nat.le_of_ble_eq_true rfl⟩ rfl hl.1 rfl (Nat.le_of_ble_eq_true rfl) (kd kL_law_13 15 rfl) (Nat.le_of_ble_eq_true rfl) (Nat.le_of_ble_eq_true rfl) (fun H locs hP hS => ?_)
      refine lv_aload_n C.1 C.2.1 (kd kL_law_13 16 rfl) rfl (lv_at hl 2 rfl) ?_
      refine lv_aload_n C.1 C.2.1 (kd kL_law_13 17 rfl) rfl (lv_at hl 0 rfl) ?_
      refine lv_iload_n C.1 C.2.1 (kd kL_law_13 18 rfl) rfl (lv_at hl 3 rfl) ?_
      refine lv_iconst (v := 1) C.1 C.2.1 (kd kL_law_13 19 rfl) (by decide) ?_
      refine lv_iadd C.1 C.2.1 (kd kL_law_13 20 rfl) ?_
      refine va_sld C.1 C.2.1 hX hbl hbA hS b1 (kd kL_law_13 21 rfl) ?_
      rw [t1]
      refine la_V (k := 164) (As := [.int (xs (i + 1))]) (rest := [.int r]) (n := 1) C hP hS hAd rfl (Nat.le_of_ble_eq_true rfl) rfl (m_X8_account C.2.2.2.2.2.2.2.2 l e2) (fgV tw_1265 tw_1266 tw_1267 tw_75 tw_1268) hd_X8_account ⟨rfl, rfl, Nat.le_of_ble_eq_true rfl, Nat.le_of_ble_eq_true rfl⟩ rfl hl.1 rfl (Nat.le_of_ble_eq_true rfl) (kd kL_law_13 22 rfl) (Nat.le_of_ble_eq_true rfl) (Nat.le_of_ble_eq_true rfl) (fun H locs hP hS => ?_)
      refine lv_icmp_eq (tgt := 1388) C.1 C.2.1 (kd kL_law_13 23 rfl) (by decide) (fun _ => ?_) (fun z => absurd rfl z)
      refine lv_iinc (v := nI (i + 5)) (lv' := [(3, .int (nI (i + 5))), (0, .ref b), (1, .ref (Γ.1 0)), (2, .ref (Γ.1 164))]) C.1 C.2.1 (kd kL_law_16 2 rfl) hl (k := 3) rfl (law_inc i) (Nat.le_of_ble_eq_true rfl) rfl (fun ls hl => ?_)
      refine lv_goto (tgt := 18) C.1 C.2.1 (kd kL_law_16 3 rfl) (by decide) ?_
      exact ih (i + 5) hi5 (by omega) σ2 hLI H locs hP hS ls (lv_sub hl [1, 2, 3, 0] rfl)
    have z31 : ¬ o.toInt = 31 := fi_ne q31 (by decide)
    by_cases q32 : o = 32
    · refine lv_tableIn (tgt := 1184) C.1 C.2.1 (kd kL_law_0 21 rfl) (by rw [q32] <;> decide) (by rw [q32] <;> decide) (by rw [q32] <;> rfl) (by decide) ?_
      obtain ⟨r, σ1, σ2, e1, e2, hLI⟩ := h32 σ  hLI
      refine lv_aload_n C.1 C.2.1 (kd kL_law_13 26 rfl) rfl (lv_at hl 1 rfl) ?_
      refine la_V (k := 0) (As := []) (rest := []) (n := 0) C hP hS hAd rfl (Nat.le_of_ble_eq_true rfl) rfl (m_X7_loadBits C.2.2.2.2.2.2.2.2 l e1) (fgV tw_795 tw_796 tw_797 tw_67 tw_798) hd_X7_loadBits ⟨rfl, rfl, Nat.le_of_ble_eq_true rfl, Nat.le_of_ble_eq_true rfl⟩ rfl hl.1 rfl (Nat.le_of_ble_eq_true rfl) (kd kL_law_13 27 rfl) (Nat.le_of_ble_eq_true rfl) (Nat.le_of_ble_eq_true rfl) (fun H locs hP hS => ?_)
      refine lv_aload_n C.1 C.2.1 (kd kL_law_13 28 rfl) rfl (lv_at hl 2 rfl) ?_
      refine la_V (k := 164) (As := []) (rest := [.int r]) (n := 0) C hP hS hAd rfl (Nat.le_of_ble_eq_true rfl) rfl (m_X8_loadBits C.2.2.2.2.2.2.2.2 l e2) (fgV tw_1285 tw_1286 tw_1287 tw_75 tw_1288) hd_X8_loadBits ⟨rfl, rfl, Nat.le_of_ble_eq_true rfl, Nat.le_of_ble_eq_true rfl⟩ rfl hl.1 rfl (Nat.le_of_ble_eq_true rfl) (kd kL_law_13 29 rfl) (Nat.le_of_ble_eq_true rfl) (Nat.le_of_ble_eq_true rfl) (fun H locs hP hS => ?_)
      refine lv_icmp_eq (tgt := 1388) C.1 C.2.1 (kd kL_law_13 30 rfl) (by decide) (fun _ => ?_) (fun z => absurd rfl z)
      refine lv_iinc (v := nI (i + 5)) (lv' := [(3, .int (nI (i + 5))), (0, .ref b), (1, .ref (Γ.1 0)), (2, .ref (Γ.1 164))]) C.1 C.2.1 (kd kL_law_16 2 rfl) hl (k := 3) rfl (law_inc i) (Nat.le_of_ble_eq_true rfl) rfl (fun ls hl => ?_)
      refine lv_goto (tgt := 18) C.1 C.2.1 (kd kL_law_16 3 rfl) (by decide) ?_
      exact ih (i + 5) hi5 (by omega) σ2 hLI H locs hP hS ls (lv_sub hl [1, 2, 3, 0] rfl)
    have z32 : ¬ o.toInt = 32 := fi_ne q32 (by decide)
    by_cases q33 : o = 33
    · refine lv_tableIn (tgt := 1197) C.1 C.2.1 (kd kL_law_0 21 rfl) (by rw [q33] <;> decide) (by rw [q33] <;> decide) (by rw [q33] <;> rfl) (by decide) ?_
      obtain ⟨r, σ1, σ2, e1, e2, hLI⟩ := h33 σ (xs (i + 1)) hLI
      refine lv_aload_n C.1 C.2.1 (kd kL_law_13 33 rfl) rfl (lv_at hl 1 rfl) ?_
      refine lv_aload_n C.1 C.2.1 (kd kL_law_13 34 rfl) rfl (lv_at hl 0 rfl) ?_
      refine lv_iload_n C.1 C.2.1 (kd kL_law_13 35 rfl) rfl (lv_at hl 3 rfl) ?_
      refine lv_iconst (v := 1) C.1 C.2.1 (kd kL_law_13 36 rfl) (by decide) ?_
      refine lv_iadd C.1 C.2.1 (kd kL_law_13 37 rfl) ?_
      refine va_sld C.1 C.2.1 hX hbl hbA hS b1 (kd kL_law_13 38 rfl) ?_
      rw [t1]
      refine la_V (k := 0) (As := [.int (xs (i + 1))]) (rest := []) (n := 1) C hP hS hAd rfl (Nat.le_of_ble_eq_true rfl) rfl (m_X7_sailingIf C.2.2.2.2.2.2.2.2 l e1) (fgV tw_799 tw_800 tw_801 tw_67 tw_802) hd_X7_sailingIf ⟨rfl, rfl, Nat.le_of_ble_eq_true rfl, Nat.le_of_ble_eq_true rfl⟩ rfl hl.1 rfl (Nat.le_of_ble_eq_true rfl) (kd kL_law_13 39 rfl) (Nat.le_of_ble_eq_true rfl) (Nat.le_of_ble_eq_true rfl) (fun H locs hP hS => ?_)
      refine lv_aload_n C.1 C.2.1 (kd kL_law_13 40 rfl) rfl (lv_at hl 2 rfl) ?_
      refine lv_aload_n C.1 C.2.1 (kd kL_law_13 41 rfl) rfl (lv_at hl 0 rfl) ?_
      refine lv_iload_n C.1 C.2.1 (kd kL_law_13 42 rfl) rfl (lv_at hl 3 rfl) ?_
      refine lv_iconst (v := 1) C.1 C.2.1 (kd kL_law_13 43 rfl) (by decide) ?_
      refine lv_iadd C.1 C.2.1 (kd kL_law_13 44 rfl) ?_
      refine va_sld C.1 C.2.1 hX hbl hbA hS b1 (kd kL_law_13 45 rfl) ?_
      rw [t1]
      refine la_V (k := 164) (As := [.int (xs (i + 1))]) (rest := [.int r]) (n := 1) C hP hS hAd rfl (Nat.le_of_ble_eq_true rfl) rfl (m_X8_sailingIf C.2.2.2.2.2.2.2.2 l e2) (fgV tw_1289 tw_1290 tw_1291 tw_75 tw_1292) hd_X8_sailingIf ⟨rfl, rfl, Nat.le_of_ble_eq_true rfl, Nat.le_of_ble_eq_true rfl⟩ rfl hl.1 rfl (Nat.le_of_ble_eq_true rfl) (kd kL_law_13 46 rfl) (Nat.le_of_ble_eq_true rfl) (Nat.le_of_ble_eq_true rfl) (fun H locs hP hS => ?_)
      refine lv_icmp_eq (tgt := 1388) C.1 C.2.1 (kd kL_law_13 47 rfl) (by decide) (fun _ => ?_) (fun z => absurd rfl z)
      refine lv_iinc (v := nI (i + 5)) (lv' := [(3, .int (nI (i + 5))), (0, .ref b), (1, .ref (Γ.1 0)), (2, .ref (Γ.1 164))]) C.1 C.2.1 (kd kL_law_16 2 rfl) hl (k := 3) rfl (law_inc i) (Nat.le_of_ble_eq_true rfl) rfl (fun ls hl => ?_)
      refine lv_goto (tgt := 18) C.1 C.2.1 (kd kL_law_16 3 rfl) (by decide) ?_
      exact ih (i + 5) hi5 (by omega) σ2 hLI H locs hP hS ls (lv_sub hl [1, 2, 3, 0] rfl)
    have z33 : ¬ o.toInt = 33 := fi_ne q33 (by decide)
    by_cases q34 : o = 34
    · refine lv_tableIn (tgt := 1220) C.1 C.2.1 (kd kL_law_0 21 rfl) (by rw [q34] <;> decide) (by rw [q34] <;> decide) (by rw [q34] <;> rfl) (by decide) ?_
      obtain ⟨r, σ1, σ2, e1, e2, hLI⟩ := h34 σ (xs (i + 1)) hLI
      refine lv_aload_n C.1 C.2.1 (kd kL_law_13 50 rfl) rfl (lv_at hl 1 rfl) ?_
      refine lv_aload_n C.1 C.2.1 (kd kL_law_13 51 rfl) rfl (lv_at hl 0 rfl) ?_
      refine lv_iload_n C.1 C.2.1 (kd kL_law_13 52 rfl) rfl (lv_at hl 3 rfl) ?_
      refine lv_iconst (v := 1) C.1 C.2.1 (kd kL_law_13 53 rfl) (by decide) ?_
      refine lv_iadd C.1 C.2.1 (kd kL_law_13 54 rfl) ?_
      refine va_sld C.1 C.2.1 hX hbl hbA hS b1 (kd kL_law_13 55 rfl) ?_
      rw [t1]
      refine la_V (k := 0) (As := [.int (xs (i + 1))]) (rest := []) (n := 1) C hP hS hAd rfl (Nat.le_of_ble_eq_true rfl) rfl (m_X7_bestBerth C.2.2.2.2.2.2.2.2 l e1) (fgV tw_803 tw_804 tw_805 tw_67 tw_806) hd_X7_bestBerth ⟨rfl, rfl, Nat.le_of_ble_eq_true rfl, Nat.le_of_ble_eq_true rfl⟩ rfl hl.1 rfl (Nat.le_of_ble_eq_true rfl) (kd kL_law_13 56 rfl) (Nat.le_of_ble_eq_true rfl) (Nat.le_of_ble_eq_true rfl) (fun H locs hP hS => ?_)
      refine lv_aload_n C.1 C.2.1 (kd kL_law_13 57 rfl) rfl (lv_at hl 2 rfl) ?_
      refine lv_aload_n C.1 C.2.1 (kd kL_law_13 58 rfl) rfl (lv_at hl 0 rfl) ?_
      refine lv_iload_n C.1 C.2.1 (kd kL_law_13 59 rfl) rfl (lv_at hl 3 rfl) ?_
      refine lv_iconst (v := 1) C.1 C.2.1 (kd kL_law_14 0 rfl) (by decide) ?_
      refine lv_iadd C.1 C.2.1 (kd kL_law_14 1 rfl) ?_
      refine va_sld C.1 C.2.1 hX hbl hbA hS b1 (kd kL_law_14 2 rfl) ?_
      rw [t1]
      refine la_V (k := 164) (As := [.int (xs (i + 1))]) (rest := [.int r]) (n := 1) C hP hS hAd rfl (Nat.le_of_ble_eq_true rfl) rfl (m_X8_bestBerth C.2.2.2.2.2.2.2.2 l e2) (fgV tw_1293 tw_1294 tw_1295 tw_75 tw_1296) hd_X8_bestBerth ⟨rfl, rfl, Nat.le_of_ble_eq_true rfl, Nat.le_of_ble_eq_true rfl⟩ rfl hl.1 rfl (Nat.le_of_ble_eq_true rfl) (kd kL_law_14 3 rfl) (Nat.le_of_ble_eq_true rfl) (Nat.le_of_ble_eq_true rfl) (fun H locs hP hS => ?_)
      refine lv_icmp_eq (tgt := 1388) C.1 C.2.1 (kd kL_law_14 4 rfl) (by decide) (fun _ => ?_) (fun z => absurd rfl z)
      refine lv_iinc (v := nI (i + 5)) (lv' := [(3, .int (nI (i + 5))), (0, .ref b), (1, .ref (Γ.1 0)), (2, .ref (Γ.1 164))]) C.1 C.2.1 (kd kL_law_16 2 rfl) hl (k := 3) rfl (law_inc i) (Nat.le_of_ble_eq_true rfl) rfl (fun ls hl => ?_)
      refine lv_goto (tgt := 18) C.1 C.2.1 (kd kL_law_16 3 rfl) (by decide) ?_
      exact ih (i + 5) hi5 (by omega) σ2 hLI H locs hP hS ls (lv_sub hl [1, 2, 3, 0] rfl)
    have z34 : ¬ o.toInt = 34 := fi_ne q34 (by decide)
    by_cases q35 : o = 35
    · refine lv_tableIn (tgt := 1243) C.1 C.2.1 (kd kL_law_0 21 rfl) (by rw [q35] <;> decide) (by rw [q35] <;> decide) (by rw [q35] <;> rfl) (by decide) ?_
      obtain ⟨r, σ1, σ2, e1, e2, hLI⟩ := h35 σ (xs (i + 1)) (xs (i + 2)) (xs (i + 3)) (xs (i + 4)) hLI
      refine lv_aload_n C.1 C.2.1 (kd kL_law_14 7 rfl) rfl (lv_at hl 1 rfl) ?_
      refine lv_aload_n C.1 C.2.1 (kd kL_law_14 8 rfl) rfl (lv_at hl 0 rfl) ?_
      refine lv_iload_n C.1 C.2.1 (kd kL_law_14 9 rfl) rfl (lv_at hl 3 rfl) ?_
      refine lv_iconst (v := 1) C.1 C.2.1 (kd kL_law_14 10 rfl) (by decide) ?_
      refine lv_iadd C.1 C.2.1 (kd kL_law_14 11 rfl) ?_
      refine va_sld C.1 C.2.1 hX hbl hbA hS b1 (kd kL_law_14 12 rfl) ?_
      rw [t1]
      refine lv_aload_n C.1 C.2.1 (kd kL_law_14 13 rfl) rfl (lv_at hl 0 rfl) ?_
      refine lv_iload_n C.1 C.2.1 (kd kL_law_14 14 rfl) rfl (lv_at hl 3 rfl) ?_
      refine lv_iconst (v := 2) C.1 C.2.1 (kd kL_law_14 15 rfl) (by decide) ?_
      refine lv_iadd C.1 C.2.1 (kd kL_law_14 16 rfl) ?_
      refine va_sld C.1 C.2.1 hX hbl hbA hS b2 (kd kL_law_14 17 rfl) ?_
      rw [t2]
      refine lv_aload_n C.1 C.2.1 (kd kL_law_14 18 rfl) rfl (lv_at hl 0 rfl) ?_
      refine lv_iload_n C.1 C.2.1 (kd kL_law_14 19 rfl) rfl (lv_at hl 3 rfl) ?_
      refine lv_iconst (v := 3) C.1 C.2.1 (kd kL_law_14 20 rfl) (by decide) ?_
      refine lv_iadd C.1 C.2.1 (kd kL_law_14 21 rfl) ?_
      refine va_sld C.1 C.2.1 hX hbl hbA hS b3 (kd kL_law_14 22 rfl) ?_
      rw [t3]
      refine lv_aload_n C.1 C.2.1 (kd kL_law_14 23 rfl) rfl (lv_at hl 0 rfl) ?_
      refine lv_iload_n C.1 C.2.1 (kd kL_law_14 24 rfl) rfl (lv_at hl 3 rfl) ?_
      refine lv_iconst (v := 4) C.1 C.2.1 (kd kL_law_14 25 rfl) (by decide) ?_
      refine lv_iadd C.1 C.2.1 (kd kL_law_14 26 rfl) ?_
      refine va_sld C.1 C.2.1 hX hbl hbA hS b4 (kd kL_law_14 27 rfl) ?_
      rw [t4]
      refine la_V (k := 0) (As := [.int (xs (i + 1)), .int (xs (i + 2)), .int (xs (i + 3)), .int (xs (i + 4))]) (rest := []) (n := 4) C hP hS hAd rfl (Nat.le_of_ble_eq_true rfl) rfl (m_X7_layDown C.2.2.2.2.2.2.2.2 l e1) (fgV tw_808 tw_809 tw_810 tw_67 tw_811) hd_X7_layDown ⟨rfl, rfl, Nat.le_of_ble_eq_true rfl, Nat.le_of_ble_eq_true rfl⟩ rfl hl.1 rfl (Nat.le_of_ble_eq_true rfl) (kd kL_law_14 28 rfl) (Nat.le_of_ble_eq_true rfl) (Nat.le_of_ble_eq_true rfl) (fun H locs hP hS => ?_)
      refine lv_aload_n C.1 C.2.1 (kd kL_law_14 29 rfl) rfl (lv_at hl 2 rfl) ?_
      refine lv_aload_n C.1 C.2.1 (kd kL_law_14 30 rfl) rfl (lv_at hl 0 rfl) ?_
      refine lv_iload_n C.1 C.2.1 (kd kL_law_14 31 rfl) rfl (lv_at hl 3 rfl) ?_
      refine lv_iconst (v := 1) C.1 C.2.1 (kd kL_law_14 32 rfl) (by decide) ?_
      refine lv_iadd C.1 C.2.1 (kd kL_law_14 33 rfl) ?_
      refine va_sld C.1 C.2.1 hX hbl hbA hS b1 (kd kL_law_14 34 rfl) ?_
      rw [t1]
      refine lv_aload_n C.1 C.2.1 (kd kL_law_14 35 rfl) rfl (lv_at hl 0 rfl) ?_
      refine lv_iload_n C.1 C.2.1 (kd kL_law_14 36 rfl) rfl (lv_at hl 3 rfl) ?_
      refine lv_iconst (v := 2) C.1 C.2.1 (kd kL_law_14 37 rfl) (by decide) ?_
      refine lv_iadd C.1 C.2.1 (kd kL_law_14 38 rfl) ?_
      refine va_sld C.1 C.2.1 hX hbl hbA hS b2 (kd kL_law_14 39 rfl) ?_
      rw [t2]
      refine lv_aload_n C.1 C.2.1 (kd kL_law_14 40 rfl) rfl (lv_at hl 0 rfl) ?_
      refine lv_iload_n C.1 C.2.1 (kd kL_law_14 41 rfl) rfl (lv_at hl 3 rfl) ?_
      refine lv_iconst (v := 3) C.1 C.2.1 (kd kL_law_14 42 rfl) (by decide) ?_
      refine lv_iadd C.1 C.2.1 (kd kL_law_14 43 rfl) ?_
      refine va_sld C.1 C.2.1 hX hbl hbA hS b3 (kd kL_law_14 44 rfl) ?_
      rw [t3]
      refine lv_aload_n C.1 C.2.1 (kd kL_law_14 45 rfl) rfl (lv_at hl 0 rfl) ?_
      refine lv_iload_n C.1 C.2.1 (kd kL_law_14 46 rfl) rfl (lv_at hl 3 rfl) ?_
      refine lv_iconst (v := 4) C.1 C.2.1 (kd kL_law_14 47 rfl) (by decide) ?_
      refine lv_iadd C.1 C.2.1 (kd kL_law_14 48 rfl) ?_
      refine va_sld C.1 C.2.1 hX hbl hbA hS b4 (kd kL_law_14 49 rfl) ?_
      rw [t4]
      refine la_V (k := 164) (As := [.int (xs (i + 1)), .int (xs (i + 2)), .int (xs (i + 3)), .int (xs (i + 4))]) (rest := [.int r]) (n := 4) C hP hS hAd rfl (Nat.le_of_ble_eq_true rfl) rfl (m_X8_layDown C.2.2.2.2.2.2.2.2 l e2) (fgV tw_1297 tw_1298 tw_1299 tw_75 tw_1300) hd_X8_layDown ⟨rfl, rfl, Nat.le_of_ble_eq_true rfl, Nat.le_of_ble_eq_true rfl⟩ rfl hl.1 rfl (Nat.le_of_ble_eq_true rfl) (kd kL_law_14 50 rfl) (Nat.le_of_ble_eq_true rfl) (Nat.le_of_ble_eq_true rfl) (fun H locs hP hS => ?_)
      refine lv_icmp_eq (tgt := 1388) C.1 C.2.1 (kd kL_law_14 51 rfl) (by decide) (fun _ => ?_) (fun z => absurd rfl z)
      refine lv_iinc (v := nI (i + 5)) (lv' := [(3, .int (nI (i + 5))), (0, .ref b), (1, .ref (Γ.1 0)), (2, .ref (Γ.1 164))]) C.1 C.2.1 (kd kL_law_16 2 rfl) hl (k := 3) rfl (law_inc i) (Nat.le_of_ble_eq_true rfl) rfl (fun ls hl => ?_)
      refine lv_goto (tgt := 18) C.1 C.2.1 (kd kL_law_16 3 rfl) (by decide) ?_
      exact ih (i + 5) hi5 (by omega) σ2 hLI H locs hP hS ls (lv_sub hl [1, 2, 3, 0] rfl)
    have z35 : ¬ o.toInt = 35 := fi_ne q35 (by decide)
    by_cases q36 : o = 36
    · refine lv_tableIn (tgt := 1296) C.1 C.2.1 (kd kL_law_0 21 rfl) (by rw [q36] <;> decide) (by rw [q36] <;> decide) (by rw [q36] <;> rfl) (by decide) ?_
      obtain ⟨r, σ1, σ2, e1, e2, hLI⟩ := h36 σ (xs (i + 1)) (xs (i + 2)) hLI
      refine lv_aload_n C.1 C.2.1 (kd kL_law_14 54 rfl) rfl (lv_at hl 1 rfl) ?_
      refine lv_aload_n C.1 C.2.1 (kd kL_law_14 55 rfl) rfl (lv_at hl 0 rfl) ?_
      refine lv_iload_n C.1 C.2.1 (kd kL_law_14 56 rfl) rfl (lv_at hl 3 rfl) ?_
      refine lv_iconst (v := 1) C.1 C.2.1 (kd kL_law_14 57 rfl) (by decide) ?_
      refine lv_iadd C.1 C.2.1 (kd kL_law_14 58 rfl) ?_
      refine va_sld C.1 C.2.1 hX hbl hbA hS b1 (kd kL_law_14 59 rfl) ?_
      rw [t1]
      refine lv_aload_n C.1 C.2.1 (kd kL_law_15 0 rfl) rfl (lv_at hl 0 rfl) ?_
      refine lv_iload_n C.1 C.2.1 (kd kL_law_15 1 rfl) rfl (lv_at hl 3 rfl) ?_
      refine lv_iconst (v := 2) C.1 C.2.1 (kd kL_law_15 2 rfl) (by decide) ?_
      refine lv_iadd C.1 C.2.1 (kd kL_law_15 3 rfl) ?_
      refine va_sld C.1 C.2.1 hX hbl hbA hS b2 (kd kL_law_15 4 rfl) ?_
      rw [t2]
      refine la_V (k := 0) (As := [.int (xs (i + 1)), .int (xs (i + 2))]) (rest := []) (n := 2) C hP hS hAd rfl (Nat.le_of_ble_eq_true rfl) rfl (m_X7_takeOut C.2.2.2.2.2.2.2.2 l e1) (fgV tw_829 tw_830 tw_831 tw_67 tw_832) hd_X7_takeOut ⟨rfl, rfl, Nat.le_of_ble_eq_true rfl, Nat.le_of_ble_eq_true rfl⟩ rfl hl.1 rfl (Nat.le_of_ble_eq_true rfl) (kd kL_law_15 5 rfl) (Nat.le_of_ble_eq_true rfl) (Nat.le_of_ble_eq_true rfl) (fun H locs hP hS => ?_)
      refine lv_aload_n C.1 C.2.1 (kd kL_law_15 6 rfl) rfl (lv_at hl 2 rfl) ?_
      refine lv_aload_n C.1 C.2.1 (kd kL_law_15 7 rfl) rfl (lv_at hl 0 rfl) ?_
      refine lv_iload_n C.1 C.2.1 (kd kL_law_15 8 rfl) rfl (lv_at hl 3 rfl) ?_
      refine lv_iconst (v := 1) C.1 C.2.1 (kd kL_law_15 9 rfl) (by decide) ?_
      refine lv_iadd C.1 C.2.1 (kd kL_law_15 10 rfl) ?_
      refine va_sld C.1 C.2.1 hX hbl hbA hS b1 (kd kL_law_15 11 rfl) ?_
      rw [t1]
      refine lv_aload_n C.1 C.2.1 (kd kL_law_15 12 rfl) rfl (lv_at hl 0 rfl) ?_
      refine lv_iload_n C.1 C.2.1 (kd kL_law_15 13 rfl) rfl (lv_at hl 3 rfl) ?_
      refine lv_iconst (v := 2) C.1 C.2.1 (kd kL_law_15 14 rfl) (by decide) ?_
      refine lv_iadd C.1 C.2.1 (kd kL_law_15 15 rfl) ?_
      refine va_sld C.1 C.2.1 hX hbl hbA hS b2 (kd kL_law_15 16 rfl) ?_
      rw [t2]
      refine la_V (k := 164) (As := [.int (xs (i + 1)), .int (xs (i + 2))]) (rest := [.int r]) (n := 2) C hP hS hAd rfl (Nat.le_of_ble_eq_true rfl) rfl (m_X8_takeOut C.2.2.2.2.2.2.2.2 l e2) (fgV tw_1304 tw_1305 tw_1306 tw_75 tw_1307) hd_X8_takeOut ⟨rfl, rfl, Nat.le_of_ble_eq_true rfl, Nat.le_of_ble_eq_true rfl⟩ rfl hl.1 rfl (Nat.le_of_ble_eq_true rfl) (kd kL_law_15 17 rfl) (Nat.le_of_ble_eq_true rfl) (Nat.le_of_ble_eq_true rfl) (fun H locs hP hS => ?_)
      refine lv_icmp_eq (tgt := 1388) C.1 C.2.1 (kd kL_law_15 18 rfl) (by decide) (fun _ => ?_) (fun z => absurd rfl z)
      refine lv_iinc (v := nI (i + 5)) (lv' := [(3, .int (nI (i + 5))), (0, .ref b), (1, .ref (Γ.1 0)), (2, .ref (Γ.1 164))]) C.1 C.2.1 (kd kL_law_16 2 rfl) hl (k := 3) rfl (law_inc i) (Nat.le_of_ble_eq_true rfl) rfl (fun ls hl => ?_)
      refine lv_goto (tgt := 18) C.1 C.2.1 (kd kL_law_16 3 rfl) (by decide) ?_
      exact ih (i + 5) hi5 (by omega) σ2 hLI H locs hP hS ls (lv_sub hl [1, 2, 3, 0] rfl)
    have z36 : ¬ o.toInt = 36 := fi_ne q36 (by decide)
    by_cases q37 : o = 37
    · refine lv_tableIn (tgt := 1329) C.1 C.2.1 (kd kL_law_0 21 rfl) (by rw [q37] <;> decide) (by rw [q37] <;> decide) (by rw [q37] <;> rfl) (by decide) ?_
      obtain ⟨r, σ1, σ2, e1, e2, hLI⟩ := h37 σ (xs (i + 1)) (xs (i + 2)) hLI
      refine lv_aload_n C.1 C.2.1 (kd kL_law_15 21 rfl) rfl (lv_at hl 1 rfl) ?_
      refine lv_aload_n C.1 C.2.1 (kd kL_law_15 22 rfl) rfl (lv_at hl 0 rfl) ?_
      refine lv_iload_n C.1 C.2.1 (kd kL_law_15 23 rfl) rfl (lv_at hl 3 rfl) ?_
      refine lv_iconst (v := 1) C.1 C.2.1 (kd kL_law_15 24 rfl) (by decide) ?_
      refine lv_iadd C.1 C.2.1 (kd kL_law_15 25 rfl) ?_
      refine va_sld C.1 C.2.1 hX hbl hbA hS b1 (kd kL_law_15 26 rfl) ?_
      rw [t1]
      refine lv_aload_n C.1 C.2.1 (kd kL_law_15 27 rfl) rfl (lv_at hl 0 rfl) ?_
      refine lv_iload_n C.1 C.2.1 (kd kL_law_15 28 rfl) rfl (lv_at hl 3 rfl) ?_
      refine lv_iconst (v := 2) C.1 C.2.1 (kd kL_law_15 29 rfl) (by decide) ?_
      refine lv_iadd C.1 C.2.1 (kd kL_law_15 30 rfl) ?_
      refine va_sld C.1 C.2.1 hX hbl hbA hS b2 (kd kL_law_15 31 rfl) ?_
      rw [t2]
      refine la_V (k := 0) (As := [.int (xs (i + 1)), .int (xs (i + 2))]) (rest := []) (n := 2) C hP hS hAd rfl (Nat.le_of_ble_eq_true rfl) rfl (m_X7_lying C.2.2.2.2.2.2.2.2 l e1) (fgV tw_839 tw_840 tw_841 tw_67 tw_842) hd_X7_lying ⟨rfl, rfl, Nat.le_of_ble_eq_true rfl, Nat.le_of_ble_eq_true rfl⟩ rfl hl.1 rfl (Nat.le_of_ble_eq_true rfl) (kd kL_law_15 32 rfl) (Nat.le_of_ble_eq_true rfl) (Nat.le_of_ble_eq_true rfl) (fun H locs hP hS => ?_)
      refine lv_aload_n C.1 C.2.1 (kd kL_law_15 33 rfl) rfl (lv_at hl 2 rfl) ?_
      refine lv_aload_n C.1 C.2.1 (kd kL_law_15 34 rfl) rfl (lv_at hl 0 rfl) ?_
      refine lv_iload_n C.1 C.2.1 (kd kL_law_15 35 rfl) rfl (lv_at hl 3 rfl) ?_
      refine lv_iconst (v := 1) C.1 C.2.1 (kd kL_law_15 36 rfl) (by decide) ?_
      refine lv_iadd C.1 C.2.1 (kd kL_law_15 37 rfl) ?_
      refine va_sld C.1 C.2.1 hX hbl hbA hS b1 (kd kL_law_15 38 rfl) ?_
      rw [t1]
      refine lv_aload_n C.1 C.2.1 (kd kL_law_15 39 rfl) rfl (lv_at hl 0 rfl) ?_
      refine lv_iload_n C.1 C.2.1 (kd kL_law_15 40 rfl) rfl (lv_at hl 3 rfl) ?_
      refine lv_iconst (v := 2) C.1 C.2.1 (kd kL_law_15 41 rfl) (by decide) ?_
      refine lv_iadd C.1 C.2.1 (kd kL_law_15 42 rfl) ?_
      refine va_sld C.1 C.2.1 hX hbl hbA hS b2 (kd kL_law_15 43 rfl) ?_
      rw [t2]
      refine la_V (k := 164) (As := [.int (xs (i + 1)), .int (xs (i + 2))]) (rest := [.int r]) (n := 2) C hP hS hAd rfl (Nat.le_of_ble_eq_true rfl) rfl (m_X8_lying C.2.2.2.2.2.2.2.2 l e2) (fgV tw_1308 tw_1309 tw_1310 tw_75 tw_1311) hd_X8_lying ⟨rfl, rfl, Nat.le_of_ble_eq_true rfl, Nat.le_of_ble_eq_true rfl⟩ rfl hl.1 rfl (Nat.le_of_ble_eq_true rfl) (kd kL_law_15 44 rfl) (Nat.le_of_ble_eq_true rfl) (Nat.le_of_ble_eq_true rfl) (fun H locs hP hS => ?_)
      refine lv_icmp_eq (tgt := 1388) C.1 C.2.1 (kd kL_law_15 45 rfl) (by decide) (fun _ => ?_) (fun z => absurd rfl z)
      refine lv_iinc (v := nI (i + 5)) (lv' := [(3, .int (nI (i + 5))), (0, .ref b), (1, .ref (Γ.1 0)), (2, .ref (Γ.1 164))]) C.1 C.2.1 (kd kL_law_16 2 rfl) hl (k := 3) rfl (law_inc i) (Nat.le_of_ble_eq_true rfl) rfl (fun ls hl => ?_)
      refine lv_goto (tgt := 18) C.1 C.2.1 (kd kL_law_16 3 rfl) (by decide) ?_
      exact ih (i + 5) hi5 (by omega) σ2 hLI H locs hP hS ls (lv_sub hl [1, 2, 3, 0] rfl)
    have z37 : ¬ o.toInt = 37 := fi_ne q37 (by decide)
    by_cases q38 : o = 38
    · refine lv_tableIn (tgt := 1362) C.1 C.2.1 (kd kL_law_0 21 rfl) (by rw [q38] <;> decide) (by rw [q38] <;> decide) (by rw [q38] <;> rfl) (by decide) ?_
      obtain ⟨r, σ1, σ2, e1, e2, hLI⟩ := h38 σ  hLI
      refine lv_aload_n C.1 C.2.1 (kd kL_law_15 48 rfl) rfl (lv_at hl 1 rfl) ?_
      refine la_V (k := 0) (As := []) (rest := []) (n := 0) C hP hS hAd rfl (Nat.le_of_ble_eq_true rfl) rfl (m_X7_save C.2.2.2.2.2.2.2.2 l e1) (fgV tw_844 tw_845 tw_846 tw_67 tw_847) hd_X7_save ⟨rfl, rfl, Nat.le_of_ble_eq_true rfl, Nat.le_of_ble_eq_true rfl⟩ rfl hl.1 rfl (Nat.le_of_ble_eq_true rfl) (kd kL_law_15 49 rfl) (Nat.le_of_ble_eq_true rfl) (Nat.le_of_ble_eq_true rfl) (fun H locs hP hS => ?_)
      refine lv_aload_n C.1 C.2.1 (kd kL_law_15 50 rfl) rfl (lv_at hl 2 rfl) ?_
      refine la_V (k := 164) (As := []) (rest := [.int r]) (n := 0) C hP hS hAd rfl (Nat.le_of_ble_eq_true rfl) rfl (m_X8_save C.2.2.2.2.2.2.2.2 l e2) (fgV tw_1312 tw_1313 tw_1314 tw_75 tw_1315) hd_X8_save ⟨rfl, rfl, Nat.le_of_ble_eq_true rfl, Nat.le_of_ble_eq_true rfl⟩ rfl hl.1 rfl (Nat.le_of_ble_eq_true rfl) (kd kL_law_15 51 rfl) (Nat.le_of_ble_eq_true rfl) (Nat.le_of_ble_eq_true rfl) (fun H locs hP hS => ?_)
      refine lv_icmp_eq (tgt := 1388) C.1 C.2.1 (kd kL_law_15 52 rfl) (by decide) (fun _ => ?_) (fun z => absurd rfl z)
      refine lv_iinc (v := nI (i + 5)) (lv' := [(3, .int (nI (i + 5))), (0, .ref b), (1, .ref (Γ.1 0)), (2, .ref (Γ.1 164))]) C.1 C.2.1 (kd kL_law_16 2 rfl) hl (k := 3) rfl (law_inc i) (Nat.le_of_ble_eq_true rfl) rfl (fun ls hl => ?_)
      refine lv_goto (tgt := 18) C.1 C.2.1 (kd kL_law_16 3 rfl) (by decide) ?_
      exact ih (i + 5) hi5 (by omega) σ2 hLI H locs hP hS ls (lv_sub hl [1, 2, 3, 0] rfl)
    have z38 : ¬ o.toInt = 38 := fi_ne q38 (by decide)
    by_cases q39 : o = 39
    · refine lv_tableIn (tgt := 1375) C.1 C.2.1 (kd kL_law_0 21 rfl) (by rw [q39] <;> decide) (by rw [q39] <;> decide) (by rw [q39] <;> rfl) (by decide) ?_
      obtain ⟨r, σ1, σ2, e1, e2, hLI⟩ := h39 σ  hLI
      refine lv_aload_n C.1 C.2.1 (kd kL_law_15 55 rfl) rfl (lv_at hl 1 rfl) ?_
      refine la_V (k := 0) (As := []) (rest := []) (n := 0) C hP hS hAd rfl (Nat.le_of_ble_eq_true rfl) rfl (m_X7_restore C.2.2.2.2.2.2.2.2 l e1) (fgV tw_848 tw_849 tw_850 tw_67 tw_851) hd_X7_restore ⟨rfl, rfl, Nat.le_of_ble_eq_true rfl, Nat.le_of_ble_eq_true rfl⟩ rfl hl.1 rfl (Nat.le_of_ble_eq_true rfl) (kd kL_law_15 56 rfl) (Nat.le_of_ble_eq_true rfl) (Nat.le_of_ble_eq_true rfl) (fun H locs hP hS => ?_)
      refine lv_aload_n C.1 C.2.1 (kd kL_law_15 57 rfl) rfl (lv_at hl 2 rfl) ?_
      refine la_V (k := 164) (As := []) (rest := [.int r]) (n := 0) C hP hS hAd rfl (Nat.le_of_ble_eq_true rfl) rfl (m_X8_restore C.2.2.2.2.2.2.2.2 l e2) (fgV tw_1316 tw_1317 tw_1318 tw_75 tw_1319) hd_X8_restore ⟨rfl, rfl, Nat.le_of_ble_eq_true rfl, Nat.le_of_ble_eq_true rfl⟩ rfl hl.1 rfl (Nat.le_of_ble_eq_true rfl) (kd kL_law_15 58 rfl) (Nat.le_of_ble_eq_true rfl) (Nat.le_of_ble_eq_true rfl) (fun H locs hP hS => ?_)
      refine lv_icmp_eq (tgt := 1388) C.1 C.2.1 (kd kL_law_15 59 rfl) (by decide) (fun _ => ?_) (fun z => absurd rfl z)
      refine lv_iinc (v := nI (i + 5)) (lv' := [(3, .int (nI (i + 5))), (0, .ref b), (1, .ref (Γ.1 0)), (2, .ref (Γ.1 164))]) C.1 C.2.1 (kd kL_law_16 2 rfl) hl (k := 3) rfl (law_inc i) (Nat.le_of_ble_eq_true rfl) rfl (fun ls hl => ?_)
      refine lv_goto (tgt := 18) C.1 C.2.1 (kd kL_law_16 3 rfl) (by decide) ?_
      exact ih (i + 5) hi5 (by omega) σ2 hLI H locs hP hS ls (lv_sub hl [1, 2, 3, 0] rfl)
    have z39 : ¬ o.toInt = 39 := fi_ne q39 (by decide)
    refine lv_tableOut (tgt := 1388) C.1 C.2.1 (kd kL_law_0 21 rfl) (by omega) (by decide) ?_
    refine lv_iinc (v := nI (i + 5)) (lv' := [(3, .int (nI (i + 5))), (0, .ref b), (1, .ref (Γ.1 0)), (2, .ref (Γ.1 164))]) C.1 C.2.1 (kd kL_law_16 2 rfl) hl (k := 3) rfl (law_inc i) (Nat.le_of_ble_eq_true rfl) rfl (fun ls hl => ?_)
    refine lv_goto (tgt := 18) C.1 C.2.1 (kd kL_law_16 3 rfl) (by decide) ?_
    exact ih (i + 5) hi5 (by omega) σ hLI H locs hP hS ls (lv_sub hl [1, 2, 3, 0] rfl)

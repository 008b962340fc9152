theorem law_arr {s : State} {args : Array Value} {ty : FieldType} (h : (Cond.arrayClass ty).before args s = true) : ∃ cA, ArrOfT s cA ty ∧ s.vm.findClass ("[" ++ ty.toString) = some cA := by
  obtain ⟨cA, k, comp, h1, h2, h3⟩ := Cond.arrayClass_spec h
  exact ⟨cA, fun n z => ⟨fun k h => (by cases h), k, h2, comp, h3⟩, h1⟩
theorem law_K {s : State} {args : Array Value} (ht : ∀ w ∈ lw_tbl, w.before args s = true) : ∃ (cI cC cP : ClassId) (D : va_G), va_K D vwCl [(cI, .int), (cC, .char), (cP, .object "FerryTimetable$Port")] s ∧ va_AO "FerryTimetable$Port" s ∧ va_Nw fn1 s ∧ va_Nw fn2 s ∧ va_Nw fn3 s := by
  have hts : ∀ w ∈ lw_g, w.before args s = true := fun w h => ht w (List.mem_filter.mp h).1
  obtain ⟨c0, i0, k0⟩ := u_known (C := RX0) (T := TX0) (N := 6) (n := 6) hts inX0 (hts _ tw_170)
  obtain ⟨c1, i1, k1⟩ := u_known (C := RX1) (T := TX1) (N := 3) (n := 3) hts inX1 (hts _ tw_151)
  obtain ⟨c2, i2, k2⟩ := u_known (C := RX2) (T := TX2) (N := 11) (n := 11) hts inX2 (hts _ tw_198)
  obtain ⟨c3, i3, k3⟩ := u_known (C := RX3) (T := TX3) (N := 8) (n := 8) hts inX3 (hts _ tw_88)
  obtain ⟨c4, i4, k4⟩ := u_known (C := RX4) (T := TX4) (N := 1) (n := 1) hts inX4 (hts _ tw_268)
  obtain ⟨c5, i5, k5⟩ := u_known (C := RX5) (T := TX5) (N := 4) (n := 4) hts inX5 (hts _ tw_94)
  obtain ⟨c6, i6, k6⟩ := u_known (C := RX6) (T := TX6) (N := 5) (n := 5) hts inX6 (hts _ tw_241)
  obtain ⟨c7, i7, k7⟩ := u_known (C := RX7) (T := TX7) (N := 9) (n := 9) hts inX7 (hts _ tw_80)
  obtain ⟨c8, i8, k8⟩ := u_known (C := RX8) (T := TX8) (N := 31) (n := 31) hts inX8 (hts _ tw_857)
  obtain ⟨cI, a1, a2⟩ := law_arr (hts _ tw_112)
  obtain ⟨cC, b1, b2⟩ := law_arr (hts _ tw_266)
  have hao : (Cond.arrayOver (.object "FerryTimetable$Port")).before args s = true := ht _ (List.mem_of_getElem? (i := 157) (by decide +kernel))
  obtain ⟨comp, cP, kP, p1, p2, p3, p4, p5⟩ := Cond.arrayOver_spec hao
  refine ⟨cI, cC, cP, (fun k => [c0, c1, c2, c3, c4, c5, c6, c7, c8].getD k c0, fun k => [i0, i1, i2, i3, i4, i5, i6, i7, i8].getD k i0), ⟨?_, ?_⟩, va_AO.of hao, va_Nw.of rfl (ht _ (List.mem_of_getElem? (i := 333) (by decide +kernel))), va_Nw.of rfl (ht _ (List.mem_of_getElem? (i := 462) (by decide +kernel))), va_Nw.of rfl (ht _ (List.mem_of_getElem? (i := 510) (by decide +kernel)))⟩
  · intro k q hq
    match k, hq with
    | 0, hq => cases hq; exact k0
    | 1, hq => cases hq; exact k1
    | 2, hq => cases hq; exact k2
    | 3, hq => cases hq; exact k3
    | 4, hq => cases hq; exact k4
    | 5, hq => cases hq; exact k5
    | 6, hq => cases hq; exact k6
    | 7, hq => cases hq; exact k7
    | 8, hq => cases hq; exact k8
    | k + 9, hq => simp [vwCl] at hq
  · intro k q hq
    match k, hq with
    | 0, hq => cases hq; exact ⟨a1, a2⟩
    | 1, hq => cases hq; exact ⟨b1, b2⟩
    | 2, hq => cases hq; exact ⟨fun n z => ⟨fun k h => (by cases h), kP, p3, comp, p4⟩, kP, comp, p3, p4, p1, p5⟩
    | k + 3, hq => simp at hq
set_option maxRecDepth 100000 in
set_option maxHeartbeats 40000000 in
theorem law_start {p : Program} {e : Env} {s : State} {m : MethodId} {below : List Frame} {meth : Method} {c : Code} (l : Launch) {b L : Nat} {xs : Nat → Int32} {LI : fS → Prop} (hL : L ≤ 2560) (C0 : lw_At p s m meth c b L xs) (hLI : LI fini) (h0 : ∀ (σ : fS) (x1 : Int32) (x2 : Int32) (x3 : Int32) (x4 : Int32), LI σ → ∃ (r : Int32) (σ1 σ2 : fS), f_X7_addShip x1 x2 x3 x4 σ = some (r, σ1) ∧ f_X8_addShip x1 x2 x3 x4 σ1 = some (r, σ2) ∧ LI σ2) (h1 : ∀ (σ : fS) (x1 : Int32) (x2 : Int32), LI σ → ∃ (r : Int32) (σ1 σ2 : fS), f_X7_addBerth x1 x2 σ = some (r, σ1) ∧ f_X8_addBerth x1 x2 σ1 = some (r, σ2) ∧ LI σ2) (h2 : ∀ (σ : fS) (x1 : Int32) (x2 : Int32) (x3 : Int32) (x4 : Int32), LI σ → ∃ (r : Int32) (σ1 σ2 : fS), f_X7_addCrossing x1 x2 x3 x4 σ = some (r, σ1) ∧ f_X8_addCrossing x1 x2 x3 x4 σ1 = some (r, σ2) ∧ LI σ2) (h3 : ∀ (σ : fS) (x1 : Int32) (x2 : Int32) (x3 : Int32), LI σ → ∃ (r : Int32) (σ1 σ2 : fS), f_X7_addVehicle x1 x2 x3 σ = some (r, σ1) ∧ f_X8_addVehicle x1 x2 x3 σ1 = some (r, σ2) ∧ LI σ2) (h4 : ∀ (σ : fS) (x1 : Int32) (x2 : Int32) (x3 : Int32) (x4 : Int32), LI σ → ∃ (r : Int32) (σ1 σ2 : fS), f_X7_addConnection x1 x2 x3 x4 σ = some (r, σ1) ∧ f_X8_addConnection x1 x2 x3 x4 σ1 = some (r, σ2) ∧ LI σ2) (h5 : ∀ (σ : fS) (x1 : Int32), LI σ → ∃ (r : Int32) (σ1 σ2 : fS), f_X7_removeCrossing x1 σ = some (r, σ1) ∧ f_X8_removeCrossing x1 σ1 = some (r, σ2) ∧ LI σ2) (h6 : ∀ (σ : fS) (x1 : Int32) (x2 : Int32) (x3 : Int32), LI σ → ∃ (r : Int32) (σ1 σ2 : fS), f_X7_setBerth x1 x2 x3 σ = some (r, σ1) ∧ f_X8_setBerth x1 x2 x3 σ1 = some (r, σ2) ∧ LI σ2) (h7 : ∀ (σ : fS) (x1 : Int32) (x2 : Int32), LI σ → ∃ (r : Int32) (σ1 σ2 : fS), f_X7_setTide x1 x2 σ = some (r, σ1) ∧ f_X8_setTide x1 x2 σ1 = some (r, σ2) ∧ LI σ2) (h8 : ∀ (σ : fS) (x1 : Int32) (x2 : Int32), LI σ → ∃ (r : Int32) (σ1 σ2 : fS), f_X7_setWind x1 x2 σ = some (r, σ1) ∧ f_X8_setWind x1 x2 σ1 = some (r, σ2) ∧ LI σ2) (h9 : ∀ (σ : fS) (x1 : Int32), LI σ → ∃ (r : Int32) (σ1 σ2 : fS), f_X7_setMargin x1 σ = some (r, σ1) ∧ f_X8_setMargin x1 σ1 = some (r, σ2) ∧ LI σ2) (h10 : ∀ (σ : fS) (x1 : Int32), LI σ → ∃ (r : Int32) (σ1 σ2 : fS), f_X7_append x1 σ = some (r, σ1) ∧ f_X8_append x1 σ1 = some (r, σ2) ∧ LI σ2) (h11 : ∀ (σ : fS), LI σ → ∃ (r : Int32) (σ1 σ2 : fS), f_X7_read  σ = some (r, σ1) ∧ f_X8_read  σ1 = some (r, σ2) ∧ LI σ2) (h12 : ∀ (σ : fS), LI σ → ∃ (r : Int32) (σ1 σ2 : fS), f_X7_faultPosition  σ = some (r, σ1) ∧ f_X8_faultPosition  σ1 = some (r, σ2) ∧ LI σ2) (h13 : ∀ (σ : fS), LI σ → ∃ (r : Int32) (σ1 σ2 : fS), f_X7_undo  σ = some (r, σ1) ∧ f_X8_undo  σ1 = some (r, σ2) ∧ LI σ2) (h14 : ∀ (σ : fS) (x1 : Int32), LI σ → ∃ (r : Int32) (σ1 σ2 : fS), f_X7_count x1 σ = some (r, σ1) ∧ f_X8_count x1 σ1 = some (r, σ2) ∧ LI σ2) (h15 : ∀ (σ : fS) (x1 : Int32) (x2 : Int32), LI σ → ∃ (r : Int32) (σ1 σ2 : fS), f_X7_ship x1 x2 σ = some (r, σ1) ∧ f_X8_ship x1 x2 σ1 = some (r, σ2) ∧ LI σ2) (h16 : ∀ (σ : fS) (x1 : Int32) (x2 : Int32), LI σ → ∃ (r : Int32) (σ1 σ2 : fS), f_X7_berth x1 x2 σ = some (r, σ1) ∧ f_X8_berth x1 x2 σ1 = some (r, σ2) ∧ LI σ2) (h17 : ∀ (σ : fS) (x1 : Int32) (x2 : Int32), LI σ → ∃ (r : Int32) (σ1 σ2 : fS), f_X7_crossing x1 x2 σ = some (r, σ1) ∧ f_X8_crossing x1 x2 σ1 = some (r, σ2) ∧ LI σ2) (h18 : ∀ (σ : fS) (x1 : Int32), LI σ → ∃ (r : Int32) (σ1 σ2 : fS), f_X7_decided x1 σ = some (r, σ1) ∧ f_X8_decided x1 σ1 = some (r, σ2) ∧ LI σ2) (h19 : ∀ (σ : fS) (x1 : Int32) (x2 : Int32), LI σ → ∃ (r : Int32) (σ1 σ2 : fS), f_X7_vehicle x1 x2 σ = some (r, σ1) ∧ f_X8_vehicle x1 x2 σ1 = some (r, σ2) ∧ LI σ2) (h20 : ∀ (σ : fS) (x1 : Int32) (x2 : Int32), LI σ → ∃ (r : Int32) (σ1 σ2 : fS), f_X7_connection x1 x2 σ = some (r, σ1) ∧ f_X8_connection x1 x2 σ1 = some (r, σ2) ∧ LI σ2) (h21 : ∀ (σ : fS) (x1 : Int32), LI σ → ∃ (r : Int32) (σ1 σ2 : fS), f_X7_tide x1 σ = some (r, σ1) ∧ f_X8_tide x1 σ1 = some (r, σ2) ∧ LI σ2) (h22 : ∀ (σ : fS) (x1 : Int32), LI σ → ∃ (r : Int32) (σ1 σ2 : fS), f_X7_wind x1 σ = some (r, σ1) ∧ f_X8_wind x1 σ1 = some (r, σ2) ∧ LI σ2) (h23 : ∀ (σ : fS) (x1 : Int32), LI σ → ∃ (r : Int32) (σ1 σ2 : fS), f_X7_height x1 σ = some (r, σ1) ∧ f_X8_height x1 σ1 = some (r, σ2) ∧ LI σ2) (h24 : ∀ (σ : fS) (x1 : Int32), LI σ → ∃ (r : Int32) (σ1 σ2 : fS), f_X7_heightBits x1 σ = some (r, σ1) ∧ f_X8_heightBits x1 σ1 = some (r, σ2) ∧ LI σ2) (h25 : ∀ (σ : fS) (x1 : Int32) (x2 : Int32), LI σ → ∃ (r : Int32) (σ1 σ2 : fS), f_X7_water x1 x2 σ = some (r, σ1) ∧ f_X8_water x1 x2 σ1 = some (r, σ2) ∧ LI σ2) (h26 : ∀ (σ : fS) (x1 : Int32) (x2 : Int32) (x3 : Int32), LI σ → ∃ (r : Int32) (σ1 σ2 : fS), f_X7_firstTime x1 x2 x3 σ = some (r, σ1) ∧ f_X8_firstTime x1 x2 x3 σ1 = some (r, σ2) ∧ LI σ2) (h27 : ∀ (σ : fS) (x1 : Int32) (x2 : Int32), LI σ → ∃ (r : Int32) (σ1 σ2 : fS), f_X7_laneLeft x1 x2 σ = some (r, σ1) ∧ f_X8_laneLeft x1 x2 σ1 = some (r, σ2) ∧ LI σ2) (h28 : ∀ (σ : fS) (x1 : Int32) (x2 : Int32) (x3 : Int32), LI σ → ∃ (r : Int32) (σ1 σ2 : fS), f_X7_laneVehicle x1 x2 x3 σ = some (r, σ1) ∧ f_X8_laneVehicle x1 x2 x3 σ1 = some (r, σ2) ∧ LI σ2) (h29 : ∀ (σ : fS) (x1 : Int32) (x2 : Int32), LI σ → ∃ (r : Int32) (σ1 σ2 : fS), f_X7_leaves x1 x2 σ = some (r, σ1) ∧ f_X8_leaves x1 x2 σ1 = some (r, σ2) ∧ LI σ2) (h30 : ∀ (σ : fS), LI σ → ∃ (r : Int32) (σ1 σ2 : fS), f_X7_isOrderly  σ = some (r, σ1) ∧ f_X8_isOrderly  σ1 = some (r, σ2) ∧ LI σ2) (h31 : ∀ (σ : fS) (x1 : Int32), LI σ → ∃ (r : Int32) (σ1 σ2 : fS), f_X7_account x1 σ = some (r, σ1) ∧ f_X8_account x1 σ1 = some (r, σ2) ∧ LI σ2) (h32 : ∀ (σ : fS), LI σ → ∃ (r : Int32) (σ1 σ2 : fS), f_X7_loadBits  σ = some (r, σ1) ∧ f_X8_loadBits  σ1 = some (r, σ2) ∧ LI σ2) (h33 : ∀ (σ : fS) (x1 : Int32), LI σ → ∃ (r : Int32) (σ1 σ2 : fS), f_X7_sailingIf x1 σ = some (r, σ1) ∧ f_X8_sailingIf x1 σ1 = some (r, σ2) ∧ LI σ2) (h34 : ∀ (σ : fS) (x1 : Int32), LI σ → ∃ (r : Int32) (σ1 σ2 : fS), f_X7_bestBerth x1 σ = some (r, σ1) ∧ f_X8_bestBerth x1 σ1 = some (r, σ2) ∧ LI σ2) (h35 : ∀ (σ : fS) (x1 : Int32) (x2 : Int32) (x3 : Int32) (x4 : Int32), LI σ → ∃ (r : Int32) (σ1 σ2 : fS), f_X7_layDown x1 x2 x3 x4 σ = some (r, σ1) ∧ f_X8_layDown x1 x2 x3 x4 σ1 = some (r, σ2) ∧ LI σ2) (h36 : ∀ (σ : fS) (x1 : Int32) (x2 : Int32), LI σ → ∃ (r : Int32) (σ1 σ2 : fS), f_X7_takeOut x1 x2 σ = some (r, σ1) ∧ f_X8_takeOut x1 x2 σ1 = some (r, σ2) ∧ LI σ2) (h37 : ∀ (σ : fS) (x1 : Int32) (x2 : Int32), LI σ → ∃ (r : Int32) (σ1 σ2 : fS), f_X7_lying x1 x2 σ = some (r, σ1) ∧ f_X8_lying x1 x2 σ1 = some (r, σ2) ∧ LI σ2) (h38 : ∀ (σ : fS), LI σ → ∃ (r : Int32) (σ1 σ2 : fS), f_X7_save  σ = some (r, σ1) ∧ f_X8_save  σ1 = some (r, σ2) ∧ LI σ2) (h39 : ∀ (σ : fS), LI σ → ∃ (r : Int32) (σ1 σ2 : fS), f_X7_restore  σ = some (r, σ1) ∧ f_X8_restore  σ1 = some (r, σ2) ∧ LI σ2) : W p l e room_1 s m #[Value.ref b] below meth c s.heap [] 0 0 (lw_Z below #[Value.ref b] s) (entryFrame m ([Value.ref b] : List Value).toArray 4) := by
  obtain ⟨hx, hb, hr, hml, hown, hts, hX, hbl, hlocks, hgv⟩ := C0
  obtain ⟨cI, cC, cP, D, hK, hao, n1, n2, n3⟩ := law_K hts
  have hg : ∀ w ∈ lw_g, w.before #[Value.ref b] s = true := fun w h => hts w (List.mem_filter.mp h).1
  obtain ⟨Γ0, hΓ⟩ : ∃ z : fGm, z = (fun _ => 0, (cI, cC, cP), D) := ⟨_, rfl⟩
  have hK : va_K Γ0.2.2 vwCl (ftys Γ0) s := by rw [hΓ]; exact hK
  have hA : ∀ q : Nat, s.heap.size ≤ q → (fun q : Nat => s.heap.size ≤ q) q := fun _ h => h
  have hS : va_S (fun q : Nat => s.heap.size ≤ q) s.heap s.heap [] := va_S.rf
  have hP : va_P Γ0.2.2 vwCl ([] : va_W) s.heap := fun k q h => by simp at h
  have hD : va_D (fun q : Nat => s.heap.size ≤ q) ([] : va_W) := ⟨fun i j p q h => by simp at h, fun k q h => by simp at h⟩
  have hl := lv_entry ([.ref b]) (n := 4) (Nat.le_of_ble_eq_true rfl)
  rw [lg_entry_eq]
  generalize (lg_sl ([.ref b]) ++ List.replicate (4 - (lg_sl ([.ref b])).length) Slot.unset).toArray = ls at hl ⊢
  have hl : lv_has ls 4 [(0, .ref b)] := hl
  refine va_new (ci := 7) (fs := [.null, .null, .null, .null, .null, .null, .null, .null, .int 0]) hx hb hg inX7 tyX7 tyX7_ok hown (hg _ tw_79) (hg _ tw_80) (hg _ tw_67) hK hP hD hS hA rfl (fun j hj => by rcases (show j = 0 ∨ j = 1 ∨ j = 2 ∨ j = 3 ∨ j = 4 ∨ j = 5 ∨ j = 6 ∨ j = 7 ∨ j = 8 by omega) with rfl | rfl | rfl | rfl | rfl | rfl | rfl | rfl | rfl <;> rfl) (Nat.le_of_ble_eq_true rfl) (Nat.le_of_ble_eq_true rfl) (kd kL_law_0 0 rfl) (fun q0 H hP hD hS => ?_)
  refine W.widen (k := 1) (n := 9) (Nat.le_of_ble_eq_true rfl) (Nat.le_of_ble_eq_true rfl) ?_
  refine lv_dup hx hb (kd kL_law_0 1 rfl) rfl ?_
  have hFq0 : ∀ x, va_A (([] : va_W) ++ [(q0, .inr (7, [.null, .null, .null, .null, .null, .null, .null, .null, .int 0]))]) H.size x → (fun q : Nat => s.heap.size ≤ q) x := by
    intro x h
    rcases h with ⟨k, e1, h⟩ | h
    · exact hD.2 k _ h
    · exact hA x (Nat.le_trans hS.1 h)
  refine va_callv (va_runI (Ts := lw_g) (own := RL) (As := []) (rest := [.ref q0]) (n := 0) ⟨hx, hb, hml, hown, hg⟩ (c_X7 l Γ0 (([] : va_W)) q0 H.size) (cwI 0 hg (fgN tw_83) rfl rfl rfl (hg _ tw_67) (hg _ tw_81) (hg _ tw_82) rfl (by decide +kernel) ⟨Nat.le_of_ble_eq_true rfl, Nat.le_of_ble_eq_true rfl⟩) ⟨xPre_blind Γ0 _ _ _, fun U hU hW => ⟨rfl, by rw [hU], by rw [hU]; exact hP, ⟨va_K.moved hW.alike hK, va_AO.moved hW.alike hao⟩, hD.weaken (fun _ _ _ _ => trivial)⟩⟩ rfl rfl hl.1 rfl (lv_room (Nat.le_of_ble_eq_true rfl)) (kd kL_law_0 2 rfl) ⟨Nat.le_of_ble_eq_true rfl, Nat.le_of_ble_eq_true rfl⟩) hS (fun x _ h => hFq0 x h) hFq0 (fun u t H1 locs1 ht _ hwq0 hB _ _ hS => ?_)
  obtain ⟨hP, hD⟩ := hB
  rw [ht] at hP
  have hw : u 0 = q0 := hwq0
  have hD : va_D (fun q : Nat => s.heap.size ≤ q) (([] : va_W) ++ xFT Γ0 0 u) := va_D.weaken hD (fun k x _ h => hFq0 x.1 h)
  have hP : va_P Γ0.2.2 vwCl (([] : va_W) ++ xFT Γ0 0 u) H1 := hP
  refine W.widen (k := 164) (n := 3625) (Nat.le_of_ble_eq_true rfl) (Nat.le_of_ble_eq_true rfl) ?_
  refine lv_astore_n (lv' := [(1, .ref q0), (0, .ref b)]) hx hb (kd kL_law_0 3 rfl) rfl hl (by decide) rfl (fun ls hl => ?_)
  generalize hWF : (([] : va_W) ++ xFT Γ0 0 u) = WF at hP hD
  refine va_new (ci := 8) (fs := [.null, .null, .null, .int 0, .null, .int 0, .null, .int 0, .int 0, .int 0, .int 0, .null, .null, .null, .null, .null, .null, .null, .null, .null, .null, .null, .null, .null, .null, .null, .null, .int 0, .null, .null, .null]) hx hb hg inX8 tyX8 tyX8_ok hown (hg _ tw_856) (hg _ tw_857) (hg _ tw_75) hK hP hD hS hA rfl (fun j hj => by rcases (show j = 0 ∨ j = 1 ∨ j = 2 ∨ j = 3 ∨ j = 4 ∨ j = 5 ∨ j = 6 ∨ j = 7 ∨ j = 8 ∨ j = 9 ∨ j = 10 ∨ j = 11 ∨ j = 12 ∨ j = 13 ∨ j = 14 ∨ j = 15 ∨ j = 16 ∨ j = 17 ∨ j = 18 ∨ j = 19 ∨ j = 20 ∨ j = 21 ∨ j = 22 ∨ j = 23 ∨ j = 24 ∨ j = 25 ∨ j = 26 ∨ j = 27 ∨ j = 28 ∨ j = 29 ∨ j = 30 by omega) with rfl | rfl | rfl | rfl | rfl | rfl | rfl | rfl | rfl | rfl | rfl | rfl | rfl | rfl | rfl | rfl | rfl | rfl | rfl | rfl | rfl | rfl | rfl | rfl | rfl | rfl | rfl | rfl | rfl | rfl | rfl <;> rfl) (Nat.le_of_ble_eq_true rfl) (Nat.le_of_ble_eq_true rfl) (kd kL_law_0 4 rfl) (fun q1 H hP hD hS => ?_)
  refine W.widen (k := 165) (n := 3656) (Nat.le_of_ble_eq_true rfl) (Nat.le_of_ble_eq_true rfl) ?_
  refine lv_dup hx hb (kd kL_law_0 5 rfl) rfl ?_
  have hFq1 : ∀ x, va_A (WF ++ [(q1, .inr (8, [.null, .null, .null, .int 0, .null, .int 0, .null, .int 0, .int 0, .int 0, .int 0, .null, .null, .null, .null, .null, .null, .null, .null, .null, .null, .null, .null, .null, .null, .null, .null, .int 0, .null, .null, .null]))]) H.size x → (fun q : Nat => s.heap.size ≤ q) x := by
    intro x h
    rcases h with ⟨k, e1, h⟩ | h
    · exact hD.2 k _ h
    · exact hA x (Nat.le_trans hS.1 h)
  refine va_callv (va_runI (Ts := lw_g) (own := RL) (As := []) (rest := [.ref q1]) (n := 0) ⟨hx, hb, hml, hown, hg⟩ (c_X8 l Γ0 (WF) q1 H.size) (cwI 0 hg (fgN tw_860) rfl rfl rfl (hg _ tw_75) (hg _ tw_858) (hg _ tw_859) rfl (by decide +kernel) ⟨Nat.le_of_ble_eq_true rfl, Nat.le_of_ble_eq_true rfl⟩) ⟨xPre_blind Γ0 _ _ _, fun U hU hW => ⟨rfl, by rw [hU], by rw [hU]; exact hP, ⟨va_K.moved hW.alike hK, va_AO.moved hW.alike hao⟩, hD.weaken (fun _ _ _ _ => trivial)⟩⟩ rfl rfl hl.1 rfl (lv_room (Nat.le_of_ble_eq_true rfl)) (kd kL_law_0 6 rfl) ⟨Nat.le_of_ble_eq_true rfl, Nat.le_of_ble_eq_true rfl⟩) hS (fun x _ h => hFq1 x h) hFq1 (fun v t H2 locs2 ht _ hwq1 hB _ _ hS => ?_)
  obtain ⟨hP, hD⟩ := hB
  rw [ht] at hP
  have hw2 : v 0 = q1 := hwq1
  have hD : va_D (fun q : Nat => s.heap.size ≤ q) (WF ++ xMo Γ0 0 v) := va_D.weaken hD (fun k x _ h => hFq1 x.1 h)
  have hP : va_P Γ0.2.2 vwCl (WF ++ xMo Γ0 0 v) H2 := hP
  rw [← hWF] at hP hD
  have hD : va_D (fun q : Nat => s.heap.size ≤ q) (lwd Γ0 u v) := hD
  have hP : va_P Γ0.2.2 vwCl (lwd Γ0 u v) H2 := hP
  obtain ⟨hI, hAd⟩ := lwd_I hD
  have hP := lwd_P hP
  refine W.widen (k := 189) (n := 7990) (Nat.le_of_ble_eq_true rfl) (Nat.le_of_ble_eq_true rfl) ?_
  refine lv_astore_n (lv' := [(2, .ref q1), (1, .ref q0), (0, .ref b)]) hx hb (kd kL_law_0 7 rfl) rfl hl (by decide) rfl (fun ls hl => ?_)
  refine lv_iconst (v := 0) hx hb (kd kL_law_0 8 rfl) (by decide) ?_
  refine lv_istore_n (lv' := [(3, .int 0), (2, .ref q1), (1, .ref q0), (0, .ref b)]) hx hb (kd kL_law_0 9 rfl) rfl hl (by decide) rfl (fun ls hl => ?_)
  have hl : lv_has ls 4 [(0, .ref b), (1, .ref ((lGm Γ0 u v).1 0)), (2, .ref ((lGm Γ0 u v).1 164)), (3, .int (nI 0))] := by
    have e1 : (lGm Γ0 u v).1 0 = q0 := hw
    have e2 : (lGm Γ0 u v).1 164 = q1 := hw2
    rw [e1, e2, nI_0]
    exact lv_sub hl [3, 2, 1, 0] rfl
  exact law_loop (Γ := lGm Γ0 u v) hL (C := ⟨hx, hb, hr, hml, hown, hg, hlocks, ⟨hK, n1, n2, n3⟩, hI⟩) hX hbl hAd h0 h1 h2 h3 h4 h5 h6 h7 h8 h9 h10 h11 h12 h13 h14 h15 h16 h17 h18 h19 h20 h21 h22 h23 h24 h25 h26 h27 h28 h29 h30 h31 h32 h33 h34 h35 h36 h37 h38 h39 (L + 1) 0 (Nat.zero_le _) (by omega) fini hLI H2 _ hP hS ls hl

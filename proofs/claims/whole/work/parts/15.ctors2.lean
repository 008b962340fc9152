set_option maxRecDepth 100000 in
set_option maxHeartbeats 4000000 in
theorem c_X3 (l : Launch) (Γ : fGm) : xM l Γ yX3_init cX3_init 1 ({ frames := 2, cells := 14, slots := 299, locals := 63 } : Room) (.inr (3, [.null, .null, .null, .null, .null, .null, .null, .int 0])) [] (xP Γ 0) := by
  refine xr_enter (own := RX3) (by decide +kernel) rfl rfl (fun _ => Nat.le_of_ble_eq_true rfl) ?_
  intro ws a sz p e s m args below meth c ls H locs C hl hP hD hS hA
  obtain ⟨e0, he0⟩ : ∃ z : va_E, z = .inr (3, [.null, .null, .null, .null, .null, .null, .null, .int 0]) := ⟨_, rfl⟩
  rw [← he0] at hD hS hA ⊢
  have hD : va_D (va_A (ws ++ [(a, e0)]) sz) (ws ++ [(a, .inr (3, [.null, .null, .null, .null, .null, .null, .null, .int 0]))]) := by rw [← he0]; exact hD
  have hl : lv_has ls 1 [(0, .ref a)] := hl
  obtain ⟨E0, hE0⟩ : ∃ z : va_W, z = [] := ⟨_, rfl⟩
  have hP : va_P Γ.2.2 vwCl (ws ++ ((a, .inr (3, [.null, .null, .null, .null, .null, .null, .null, .int 0])) :: E0)) H := by rw [hE0]; exact hP
  have hD : va_D (va_A (ws ++ [(a, e0)]) sz) (ws ++ ((a, .inr (3, [.null, .null, .null, .null, .null, .null, .null, .int 0])) :: E0)) := by rw [hE0]; exact hD
  refine lv_aload_n C.1 C.2.1 (kd kX3_init_0 0 rfl) rfl (lv_at hl 0 rfl) ?_
  refine xr_obj C hl.1 tw_92 tw_85 tw_86 (kd kX3_init_0 1 rfl) (Nat.le_of_ble_eq_true rfl) (Nat.le_of_ble_eq_true rfl) ?_
  refine lv_aload_n C.1 C.2.1 (kd kX3_init_0 2 rfl) rfl (lv_at hl 0 rfl) ?_
  refine xr_new (ci := 5) (fs := [.int 0, .int 0, .null, .int 0]) C hP hD hS hA rfl inX5 tyX5 tyX5_ok tw_93 tw_94 tw_69 (fun j hj => by rcases (show j = 0 ∨ j = 1 ∨ j = 2 ∨ j = 3 by omega) with rfl | rfl | rfl | rfl <;> rfl) (c' := 1) (s' := 4) rfl rfl (Nat.le_of_ble_eq_true rfl) (Nat.le_of_ble_eq_true rfl) (kd kX3_init_0 3 rfl) (fun q1 H hP hD hS => ?_)
  refine lv_dup C.1 C.2.1 (kd kX3_init_0 4 rfl) rfl ?_
  refine lv_iconst (v := (4 : Int32)) C.1 C.2.1 (kd kX3_init_0 5 rfl) (by decide) ?_
  refine lv_iconst (v := (4 : Int32)) C.1 C.2.1 (kd kX3_init_0 6 rfl) (by decide) ?_
  refine lv_iconst (v := (0 : Int32)) C.1 C.2.1 (kd kX3_init_0 7 rfl) (by decide) ?_
  refine xr_call (av := [.int (4 : Int32), .int (4 : Int32), .int (0 : Int32)]) (rest := [.ref q1, .ref a]) (n := 3) C hl.1 hP hD hS hA (c_X5 l Γ 4 4 0 (by decide)) tw_95 tw_96 tw_69 tw_97 rfl (by decide +kernel) ⟨Nat.le_of_ble_eq_true rfl, Nat.le_of_ble_eq_true rfl⟩ rfl (c' := 2) (s' := 20) rfl rfl (Nat.le_of_ble_eq_true rfl) (Nat.le_of_ble_eq_true rfl) rfl (Nat.le_of_ble_eq_true rfl) (kd kX3_init_0 8 rfl) (fun u2 H locs hu hP hD hS => ?_)
  rw [← hu]
  obtain ⟨E1, hE1⟩ : ∃ z, z = E0 ++ xT Γ 4 4 0 0 u2 := ⟨_, rfl⟩
  have hP : va_P Γ.2.2 vwCl (ws ++ ((a, .inr (3, [.null, .null, .null, .null, .null, .null, .null, .int 0])) :: E1)) H := by rw [hE1]; exact hP
  have hD : va_D (va_A (ws ++ [(a, e0)]) sz) (ws ++ ((a, .inr (3, [.null, .null, .null, .null, .null, .null, .null, .int 0])) :: E1)) := by rw [hE1]; exact hD
  refine xr_putF (i := 0) C hP hD hS 0 rfl (B' := ((a, .inr (3, [.ref (u2 0), .null, .null, .null, .null, .null, .null, .int 0])) :: E1)) rfl rfl inX3 tyX3 tyX3_ok nmX3 (Nat.le_of_ble_eq_true rfl) tw_113 rfl rfl rfl rfl (Nat.le_of_ble_eq_true rfl) (kd kX3_init_0 9 rfl) (fun H locs hP hD hS => ?_)
  refine lv_aload_n C.1 C.2.1 (kd kX3_init_0 10 rfl) rfl (lv_at hl 0 rfl) ?_
  refine xr_new (ci := 5) (fs := [.int 0, .int 0, .null, .int 0]) C hP hD hS hA rfl inX5 tyX5 tyX5_ok tw_93 tw_94 tw_69 (fun j hj => by rcases (show j = 0 ∨ j = 1 ∨ j = 2 ∨ j = 3 by omega) with rfl | rfl | rfl | rfl <;> rfl) (c' := 3) (s' := 24) rfl rfl (Nat.le_of_ble_eq_true rfl) (Nat.le_of_ble_eq_true rfl) (kd kX3_init_0 11 rfl) (fun q3 H hP hD hS => ?_)
  refine lv_dup C.1 C.2.1 (kd kX3_init_0 12 rfl) rfl ?_
  refine lv_iconst (v := (3 : Int32)) C.1 C.2.1 (kd kX3_init_0 13 rfl) (by decide) ?_
  refine lv_iconst (v := (2 : Int32)) C.1 C.2.1 (kd kX3_init_0 14 rfl) (by decide) ?_
  refine lv_iconst (v := (0 : Int32)) C.1 C.2.1 (kd kX3_init_0 15 rfl) (by decide) ?_
  refine xr_call (av := [.int (3 : Int32), .int (2 : Int32), .int (0 : Int32)]) (rest := [.ref q3, .ref a]) (n := 3) C hl.1 hP hD hS hA (c_X5 l Γ 3 2 0 (by decide)) tw_95 tw_96 tw_69 tw_97 rfl (by decide +kernel) ⟨Nat.le_of_ble_eq_true rfl, Nat.le_of_ble_eq_true rfl⟩ rfl (c' := 4) (s' := 30) rfl rfl (Nat.le_of_ble_eq_true rfl) (Nat.le_of_ble_eq_true rfl) rfl (Nat.le_of_ble_eq_true rfl) (kd kX3_init_0 16 rfl) (fun u4 H locs hu hP hD hS => ?_)
  rw [← hu]
  obtain ⟨E2, hE2⟩ : ∃ z, z = E1 ++ xT Γ 3 2 0 0 u4 := ⟨_, rfl⟩
  have hP : va_P Γ.2.2 vwCl (ws ++ ((a, .inr (3, [.ref (u2 0), .null, .null, .null, .null, .null, .null, .int 0])) :: E2)) H := by rw [hE2]; exact hP
  have hD : va_D (va_A (ws ++ [(a, e0)]) sz) (ws ++ ((a, .inr (3, [.ref (u2 0), .null, .null, .null, .null, .null, .null, .int 0])) :: E2)) := by rw [hE2]; exact hD
  refine xr_putF (i := 1) C hP hD hS 0 rfl (B' := ((a, .inr (3, [.ref (u2 0), .ref (u4 0), .null, .null, .null, .null, .null, .int 0])) :: E2)) rfl rfl inX3 tyX3 tyX3_ok nmX3 (Nat.le_of_ble_eq_true rfl) tw_115 rfl rfl rfl rfl (Nat.le_of_ble_eq_true rfl) (kd kX3_init_0 17 rfl) (fun H locs hP hD hS => ?_)
  refine lv_aload_n C.1 C.2.1 (kd kX3_init_0 18 rfl) rfl (lv_at hl 0 rfl) ?_
  refine xr_new (ci := 5) (fs := [.int 0, .int 0, .null, .int 0]) C hP hD hS hA rfl inX5 tyX5 tyX5_ok tw_93 tw_94 tw_69 (fun j hj => by rcases (show j = 0 ∨ j = 1 ∨ j = 2 ∨ j = 3 by omega) with rfl | rfl | rfl | rfl <;> rfl) (c' := 5) (s' := 34) rfl rfl (Nat.le_of_ble_eq_true rfl) (Nat.le_of_ble_eq_true rfl) (kd kX3_init_0 19 rfl) (fun q5 H hP hD hS => ?_)
  refine lv_dup C.1 C.2.1 (kd kX3_init_0 20 rfl) rfl ?_
  refine lv_bipush (v := (12 : Int32)) C.1 C.2.1 (kd kX3_init_0 21 rfl) (by decide) ?_
  refine lv_iconst (v := (4 : Int32)) C.1 C.2.1 (kd kX3_init_0 22 rfl) (by decide) ?_
  refine lv_iconst (v := (0 : Int32)) C.1 C.2.1 (kd kX3_init_0 23 rfl) (by decide) ?_
  refine xr_call (av := [.int (12 : Int32), .int (4 : Int32), .int (0 : Int32)]) (rest := [.ref q5, .ref a]) (n := 3) C hl.1 hP hD hS hA (c_X5 l Γ 12 4 0 (by decide)) tw_95 tw_96 tw_69 tw_97 rfl (by decide +kernel) ⟨Nat.le_of_ble_eq_true rfl, Nat.le_of_ble_eq_true rfl⟩ rfl (c' := 6) (s' := 82) rfl rfl (Nat.le_of_ble_eq_true rfl) (Nat.le_of_ble_eq_true rfl) rfl (Nat.le_of_ble_eq_true rfl) (kd kX3_init_0 24 rfl) (fun u6 H locs hu hP hD hS => ?_)
  rw [← hu]
  obtain ⟨E3, hE3⟩ : ∃ z, z = E2 ++ xT Γ 12 4 0 0 u6 := ⟨_, rfl⟩
  have hP : va_P Γ.2.2 vwCl (ws ++ ((a, .inr (3, [.ref (u2 0), .ref (u4 0), .null, .null, .null, .null, .null, .int 0])) :: E3)) H := by rw [hE3]; exact hP
  have hD : va_D (va_A (ws ++ [(a, e0)]) sz) (ws ++ ((a, .inr (3, [.ref (u2 0), .ref (u4 0), .null, .null, .null, .null, .null, .int 0])) :: E3)) := by rw [hE3]; exact hD
  refine xr_putF (i := 2) C hP hD hS 0 rfl (B' := ((a, .inr (3, [.ref (u2 0), .ref (u4 0), .ref (u6 0), .null, .null, .null, .null, .int 0])) :: E3)) rfl rfl inX3 tyX3 tyX3_ok nmX3 (Nat.le_of_ble_eq_true rfl) tw_117 rfl rfl rfl rfl (Nat.le_of_ble_eq_true rfl) (kd kX3_init_0 25 rfl) (fun H locs hP hD hS => ?_)
  refine lv_aload_n C.1 C.2.1 (kd kX3_init_0 26 rfl) rfl (lv_at hl 0 rfl) ?_
  refine xr_new (ci := 5) (fs := [.int 0, .int 0, .null, .int 0]) C hP hD hS hA rfl inX5 tyX5 tyX5_ok tw_93 tw_94 tw_69 (fun j hj => by rcases (show j = 0 ∨ j = 1 ∨ j = 2 ∨ j = 3 by omega) with rfl | rfl | rfl | rfl <;> rfl) (c' := 7) (s' := 86) rfl rfl (Nat.le_of_ble_eq_true rfl) (Nat.le_of_ble_eq_true rfl) (kd kX3_init_0 27 rfl) (fun q7 H hP hD hS => ?_)
  refine lv_dup C.1 C.2.1 (kd kX3_init_0 28 rfl) rfl ?_
  refine lv_bipush (v := (24 : Int32)) C.1 C.2.1 (kd kX3_init_0 29 rfl) (by decide) ?_
  refine lv_iconst (v := (3 : Int32)) C.1 C.2.1 (kd kX3_init_0 30 rfl) (by decide) ?_
  refine lv_iconst (v := (0 : Int32)) C.1 C.2.1 (kd kX3_init_0 31 rfl) (by decide) ?_
  refine xr_call (av := [.int (24 : Int32), .int (3 : Int32), .int (0 : Int32)]) (rest := [.ref q7, .ref a]) (n := 3) C hl.1 hP hD hS hA (c_X5 l Γ 24 3 0 (by decide)) tw_95 tw_96 tw_69 tw_97 rfl (by decide +kernel) ⟨Nat.le_of_ble_eq_true rfl, Nat.le_of_ble_eq_true rfl⟩ rfl (c' := 8) (s' := 158) rfl rfl (Nat.le_of_ble_eq_true rfl) (Nat.le_of_ble_eq_true rfl) rfl (Nat.le_of_ble_eq_true rfl) (kd kX3_init_0 32 rfl) (fun u8 H locs hu hP hD hS => ?_)
  rw [← hu]
  obtain ⟨E4, hE4⟩ : ∃ z, z = E3 ++ xT Γ 24 3 0 0 u8 := ⟨_, rfl⟩
  have hP : va_P Γ.2.2 vwCl (ws ++ ((a, .inr (3, [.ref (u2 0), .ref (u4 0), .ref (u6 0), .null, .null, .null, .null, .int 0])) :: E4)) H := by rw [hE4]; exact hP
  have hD : va_D (va_A (ws ++ [(a, e0)]) sz) (ws ++ ((a, .inr (3, [.ref (u2 0), .ref (u4 0), .ref (u6 0), .null, .null, .null, .null, .int 0])) :: E4)) := by rw [hE4]; exact hD
  refine xr_putF (i := 3) C hP hD hS 0 rfl (B' := ((a, .inr (3, [.ref (u2 0), .ref (u4 0), .ref (u6 0), .ref (u8 0), .null, .null, .null, .int 0])) :: E4)) rfl rfl inX3 tyX3 tyX3_ok nmX3 (Nat.le_of_ble_eq_true rfl) tw_121 rfl rfl rfl rfl (Nat.le_of_ble_eq_true rfl) (kd kX3_init_0 33 rfl) (fun H locs hP hD hS => ?_)
  refine lv_aload_n C.1 C.2.1 (kd kX3_init_0 34 rfl) rfl (lv_at hl 0 rfl) ?_
  refine xr_new (ci := 5) (fs := [.int 0, .int 0, .null, .int 0]) C hP hD hS hA rfl inX5 tyX5 tyX5_ok tw_93 tw_94 tw_69 (fun j hj => by rcases (show j = 0 ∨ j = 1 ∨ j = 2 ∨ j = 3 by omega) with rfl | rfl | rfl | rfl <;> rfl) (c' := 9) (s' := 162) rfl rfl (Nat.le_of_ble_eq_true rfl) (Nat.le_of_ble_eq_true rfl) (kd kX3_init_0 35 rfl) (fun q9 H hP hD hS => ?_)
  refine lv_dup C.1 C.2.1 (kd kX3_init_0 36 rfl) rfl ?_
  refine lv_bipush (v := (8 : Int32)) C.1 C.2.1 (kd kX3_init_0 37 rfl) (by decide) ?_
  refine lv_iconst (v := (4 : Int32)) C.1 C.2.1 (kd kX3_init_0 38 rfl) (by decide) ?_
  refine lv_iconst (v := (0 : Int32)) C.1 C.2.1 (kd kX3_init_0 39 rfl) (by decide) ?_
  refine xr_call (av := [.int (8 : Int32), .int (4 : Int32), .int (0 : Int32)]) (rest := [.ref q9, .ref a]) (n := 3) C hl.1 hP hD hS hA (c_X5 l Γ 8 4 0 (by decide)) tw_95 tw_96 tw_69 tw_97 rfl (by decide +kernel) ⟨Nat.le_of_ble_eq_true rfl, Nat.le_of_ble_eq_true rfl⟩ rfl (c' := 10) (s' := 194) rfl rfl (Nat.le_of_ble_eq_true rfl) (Nat.le_of_ble_eq_true rfl) rfl (Nat.le_of_ble_eq_true rfl) (kd kX3_init_0 40 rfl) (fun u10 H locs hu hP hD hS => ?_)
  rw [← hu]
  obtain ⟨E5, hE5⟩ : ∃ z, z = E4 ++ xT Γ 8 4 0 0 u10 := ⟨_, rfl⟩
  have hP : va_P Γ.2.2 vwCl (ws ++ ((a, .inr (3, [.ref (u2 0), .ref (u4 0), .ref (u6 0), .ref (u8 0), .null, .null, .null, .int 0])) :: E5)) H := by rw [hE5]; exact hP
  have hD : va_D (va_A (ws ++ [(a, e0)]) sz) (ws ++ ((a, .inr (3, [.ref (u2 0), .ref (u4 0), .ref (u6 0), .ref (u8 0), .null, .null, .null, .int 0])) :: E5)) := by rw [hE5]; exact hD
  refine xr_putF (i := 4) C hP hD hS 0 rfl (B' := ((a, .inr (3, [.ref (u2 0), .ref (u4 0), .ref (u6 0), .ref (u8 0), .ref (u10 0), .null, .null, .int 0])) :: E5)) rfl rfl inX3 tyX3 tyX3_ok nmX3 (Nat.le_of_ble_eq_true rfl) tw_124 rfl rfl rfl rfl (Nat.le_of_ble_eq_true rfl) (kd kX3_init_0 41 rfl) (fun H locs hP hD hS => ?_)
  refine lv_aload_n C.1 C.2.1 (kd kX3_init_0 42 rfl) rfl (lv_at hl 0 rfl) ?_
  refine xr_new (ci := 5) (fs := [.int 0, .int 0, .null, .int 0]) C hP hD hS hA rfl inX5 tyX5 tyX5_ok tw_93 tw_94 tw_69 (fun j hj => by rcases (show j = 0 ∨ j = 1 ∨ j = 2 ∨ j = 3 by omega) with rfl | rfl | rfl | rfl <;> rfl) (c' := 11) (s' := 198) rfl rfl (Nat.le_of_ble_eq_true rfl) (Nat.le_of_ble_eq_true rfl) (kd kX3_init_0 43 rfl) (fun q11 H hP hD hS => ?_)
  refine lv_dup C.1 C.2.1 (kd kX3_init_0 44 rfl) rfl ?_
  refine lv_bipush (v := (49 : Int32)) C.1 C.2.1 (kd kX3_init_0 45 rfl) (by decide) ?_
  refine lv_iconst (v := (1 : Int32)) C.1 C.2.1 (kd kX3_init_0 46 rfl) (by decide) ?_
  refine lv_bipush (v := (49 : Int32)) C.1 C.2.1 (kd kX3_init_0 47 rfl) (by decide) ?_
  refine xr_call (av := [.int (49 : Int32), .int (1 : Int32), .int (49 : Int32)]) (rest := [.ref q11, .ref a]) (n := 3) C hl.1 hP hD hS hA (c_X5 l Γ 49 1 49 (by decide)) tw_95 tw_96 tw_69 tw_97 rfl (by decide +kernel) ⟨Nat.le_of_ble_eq_true rfl, Nat.le_of_ble_eq_true rfl⟩ rfl (c' := 12) (s' := 247) rfl rfl (Nat.le_of_ble_eq_true rfl) (Nat.le_of_ble_eq_true rfl) rfl (Nat.le_of_ble_eq_true rfl) (kd kX3_init_0 48 rfl) (fun u12 H locs hu hP hD hS => ?_)
  rw [← hu]
  obtain ⟨E6, hE6⟩ : ∃ z, z = E5 ++ xT Γ 49 1 49 0 u12 := ⟨_, rfl⟩
  have hP : va_P Γ.2.2 vwCl (ws ++ ((a, .inr (3, [.ref (u2 0), .ref (u4 0), .ref (u6 0), .ref (u8 0), .ref (u10 0), .null, .null, .int 0])) :: E6)) H := by rw [hE6]; exact hP
  have hD : va_D (va_A (ws ++ [(a, e0)]) sz) (ws ++ ((a, .inr (3, [.ref (u2 0), .ref (u4 0), .ref (u6 0), .ref (u8 0), .ref (u10 0), .null, .null, .int 0])) :: E6)) := by rw [hE6]; exact hD
  refine xr_putF (i := 5) C hP hD hS 0 rfl (B' := ((a, .inr (3, [.ref (u2 0), .ref (u4 0), .ref (u6 0), .ref (u8 0), .ref (u10 0), .ref (u12 0), .null, .int 0])) :: E6)) rfl rfl inX3 tyX3 tyX3_ok nmX3 (Nat.le_of_ble_eq_true rfl) tw_127 rfl rfl rfl rfl (Nat.le_of_ble_eq_true rfl) (kd kX3_init_0 49 rfl) (fun H locs hP hD hS => ?_)
  refine lv_aload_n C.1 C.2.1 (kd kX3_init_0 50 rfl) rfl (lv_at hl 0 rfl) ?_
  refine xr_new (ci := 5) (fs := [.int 0, .int 0, .null, .int 0]) C hP hD hS hA rfl inX5 tyX5 tyX5_ok tw_93 tw_94 tw_69 (fun j hj => by rcases (show j = 0 ∨ j = 1 ∨ j = 2 ∨ j = 3 by omega) with rfl | rfl | rfl | rfl <;> rfl) (c' := 13) (s' := 251) rfl rfl (Nat.le_of_ble_eq_true rfl) (Nat.le_of_ble_eq_true rfl) (kd kX3_init_0 51 rfl) (fun q13 H hP hD hS => ?_)
  refine lv_dup C.1 C.2.1 (kd kX3_init_0 52 rfl) rfl ?_
  refine lv_bipush (v := (48 : Int32)) C.1 C.2.1 (kd kX3_init_0 53 rfl) (by decide) ?_
  refine lv_iconst (v := (1 : Int32)) C.1 C.2.1 (kd kX3_init_0 54 rfl) (by decide) ?_
  refine lv_bipush (v := (48 : Int32)) C.1 C.2.1 (kd kX3_init_0 55 rfl) (by decide) ?_
  refine xr_call (av := [.int (48 : Int32), .int (1 : Int32), .int (48 : Int32)]) (rest := [.ref q13, .ref a]) (n := 3) C hl.1 hP hD hS hA (c_X5 l Γ 48 1 48 (by decide)) tw_95 tw_96 tw_69 tw_97 rfl (by decide +kernel) ⟨Nat.le_of_ble_eq_true rfl, Nat.le_of_ble_eq_true rfl⟩ rfl (c' := 14) (s' := 299) rfl rfl (Nat.le_of_ble_eq_true rfl) (Nat.le_of_ble_eq_true rfl) rfl (Nat.le_of_ble_eq_true rfl) (kd kX3_init_0 56 rfl) (fun u14 H locs hu hP hD hS => ?_)
  rw [← hu]
  obtain ⟨E7, hE7⟩ : ∃ z, z = E6 ++ xT Γ 48 1 48 0 u14 := ⟨_, rfl⟩
  have hP : va_P Γ.2.2 vwCl (ws ++ ((a, .inr (3, [.ref (u2 0), .ref (u4 0), .ref (u6 0), .ref (u8 0), .ref (u10 0), .ref (u12 0), .null, .int 0])) :: E7)) H := by rw [hE7]; exact hP
  have hD : va_D (va_A (ws ++ [(a, e0)]) sz) (ws ++ ((a, .inr (3, [.ref (u2 0), .ref (u4 0), .ref (u6 0), .ref (u8 0), .ref (u10 0), .ref (u12 0), .null, .int 0])) :: E7)) := by rw [hE7]; exact hD
  refine xr_putF (i := 6) C hP hD hS 0 rfl (B' := ((a, .inr (3, [.ref (u2 0), .ref (u4 0), .ref (u6 0), .ref (u8 0), .ref (u10 0), .ref (u12 0), .ref (u14 0), .int 0])) :: E7)) rfl rfl inX3 tyX3 tyX3_ok nmX3 (Nat.le_of_ble_eq_true rfl) tw_129 rfl rfl rfl rfl (Nat.le_of_ble_eq_true rfl) (kd kX3_init_0 57 rfl) (fun H locs hP hD hS => ?_)
  refine lv_aload_n C.1 C.2.1 (kd kX3_init_0 58 rfl) rfl (lv_at hl 0 rfl) ?_
  refine lv_bipush (v := (50 : Int32)) C.1 C.2.1 (kd kX3_init_0 59 rfl) (by decide) ?_
  refine xr_put (i := 7) C hP hD hS 0 rfl (B' := ((a, .inr (3, [.ref (u2 0), .ref (u4 0), .ref (u6 0), .ref (u8 0), .ref (u10 0), .ref (u12 0), .ref (u14 0), .int (50 : Int32)])) :: E7)) rfl rfl inX3 tyX3 tyX3_ok nmX3 (Nat.le_of_ble_eq_true rfl) tw_131 rfl rfl rfl (Nat.le_of_ble_eq_true rfl) (kd kX3_init_1 0 rfl) (fun H locs hP hD hS => ?_)
  exact xr_ret (blk := xP Γ 0) C (fun i => if i = 0 then a else if i = 1 then (u2 0) else if i = 2 then (u2 1) else if i = 3 then (u4 0) else if i = 4 then (u4 1) else if i = 5 then (u6 0) else if i = 6 then (u6 1) else if i = 7 then (u8 0) else if i = 8 then (u8 1) else if i = 9 then (u10 0) else if i = 10 then (u10 1) else if i = 11 then (u12 0) else if i = 12 then (u12 1) else if i = 13 then (u14 0) else if i = 14 then (u14 1) else 0) rfl (by rw [hE7, hE6, hE5, hE4, hE3, hE2, hE1, hE0]; rfl) hP hD hS (Nat.le_of_ble_eq_true rfl) (Nat.le_of_ble_eq_true rfl) (kd kX3_init_1 1 rfl)
set_option maxRecDepth 100000 in
set_option maxHeartbeats 4000000 in
theorem c_X1 (l : Launch) (Γ : fGm) : xM l Γ yX1_init cX1_init 2 ({ frames := 3, cells := 91, slots := 1848, locals := 83 } : Room) (.inr (1, [.null, .int 0, .int 0])) [] (xHi Γ 0) := by
  refine xr_enter (own := RX1) (by decide +kernel) rfl rfl (fun _ => Nat.le_of_ble_eq_true rfl) ?_
  intro ws a sz p e s m args below meth c ls H locs C hl hP hD hS hA
  obtain ⟨e0, he0⟩ : ∃ z : va_E, z = .inr (1, [.null, .int 0, .int 0]) := ⟨_, rfl⟩
  rw [← he0] at hD hS hA ⊢
  have hD : va_D (va_A (ws ++ [(a, e0)]) sz) (ws ++ [(a, .inr (1, [.null, .int 0, .int 0]))]) := by rw [← he0]; exact hD
  have hl : lv_has ls 2 [(0, .ref a)] := hl
  obtain ⟨E0, hE0⟩ : ∃ z : va_W, z = [] := ⟨_, rfl⟩
  have hP : va_P Γ.2.2 vwCl (ws ++ ((a, .inr (1, [.null, .int 0, .int 0])) :: E0)) H := by rw [hE0]; exact hP
  have hD : va_D (va_A (ws ++ [(a, e0)]) sz) (ws ++ ((a, .inr (1, [.null, .int 0, .int 0])) :: E0)) := by rw [hE0]; exact hD
  refine lv_aload_n C.1 C.2.1 (kd kX1_init_0 0 rfl) rfl (lv_at hl 0 rfl) ?_
  refine xr_obj C hl.1 tw_155 tw_85 tw_86 (kd kX1_init_0 1 rfl) (Nat.le_of_ble_eq_true rfl) (Nat.le_of_ble_eq_true rfl) ?_
  refine lv_aload_n C.1 C.2.1 (kd kX1_init_0 2 rfl) rfl (lv_at hl 0 rfl) ?_
  refine lv_bipush (v := (6 : Int32)) C.1 C.2.1 (kd kX1_init_0 3 rfl) (by decide) ?_
  refine xr_newp C hP hD hS hA tw_156 (n := (6 : Int32)) (N := 6) (by decide) rfl (Nat.le_of_ble_eq_true rfl) (c' := 1) (s' := 6) rfl rfl (Nat.le_of_ble_eq_true rfl) (Nat.le_of_ble_eq_true rfl) (kd kX1_init_0 4 rfl) (fun q1 H hP hD hS => ?_)
  rw [hE0] at hP hD
  have hP : va_P Γ.2.2 vwCl (ws ++ ((a, .inr (1, [.null, .int 0, .int 0])) :: (q1, .inl (Γ.2.1.2.2, 6, .inr (.inr (.inr (.inr (fun _ => none)))))) :: E0)) H := by rw [hE0]; exact hP
  have hD : va_D (va_A (ws ++ [(a, e0)]) sz) (ws ++ ((a, .inr (1, [.null, .int 0, .int 0])) :: (q1, .inl (Γ.2.1.2.2, 6, .inr (.inr (.inr (.inr (fun _ => none)))))) :: E0)) := by rw [hE0]; exact hD
  refine xr_putF (i := 0) C hP hD hS 0 rfl (B' := ((a, .inr (1, [.ref q1, .int 0, .int 0])) :: (q1, .inl (Γ.2.1.2.2, 6, .inr (.inr (.inr (.inr (fun _ => none)))))) :: E0)) rfl rfl inX1 tyX1 tyX1_ok nmX1 (Nat.le_of_ble_eq_true rfl) tw_159 rfl rfl rfl rfl (Nat.le_of_ble_eq_true rfl) (kd kX1_init_0 5 rfl) (fun H locs hP hD hS => ?_)
  refine lv_iconst (v := (0 : Int32)) C.1 C.2.1 (kd kX1_init_0 6 rfl) (by decide) ?_
  refine lv_istore_n (lv' := [(1, .int (0 : Int32)), (0, .ref a)]) C.1 C.2.1 (kd kX1_init_0 7 rfl) rfl hl (Nat.le_of_ble_eq_true rfl) rfl (fun ls hl => ?_)
  refine lv_iload_n C.1 C.2.1 (kd kX1_init_0 8 rfl) rfl (lv_at hl 0 rfl) ?_
  refine lv_bipush (v := (6 : Int32)) C.1 C.2.1 (kd kX1_init_0 9 rfl) (by decide) ?_
  refine lv_icmp_ge (tgt := 40) C.1 C.2.1 (kd kX1_init_0 10 rfl) (by decide) (fun q => absurd q (by decide)) (fun _ => ?_)
  refine lv_aload_n C.1 C.2.1 (kd kX1_init_0 11 rfl) rfl (lv_at hl 1 rfl) ?_
  refine xr_get (i := 0) (v := .ref q1) C hP 0 rfl rfl inX1 (Nat.le_of_ble_eq_true rfl) tw_159 rfl (kd kX1_init_0 12 rfl) ?_
  refine lv_iload_n C.1 C.2.1 (kd kX1_init_0 13 rfl) rfl (lv_at hl 0 rfl) ?_
  refine xr_new (ci := 3) (fs := [.null, .null, .null, .null, .null, .null, .null, .int 0]) C hP hD hS hA rfl inX3 tyX3 tyX3_ok tw_156 tw_88 tw_68 (fun j hj => by rcases (show j = 0 ∨ j = 1 ∨ j = 2 ∨ j = 3 ∨ j = 4 ∨ j = 5 ∨ j = 6 ∨ j = 7 by omega) with rfl | rfl | rfl | rfl | rfl | rfl | rfl | rfl <;> rfl) (c' := 2) (s' := 14) rfl rfl (Nat.le_of_ble_eq_true rfl) (Nat.le_of_ble_eq_true rfl) (kd kX1_init_0 14 rfl) (fun q2 H hP hD hS => ?_)
  refine lv_dup C.1 C.2.1 (kd kX1_init_0 15 rfl) rfl ?_
  refine xr_call (av := []) (rest := [.ref q2, .int (0 : Int32), .ref q1]) (n := 0) C hl.1 hP hD hS hA (c_X3 l Γ) tw_158 tw_90 tw_68 tw_91 rfl (by decide +kernel) ⟨Nat.le_of_ble_eq_true rfl, Nat.le_of_ble_eq_true rfl⟩ rfl (c' := 16) (s' := 313) rfl rfl (Nat.le_of_ble_eq_true rfl) (Nat.le_of_ble_eq_true rfl) rfl (Nat.le_of_ble_eq_true rfl) (kd kX1_init_0 16 rfl) (fun u3 H locs hu hP hD hS => ?_)
  rw [← hu]
  obtain ⟨E1, hE1⟩ : ∃ z, z = E0 ++ xP Γ 0 u3 := ⟨_, rfl⟩
  have hP : va_P Γ.2.2 vwCl (ws ++ ((a, .inr (1, [.ref q1, .int 0, .int 0])) :: (q1, .inl (Γ.2.1.2.2, 6, .inr (.inr (.inr (.inr (fun _ => none)))))) :: E1)) H := by rw [hE1]; exact hP
  have hD : va_D (va_A (ws ++ [(a, e0)]) sz) (ws ++ ((a, .inr (1, [.ref q1, .int 0, .int 0])) :: (q1, .inl (Γ.2.1.2.2, 6, .inr (.inr (.inr (.inr (fun _ => none)))))) :: E1)) := by rw [hE1]; exact hD
  refine xr_aast C hP hD hS 1 (E0.length + 2) rfl (by rw [hE1]; exact xl_get _ _ _ _ _) (B' := ((a, .inr (1, [.ref q1, .int 0, .int 0])) :: (q1, .inl (Γ.2.1.2.2, 6, .inr (.inr (.inr (.inr (va_up (fun _ => none) 0 (some (u3 0)))))))) :: E1)) rfl (by unfold vp_in; decide) (kd kX1_init_0 17 rfl) (fun H locs hP hD hS => ?_)
  refine lv_iinc (v := (1 : Int32)) (lv' := [(1, .int (1 : Int32)), (0, .ref a)]) C.1 C.2.1 (kd kX1_init_0 18 rfl) hl (k := 0) rfl rfl (Nat.le_of_ble_eq_true rfl) rfl (fun ls hl => ?_)
  refine lv_goto (tgt := 15) C.1 C.2.1 (kd kX1_init_0 19 rfl) (by decide) ?_
  refine lv_iload_n C.1 C.2.1 (kd kX1_init_0 8 rfl) rfl (lv_at hl 0 rfl) ?_
  refine lv_bipush (v := (6 : Int32)) C.1 C.2.1 (kd kX1_init_0 9 rfl) (by decide) ?_
  refine lv_icmp_ge (tgt := 40) C.1 C.2.1 (kd kX1_init_0 10 rfl) (by decide) (fun q => absurd q (by decide)) (fun _ => ?_)
  refine lv_aload_n C.1 C.2.1 (kd kX1_init_0 11 rfl) rfl (lv_at hl 1 rfl) ?_
  refine xr_get (i := 0) (v := .ref q1) C hP 0 rfl rfl inX1 (Nat.le_of_ble_eq_true rfl) tw_159 rfl (kd kX1_init_0 12 rfl) ?_
  refine lv_iload_n C.1 C.2.1 (kd kX1_init_0 13 rfl) rfl (lv_at hl 0 rfl) ?_
  refine xr_new (ci := 3) (fs := [.null, .null, .null, .null, .null, .null, .null, .int 0]) C hP hD hS hA rfl inX3 tyX3 tyX3_ok tw_156 tw_88 tw_68 (fun j hj => by rcases (show j = 0 ∨ j = 1 ∨ j = 2 ∨ j = 3 ∨ j = 4 ∨ j = 5 ∨ j = 6 ∨ j = 7 by omega) with rfl | rfl | rfl | rfl | rfl | rfl | rfl | rfl <;> rfl) (c' := 17) (s' := 321) rfl rfl (Nat.le_of_ble_eq_true rfl) (Nat.le_of_ble_eq_true rfl) (kd kX1_init_0 14 rfl) (fun q4 H hP hD hS => ?_)
  refine lv_dup C.1 C.2.1 (kd kX1_init_0 15 rfl) rfl ?_
  refine xr_call (av := []) (rest := [.ref q4, .int (1 : Int32), .ref q1]) (n := 0) C hl.1 hP hD hS hA (c_X3 l Γ) tw_158 tw_90 tw_68 tw_91 rfl (by decide +kernel) ⟨Nat.le_of_ble_eq_true rfl, Nat.le_of_ble_eq_true rfl⟩ rfl (c' := 31) (s' := 620) rfl rfl (Nat.le_of_ble_eq_true rfl) (Nat.le_of_ble_eq_true rfl) rfl (Nat.le_of_ble_eq_true rfl) (kd kX1_init_0 16 rfl) (fun u5 H locs hu hP hD hS => ?_)
  rw [← hu]
  obtain ⟨E2, hE2⟩ : ∃ z, z = E1 ++ xP Γ 0 u5 := ⟨_, rfl⟩
  have hP : va_P Γ.2.2 vwCl (ws ++ ((a, .inr (1, [.ref q1, .int 0, .int 0])) :: (q1, .inl (Γ.2.1.2.2, 6, .inr (.inr (.inr (.inr (va_up (fun _ => none) 0 (some (u3 0)))))))) :: E2)) H := by rw [hE2]; exact hP
  have hD : va_D (va_A (ws ++ [(a, e0)]) sz) (ws ++ ((a, .inr (1, [.ref q1, .int 0, .int 0])) :: (q1, .inl (Γ.2.1.2.2, 6, .inr (.inr (.inr (.inr (va_up (fun _ => none) 0 (some (u3 0)))))))) :: E2)) := by rw [hE2]; exact hD
  refine xr_aast C hP hD hS 1 (E1.length + 2) rfl (by rw [hE2]; exact xl_get _ _ _ _ _) (B' := ((a, .inr (1, [.ref q1, .int 0, .int 0])) :: (q1, .inl (Γ.2.1.2.2, 6, .inr (.inr (.inr (.inr (va_up (va_up (fun _ => none) 0 (some (u3 0))) 1 (some (u5 0)))))))) :: E2)) rfl (by unfold vp_in; decide) (kd kX1_init_0 17 rfl) (fun H locs hP hD hS => ?_)
  refine lv_iinc (v := (2 : Int32)) (lv' := [(1, .int (2 : Int32)), (0, .ref a)]) C.1 C.2.1 (kd kX1_init_0 18 rfl) hl (k := 0) rfl rfl (Nat.le_of_ble_eq_true rfl) rfl (fun ls hl => ?_)
  refine lv_goto (tgt := 15) C.1 C.2.1 (kd kX1_init_0 19 rfl) (by decide) ?_
  refine lv_iload_n C.1 C.2.1 (kd kX1_init_0 8 rfl) rfl (lv_at hl 0 rfl) ?_
  refine lv_bipush (v := (6 : Int32)) C.1 C.2.1 (kd kX1_init_0 9 rfl) (by decide) ?_
  refine lv_icmp_ge (tgt := 40) C.1 C.2.1 (kd kX1_init_0 10 rfl) (by decide) (fun q => absurd q (by decide)) (fun _ => ?_)
  refine lv_aload_n C.1 C.2.1 (kd kX1_init_0 11 rfl) rfl (lv_at hl 1 rfl) ?_
  refine xr_get (i := 0) (v := .ref q1) C hP 0 rfl rfl inX1 (Nat.le_of_ble_eq_true rfl) tw_159 rfl (kd kX1_init_0 12 rfl) ?_
  refine lv_iload_n C.1 C.2.1 (kd kX1_init_0 13 rfl) rfl (lv_at hl 0 rfl) ?_
  refine xr_new (ci := 3) (fs := [.null, .null, .null, .null, .null, .null, .null, .int 0]) C hP hD hS hA rfl inX3 tyX3 tyX3_ok tw_156 tw_88 tw_68 (fun j hj => by rcases (show j = 0 ∨ j = 1 ∨ j = 2 ∨ j = 3 ∨ j = 4 ∨ j = 5 ∨ j = 6 ∨ j = 7 by omega) with rfl | rfl | rfl | rfl | rfl | rfl | rfl | rfl <;> rfl) (c' := 32) (s' := 628) rfl rfl (Nat.le_of_ble_eq_true rfl) (Nat.le_of_ble_eq_true rfl) (kd kX1_init_0 14 rfl) (fun q6 H hP hD hS => ?_)
  refine lv_dup C.1 C.2.1 (kd kX1_init_0 15 rfl) rfl ?_
  refine xr_call (av := []) (rest := [.ref q6, .int (2 : Int32), .ref q1]) (n := 0) C hl.1 hP hD hS hA (c_X3 l Γ) tw_158 tw_90 tw_68 tw_91 rfl (by decide +kernel) ⟨Nat.le_of_ble_eq_true rfl, Nat.le_of_ble_eq_true rfl⟩ rfl (c' := 46) (s' := 927) rfl rfl (Nat.le_of_ble_eq_true rfl) (Nat.le_of_ble_eq_true rfl) rfl (Nat.le_of_ble_eq_true rfl) (kd kX1_init_0 16 rfl) (fun u7 H locs hu hP hD hS => ?_)
  rw [← hu]
  obtain ⟨E3, hE3⟩ : ∃ z, z = E2 ++ xP Γ 0 u7 := ⟨_, rfl⟩
  have hP : va_P Γ.2.2 vwCl (ws ++ ((a, .inr (1, [.ref q1, .int 0, .int 0])) :: (q1, .inl (Γ.2.1.2.2, 6, .inr (.inr (.inr (.inr (va_up (va_up (fun _ => none) 0 (some (u3 0))) 1 (some (u5 0)))))))) :: E3)) H := by rw [hE3]; exact hP
  have hD : va_D (va_A (ws ++ [(a, e0)]) sz) (ws ++ ((a, .inr (1, [.ref q1, .int 0, .int 0])) :: (q1, .inl (Γ.2.1.2.2, 6, .inr (.inr (.inr (.inr (va_up (va_up (fun _ => none) 0 (some (u3 0))) 1 (some (u5 0)))))))) :: E3)) := by rw [hE3]; exact hD
  refine xr_aast C hP hD hS 1 (E2.length + 2) rfl (by rw [hE3]; exact xl_get _ _ _ _ _) (B' := ((a, .inr (1, [.ref q1, .int 0, .int 0])) :: (q1, .inl (Γ.2.1.2.2, 6, .inr (.inr (.inr (.inr (va_up (va_up (va_up (fun _ => none) 0 (some (u3 0))) 1 (some (u5 0))) 2 (some (u7 0)))))))) :: E3)) rfl (by unfold vp_in; decide) (kd kX1_init_0 17 rfl) (fun H locs hP hD hS => ?_)
  refine lv_iinc (v := (3 : Int32)) (lv' := [(1, .int (3 : Int32)), (0, .ref a)]) C.1 C.2.1 (kd kX1_init_0 18 rfl) hl (k := 0) rfl rfl (Nat.le_of_ble_eq_true rfl) rfl (fun ls hl => ?_)
  refine lv_goto (tgt := 15) C.1 C.2.1 (kd kX1_init_0 19 rfl) (by decide) ?_
  refine lv_iload_n C.1 C.2.1 (kd kX1_init_0 8 rfl) rfl (lv_at hl 0 rfl) ?_
  refine lv_bipush (v := (6 : Int32)) C.1 C.2.1 (kd kX1_init_0 9 rfl) (by decide) ?_
  refine lv_icmp_ge (tgt := 40) C.1 C.2.1 (kd kX1_init_0 10 rfl) (by decide) (fun q => absurd q (by decide)) (fun _ => ?_)
  refine lv_aload_n C.1 C.2.1 (kd kX1_init_0 11 rfl) rfl (lv_at hl 1 rfl) ?_
  refine xr_get (i := 0) (v := .ref q1) C hP 0 rfl rfl inX1 (Nat.le_of_ble_eq_true rfl) tw_159 rfl (kd kX1_init_0 12 rfl) ?_
  refine lv_iload_n C.1 C.2.1 (kd kX1_init_0 13 rfl) rfl (lv_at hl 0 rfl) ?_
  refine xr_new (ci := 3) (fs := [.null, .null, .null, .null, .null, .null, .null, .int 0]) C hP hD hS hA rfl inX3 tyX3 tyX3_ok tw_156 tw_88 tw_68 (fun j hj => by rcases (show j = 0 ∨ j = 1 ∨ j = 2 ∨ j = 3 ∨ j = 4 ∨ j = 5 ∨ j = 6 ∨ j = 7 by omega) with rfl | rfl | rfl | rfl | rfl | rfl | rfl | rfl <;> rfl) (c' := 47) (s' := 935) rfl rfl (Nat.le_of_ble_eq_true rfl) (Nat.le_of_ble_eq_true rfl) (kd kX1_init_0 14 rfl) (fun q8 H hP hD hS => ?_)
  refine lv_dup C.1 C.2.1 (kd kX1_init_0 15 rfl) rfl ?_
  refine xr_call (av := []) (rest := [.ref q8, .int (3 : Int32), .ref q1]) (n := 0) C hl.1 hP hD hS hA (c_X3 l Γ) tw_158 tw_90 tw_68 tw_91 rfl (by decide +kernel) ⟨Nat.le_of_ble_eq_true rfl, Nat.le_of_ble_eq_true rfl⟩ rfl (c' := 61) (s' := 1234) rfl rfl (Nat.le_of_ble_eq_true rfl) (Nat.le_of_ble_eq_true rfl) rfl (Nat.le_of_ble_eq_true rfl) (kd kX1_init_0 16 rfl) (fun u9 H locs hu hP hD hS => ?_)
  rw [← hu]
  obtain ⟨E4, hE4⟩ : ∃ z, z = E3 ++ xP Γ 0 u9 := ⟨_, rfl⟩
  have hP : va_P Γ.2.2 vwCl (ws ++ ((a, .inr (1, [.ref q1, .int 0, .int 0])) :: (q1, .inl (Γ.2.1.2.2, 6, .inr (.inr (.inr (.inr (va_up (va_up (va_up (fun _ => none) 0 (some (u3 0))) 1 (some (u5 0))) 2 (some (u7 0)))))))) :: E4)) H := by rw [hE4]; exact hP
  have hD : va_D (va_A (ws ++ [(a, e0)]) sz) (ws ++ ((a, .inr (1, [.ref q1, .int 0, .int 0])) :: (q1, .inl (Γ.2.1.2.2, 6, .inr (.inr (.inr (.inr (va_up (va_up (va_up (fun _ => none) 0 (some (u3 0))) 1 (some (u5 0))) 2 (some (u7 0)))))))) :: E4)) := by rw [hE4]; exact hD
  refine xr_aast C hP hD hS 1 (E3.length + 2) rfl (by rw [hE4]; exact xl_get _ _ _ _ _) (B' := ((a, .inr (1, [.ref q1, .int 0, .int 0])) :: (q1, .inl (Γ.2.1.2.2, 6, .inr (.inr (.inr (.inr (va_up (va_up (va_up (va_up (fun _ => none) 0 (some (u3 0))) 1 (some (u5 0))) 2 (some (u7 0))) 3 (some (u9 0)))))))) :: E4)) rfl (by unfold vp_in; decide) (kd kX1_init_0 17 rfl) (fun H locs hP hD hS => ?_)
  refine lv_iinc (v := (4 : Int32)) (lv' := [(1, .int (4 : Int32)), (0, .ref a)]) C.1 C.2.1 (kd kX1_init_0 18 rfl) hl (k := 0) rfl rfl (Nat.le_of_ble_eq_true rfl) rfl (fun ls hl => ?_)
  refine lv_goto (tgt := 15) C.1 C.2.1 (kd kX1_init_0 19 rfl) (by decide) ?_
  refine lv_iload_n C.1 C.2.1 (kd kX1_init_0 8 rfl) rfl (lv_at hl 0 rfl) ?_
  refine lv_bipush (v := (6 : Int32)) C.1 C.2.1 (kd kX1_init_0 9 rfl) (by decide) ?_
  refine lv_icmp_ge (tgt := 40) C.1 C.2.1 (kd kX1_init_0 10 rfl) (by decide) (fun q => absurd q (by decide)) (fun _ => ?_)
  refine lv_aload_n C.1 C.2.1 (kd kX1_init_0 11 rfl) rfl (lv_at hl 1 rfl) ?_
  refine xr_get (i := 0) (v := .ref q1) C hP 0 rfl rfl inX1 (Nat.le_of_ble_eq_true rfl) tw_159 rfl (kd kX1_init_0 12 rfl) ?_
  refine lv_iload_n C.1 C.2.1 (kd kX1_init_0 13 rfl) rfl (lv_at hl 0 rfl) ?_
  refine xr_new (ci := 3) (fs := [.null, .null, .null, .null, .null, .null, .null, .int 0]) C hP hD hS hA rfl inX3 tyX3 tyX3_ok tw_156 tw_88 tw_68 (fun j hj => by rcases (show j = 0 ∨ j = 1 ∨ j = 2 ∨ j = 3 ∨ j = 4 ∨ j = 5 ∨ j = 6 ∨ j = 7 by omega) with rfl | rfl | rfl | rfl | rfl | rfl | rfl | rfl <;> rfl) (c' := 62) (s' := 1242) rfl rfl (Nat.le_of_ble_eq_true rfl) (Nat.le_of_ble_eq_true rfl) (kd kX1_init_0 14 rfl) (fun q10 H hP hD hS => ?_)
  refine lv_dup C.1 C.2.1 (kd kX1_init_0 15 rfl) rfl ?_
  refine xr_call (av := []) (rest := [.ref q10, .int (4 : Int32), .ref q1]) (n := 0) C hl.1 hP hD hS hA (c_X3 l Γ) tw_158 tw_90 tw_68 tw_91 rfl (by decide +kernel) ⟨Nat.le_of_ble_eq_true rfl, Nat.le_of_ble_eq_true rfl⟩ rfl (c' := 76) (s' := 1541) rfl rfl (Nat.le_of_ble_eq_true rfl) (Nat.le_of_ble_eq_true rfl) rfl (Nat.le_of_ble_eq_true rfl) (kd kX1_init_0 16 rfl) (fun u11 H locs hu hP hD hS => ?_)
  rw [← hu]
  obtain ⟨E5, hE5⟩ : ∃ z, z = E4 ++ xP Γ 0 u11 := ⟨_, rfl⟩
  have hP : va_P Γ.2.2 vwCl (ws ++ ((a, .inr (1, [.ref q1, .int 0, .int 0])) :: (q1, .inl (Γ.2.1.2.2, 6, .inr (.inr (.inr (.inr (va_up (va_up (va_up (va_up (fun _ => none) 0 (some (u3 0))) 1 (some (u5 0))) 2 (some (u7 0))) 3 (some (u9 0)))))))) :: E5)) H := by rw [hE5]; exact hP
  have hD : va_D (va_A (ws ++ [(a, e0)]) sz) (ws ++ ((a, .inr (1, [.ref q1, .int 0, .int 0])) :: (q1, .inl (Γ.2.1.2.2, 6, .inr (.inr (.inr (.inr (va_up (va_up (va_up (va_up (fun _ => none) 0 (some (u3 0))) 1 (some (u5 0))) 2 (some (u7 0))) 3 (some (u9 0)))))))) :: E5)) := by rw [hE5]; exact hD
  refine xr_aast C hP hD hS 1 (E4.length + 2) rfl (by rw [hE5]; exact xl_get _ _ _ _ _) (B' := ((a, .inr (1, [.ref q1, .int 0, .int 0])) :: (q1, .inl (Γ.2.1.2.2, 6, .inr (.inr (.inr (.inr (va_up (va_up (va_up (va_up (va_up (fun _ => none) 0 (some (u3 0))) 1 (some (u5 0))) 2 (some (u7 0))) 3 (some (u9 0))) 4 (some (u11 0)))))))) :: E5)) rfl (by unfold vp_in; decide) (kd kX1_init_0 17 rfl) (fun H locs hP hD hS => ?_)
  refine lv_iinc (v := (5 : Int32)) (lv' := [(1, .int (5 : Int32)), (0, .ref a)]) C.1 C.2.1 (kd kX1_init_0 18 rfl) hl (k := 0) rfl rfl (Nat.le_of_ble_eq_true rfl) rfl (fun ls hl => ?_)
  refine lv_goto (tgt := 15) C.1 C.2.1 (kd kX1_init_0 19 rfl) (by decide) ?_
  refine lv_iload_n C.1 C.2.1 (kd kX1_init_0 8 rfl) rfl (lv_at hl 0 rfl) ?_
  refine lv_bipush (v := (6 : Int32)) C.1 C.2.1 (kd kX1_init_0 9 rfl) (by decide) ?_
  refine lv_icmp_ge (tgt := 40) C.1 C.2.1 (kd kX1_init_0 10 rfl) (by decide) (fun q => absurd q (by decide)) (fun _ => ?_)
  refine lv_aload_n C.1 C.2.1 (kd kX1_init_0 11 rfl) rfl (lv_at hl 1 rfl) ?_
  refine xr_get (i := 0) (v := .ref q1) C hP 0 rfl rfl inX1 (Nat.le_of_ble_eq_true rfl) tw_159 rfl (kd kX1_init_0 12 rfl) ?_
  refine lv_iload_n C.1 C.2.1 (kd kX1_init_0 13 rfl) rfl (lv_at hl 0 rfl) ?_
  refine xr_new (ci := 3) (fs := [.null, .null, .null, .null, .null, .null, .null, .int 0]) C hP hD hS hA rfl inX3 tyX3 tyX3_ok tw_156 tw_88 tw_68 (fun j hj => by rcases (show j = 0 ∨ j = 1 ∨ j = 2 ∨ j = 3 ∨ j = 4 ∨ j = 5 ∨ j = 6 ∨ j = 7 by omega) with rfl | rfl | rfl | rfl | rfl | rfl | rfl | rfl <;> rfl) (c' := 77) (s' := 1549) rfl rfl (Nat.le_of_ble_eq_true rfl) (Nat.le_of_ble_eq_true rfl) (kd kX1_init_0 14 rfl) (fun q12 H hP hD hS => ?_)
  refine lv_dup C.1 C.2.1 (kd kX1_init_0 15 rfl) rfl ?_
  refine xr_call (av := []) (rest := [.ref q12, .int (5 : Int32), .ref q1]) (n := 0) C hl.1 hP hD hS hA (c_X3 l Γ) tw_158 tw_90 tw_68 tw_91 rfl (by decide +kernel) ⟨Nat.le_of_ble_eq_true rfl, Nat.le_of_ble_eq_true rfl⟩ rfl (c' := 91) (s' := 1848) rfl rfl (Nat.le_of_ble_eq_true rfl) (Nat.le_of_ble_eq_true rfl) rfl (Nat.le_of_ble_eq_true rfl) (kd kX1_init_0 16 rfl) (fun u13 H locs hu hP hD hS => ?_)
  rw [← hu]
  obtain ⟨E6, hE6⟩ : ∃ z, z = E5 ++ xP Γ 0 u13 := ⟨_, rfl⟩
  have hP : va_P Γ.2.2 vwCl (ws ++ ((a, .inr (1, [.ref q1, .int 0, .int 0])) :: (q1, .inl (Γ.2.1.2.2, 6, .inr (.inr (.inr (.inr (va_up (va_up (va_up (va_up (va_up (fun _ => none) 0 (some (u3 0))) 1 (some (u5 0))) 2 (some (u7 0))) 3 (some (u9 0))) 4 (some (u11 0)))))))) :: E6)) H := by rw [hE6]; exact hP
  have hD : va_D (va_A (ws ++ [(a, e0)]) sz) (ws ++ ((a, .inr (1, [.ref q1, .int 0, .int 0])) :: (q1, .inl (Γ.2.1.2.2, 6, .inr (.inr (.inr (.inr (va_up (va_up (va_up (va_up (va_up (fun _ => none) 0 (some (u3 0))) 1 (some (u5 0))) 2 (some (u7 0))) 3 (some (u9 0))) 4 (some (u11 0)))))))) :: E6)) := by rw [hE6]; exact hD
  refine xr_aast C hP hD hS 1 (E5.length + 2) rfl (by rw [hE6]; exact xl_get _ _ _ _ _) (B' := ((a, .inr (1, [.ref q1, .int 0, .int 0])) :: (q1, .inl (Γ.2.1.2.2, 6, .inr (.inr (.inr (.inr (va_up (va_up (va_up (va_up (va_up (va_up (fun _ => none) 0 (some (u3 0))) 1 (some (u5 0))) 2 (some (u7 0))) 3 (some (u9 0))) 4 (some (u11 0))) 5 (some (u13 0)))))))) :: E6)) rfl (by unfold vp_in; decide) (kd kX1_init_0 17 rfl) (fun H locs hP hD hS => ?_)
  refine lv_iinc (v := (6 : Int32)) (lv' := [(1, .int (6 : Int32)), (0, .ref a)]) C.1 C.2.1 (kd kX1_init_0 18 rfl) hl (k := 0) rfl rfl (Nat.le_of_ble_eq_true rfl) rfl (fun ls hl => ?_)
  refine lv_goto (tgt := 15) C.1 C.2.1 (kd kX1_init_0 19 rfl) (by decide) ?_
  refine lv_iload_n C.1 C.2.1 (kd kX1_init_0 8 rfl) rfl (lv_at hl 0 rfl) ?_
  refine lv_bipush (v := (6 : Int32)) C.1 C.2.1 (kd kX1_init_0 9 rfl) (by decide) ?_
  refine lv_icmp_ge (tgt := 40) C.1 C.2.1 (kd kX1_init_0 10 rfl) (by decide) (fun _ => ?_) (fun q => absurd (by decide) q)
  refine lv_aload_n C.1 C.2.1 (kd kX1_init_0 20 rfl) rfl (lv_at hl 1 rfl) ?_
  refine lv_iconst (v := (0 : Int32)) C.1 C.2.1 (kd kX1_init_0 21 rfl) (by decide) ?_
  refine xr_put (i := 1) C hP hD hS 0 rfl (B' := ((a, .inr (1, [.ref q1, .int (0 : Int32), .int 0])) :: (q1, .inl (Γ.2.1.2.2, 6, .inr (.inr (.inr (.inr (va_up (va_up (va_up (va_up (va_up (va_up (fun _ => none) 0 (some (u3 0))) 1 (some (u5 0))) 2 (some (u7 0))) 3 (some (u9 0))) 4 (some (u11 0))) 5 (some (u13 0)))))))) :: E6)) rfl rfl inX1 tyX1 tyX1_ok nmX1 (Nat.le_of_ble_eq_true rfl) tw_160 rfl rfl rfl (Nat.le_of_ble_eq_true rfl) (kd kX1_init_0 22 rfl) (fun H locs hP hD hS => ?_)
  refine lv_aload_n C.1 C.2.1 (kd kX1_init_0 23 rfl) rfl (lv_at hl 1 rfl) ?_
  refine lv_iconst (v := (0 : Int32)) C.1 C.2.1 (kd kX1_init_0 24 rfl) (by decide) ?_
  refine xr_put (i := 2) C hP hD hS 0 rfl (B' := ((a, .inr (1, [.ref q1, .int (0 : Int32), .int (0 : Int32)])) :: (q1, .inl (Γ.2.1.2.2, 6, .inr (.inr (.inr (.inr (va_up (va_up (va_up (va_up (va_up (va_up (fun _ => none) 0 (some (u3 0))) 1 (some (u5 0))) 2 (some (u7 0))) 3 (some (u9 0))) 4 (some (u11 0))) 5 (some (u13 0)))))))) :: E6)) rfl rfl inX1 tyX1 tyX1_ok nmX1 (Nat.le_of_ble_eq_true rfl) tw_161 rfl rfl rfl (Nat.le_of_ble_eq_true rfl) (kd kX1_init_0 25 rfl) (fun H locs hP hD hS => ?_)
  exact xr_ret (blk := xHi Γ 0) C (fun i => if i = 0 then a else if i = 1 then q1 else if i < 17 then u3 (i - 2) else if i < 32 then u5 (i - 17) else if i < 47 then u7 (i - 32) else if i < 62 then u9 (i - 47) else if i < 77 then u11 (i - 62) else if i < 92 then u13 (i - 77) else 0) rfl (by rw [hE6, hE5, hE4, hE3, hE2, hE1, hE0]; rfl) hP hD hS (Nat.le_of_ble_eq_true rfl) (Nat.le_of_ble_eq_true rfl) (kd kX1_init_0 26 rfl)
set_option maxRecDepth 100000 in
set_option maxHeartbeats 4000000 in
theorem c_X0 (l : Launch) (Γ : fGm) : xM l Γ yX0_init cX0_init 1 ({ frames := 1, cells := 6, slots := 68, locals := 40 } : Room) (.inr (0, [.null, .null, .null, .null, .null, .null])) [] (xDe Γ 0) := by
  refine xr_enter (own := RX0) (by decide +kernel) rfl rfl (fun _ => Nat.le_of_ble_eq_true rfl) ?_
  intro ws a sz p e s m args below meth c ls H locs C hl hP hD hS hA
  obtain ⟨e0, he0⟩ : ∃ z : va_E, z = .inr (0, [.null, .null, .null, .null, .null, .null]) := ⟨_, rfl⟩
  rw [← he0] at hD hS hA ⊢
  have hD : va_D (va_A (ws ++ [(a, e0)]) sz) (ws ++ [(a, .inr (0, [.null, .null, .null, .null, .null, .null]))]) := by rw [← he0]; exact hD
  have hl : lv_has ls 1 [(0, .ref a)] := hl
  obtain ⟨E0, hE0⟩ : ∃ z : va_W, z = [] := ⟨_, rfl⟩
  have hP : va_P Γ.2.2 vwCl (ws ++ ((a, .inr (0, [.null, .null, .null, .null, .null, .null])) :: E0)) H := by rw [hE0]; exact hP
  have hD : va_D (va_A (ws ++ [(a, e0)]) sz) (ws ++ ((a, .inr (0, [.null, .null, .null, .null, .null, .null])) :: E0)) := by rw [hE0]; exact hD
  refine lv_aload_n C.1 C.2.1 (kd kX0_init_0 0 rfl) rfl (lv_at hl 0 rfl) ?_
  refine xr_obj C hl.1 tw_174 tw_85 tw_86 (kd kX0_init_0 1 rfl) (Nat.le_of_ble_eq_true rfl) (Nat.le_of_ble_eq_true rfl) ?_
  refine lv_aload_n C.1 C.2.1 (kd kX0_init_0 2 rfl) rfl (lv_at hl 0 rfl) ?_
  refine lv_bipush (v := (12 : Int32)) C.1 C.2.1 (kd kX0_init_0 3 rfl) (by decide) ?_
  refine xr_newi C hP hD hS hA tw_112 (n := (12 : Int32)) (N := 12) (by decide) rfl (Nat.le_of_ble_eq_true rfl) (c' := 1) (s' := 12) rfl rfl (Nat.le_of_ble_eq_true rfl) (Nat.le_of_ble_eq_true rfl) (kd kX0_init_0 4 rfl) (fun q1 H hP hD hS => ?_)
  obtain ⟨E1, hE1⟩ : ∃ z, z = E0 ++ [(q1, .inl (Γ.2.1.1, 12, .inl (fun _ => 0)))] := ⟨_, rfl⟩
  have hP : va_P Γ.2.2 vwCl (ws ++ ((a, .inr (0, [.null, .null, .null, .null, .null, .null])) :: E1)) H := by rw [hE1]; exact hP
  have hD : va_D (va_A (ws ++ [(a, e0)]) sz) (ws ++ ((a, .inr (0, [.null, .null, .null, .null, .null, .null])) :: E1)) := by rw [hE1]; exact hD
  refine xr_putF (i := 0) C hP hD hS 0 rfl (B' := ((a, .inr (0, [.ref q1, .null, .null, .null, .null, .null])) :: E1)) rfl rfl inX0 tyX0 tyX0_ok nmX0 (Nat.le_of_ble_eq_true rfl) tw_175 rfl rfl rfl rfl (Nat.le_of_ble_eq_true rfl) (kd kX0_init_0 5 rfl) (fun H locs hP hD hS => ?_)
  refine lv_aload_n C.1 C.2.1 (kd kX0_init_0 6 rfl) rfl (lv_at hl 0 rfl) ?_
  refine lv_bipush (v := (12 : Int32)) C.1 C.2.1 (kd kX0_init_0 7 rfl) (by decide) ?_
  refine xr_newi C hP hD hS hA tw_112 (n := (12 : Int32)) (N := 12) (by decide) rfl (Nat.le_of_ble_eq_true rfl) (c' := 2) (s' := 24) rfl rfl (Nat.le_of_ble_eq_true rfl) (Nat.le_of_ble_eq_true rfl) (kd kX0_init_0 8 rfl) (fun q2 H hP hD hS => ?_)
  obtain ⟨E2, hE2⟩ : ∃ z, z = E1 ++ [(q2, .inl (Γ.2.1.1, 12, .inl (fun _ => 0)))] := ⟨_, rfl⟩
  have hP : va_P Γ.2.2 vwCl (ws ++ ((a, .inr (0, [.ref q1, .null, .null, .null, .null, .null])) :: E2)) H := by rw [hE2]; exact hP
  have hD : va_D (va_A (ws ++ [(a, e0)]) sz) (ws ++ ((a, .inr (0, [.ref q1, .null, .null, .null, .null, .null])) :: E2)) := by rw [hE2]; exact hD
  refine xr_putF (i := 1) C hP hD hS 0 rfl (B' := ((a, .inr (0, [.ref q1, .ref q2, .null, .null, .null, .null])) :: E2)) rfl rfl inX0 tyX0 tyX0_ok nmX0 (Nat.le_of_ble_eq_true rfl) tw_178 rfl rfl rfl rfl (Nat.le_of_ble_eq_true rfl) (kd kX0_init_0 9 rfl) (fun H locs hP hD hS => ?_)
  refine lv_aload_n C.1 C.2.1 (kd kX0_init_0 10 rfl) rfl (lv_at hl 0 rfl) ?_
  refine lv_bipush (v := (12 : Int32)) C.1 C.2.1 (kd kX0_init_0 11 rfl) (by decide) ?_
  refine xr_newi C hP hD hS hA tw_112 (n := (12 : Int32)) (N := 12) (by decide) rfl (Nat.le_of_ble_eq_true rfl) (c' := 3) (s' := 36) rfl rfl (Nat.le_of_ble_eq_true rfl) (Nat.le_of_ble_eq_true rfl) (kd kX0_init_0 12 rfl) (fun q3 H hP hD hS => ?_)
  obtain ⟨E3, hE3⟩ : ∃ z, z = E2 ++ [(q3, .inl (Γ.2.1.1, 12, .inl (fun _ => 0)))] := ⟨_, rfl⟩
  have hP : va_P Γ.2.2 vwCl (ws ++ ((a, .inr (0, [.ref q1, .ref q2, .null, .null, .null, .null])) :: E3)) H := by rw [hE3]; exact hP
  have hD : va_D (va_A (ws ++ [(a, e0)]) sz) (ws ++ ((a, .inr (0, [.ref q1, .ref q2, .null, .null, .null, .null])) :: E3)) := by rw [hE3]; exact hD
  refine xr_putF (i := 2) C hP hD hS 0 rfl (B' := ((a, .inr (0, [.ref q1, .ref q2, .ref q3, .null, .null, .null])) :: E3)) rfl rfl inX0 tyX0 tyX0_ok nmX0 (Nat.le_of_ble_eq_true rfl) tw_179 rfl rfl rfl rfl (Nat.le_of_ble_eq_true rfl) (kd kX0_init_0 13 rfl) (fun H locs hP hD hS => ?_)
  refine lv_aload_n C.1 C.2.1 (kd kX0_init_0 14 rfl) rfl (lv_at hl 0 rfl) ?_
  refine lv_bipush (v := (12 : Int32)) C.1 C.2.1 (kd kX0_init_0 15 rfl) (by decide) ?_
  refine xr_newi C hP hD hS hA tw_112 (n := (12 : Int32)) (N := 12) (by decide) rfl (Nat.le_of_ble_eq_true rfl) (c' := 4) (s' := 48) rfl rfl (Nat.le_of_ble_eq_true rfl) (Nat.le_of_ble_eq_true rfl) (kd kX0_init_0 16 rfl) (fun q4 H hP hD hS => ?_)
  obtain ⟨E4, hE4⟩ : ∃ z, z = E3 ++ [(q4, .inl (Γ.2.1.1, 12, .inl (fun _ => 0)))] := ⟨_, rfl⟩
  have hP : va_P Γ.2.2 vwCl (ws ++ ((a, .inr (0, [.ref q1, .ref q2, .ref q3, .null, .null, .null])) :: E4)) H := by rw [hE4]; exact hP
  have hD : va_D (va_A (ws ++ [(a, e0)]) sz) (ws ++ ((a, .inr (0, [.ref q1, .ref q2, .ref q3, .null, .null, .null])) :: E4)) := by rw [hE4]; exact hD
  refine xr_putF (i := 3) C hP hD hS 0 rfl (B' := ((a, .inr (0, [.ref q1, .ref q2, .ref q3, .ref q4, .null, .null])) :: E4)) rfl rfl inX0 tyX0 tyX0_ok nmX0 (Nat.le_of_ble_eq_true rfl) tw_180 rfl rfl rfl rfl (Nat.le_of_ble_eq_true rfl) (kd kX0_init_0 17 rfl) (fun H locs hP hD hS => ?_)
  refine lv_aload_n C.1 C.2.1 (kd kX0_init_0 18 rfl) rfl (lv_at hl 0 rfl) ?_
  refine lv_bipush (v := (12 : Int32)) C.1 C.2.1 (kd kX0_init_0 19 rfl) (by decide) ?_
  refine xr_newi C hP hD hS hA tw_112 (n := (12 : Int32)) (N := 12) (by decide) rfl (Nat.le_of_ble_eq_true rfl) (c' := 5) (s' := 60) rfl rfl (Nat.le_of_ble_eq_true rfl) (Nat.le_of_ble_eq_true rfl) (kd kX0_init_0 20 rfl) (fun q5 H hP hD hS => ?_)
  obtain ⟨E5, hE5⟩ : ∃ z, z = E4 ++ [(q5, .inl (Γ.2.1.1, 12, .inl (fun _ => 0)))] := ⟨_, rfl⟩
  have hP : va_P Γ.2.2 vwCl (ws ++ ((a, .inr (0, [.ref q1, .ref q2, .ref q3, .ref q4, .null, .null])) :: E5)) H := by rw [hE5]; exact hP
  have hD : va_D (va_A (ws ++ [(a, e0)]) sz) (ws ++ ((a, .inr (0, [.ref q1, .ref q2, .ref q3, .ref q4, .null, .null])) :: E5)) := by rw [hE5]; exact hD
  refine xr_putF (i := 4) C hP hD hS 0 rfl (B' := ((a, .inr (0, [.ref q1, .ref q2, .ref q3, .ref q4, .ref q5, .null])) :: E5)) rfl rfl inX0 tyX0 tyX0_ok nmX0 (Nat.le_of_ble_eq_true rfl) tw_181 rfl rfl rfl rfl (Nat.le_of_ble_eq_true rfl) (kd kX0_init_0 21 rfl) (fun H locs hP hD hS => ?_)
  refine lv_aload_n C.1 C.2.1 (kd kX0_init_0 22 rfl) rfl (lv_at hl 0 rfl) ?_
  refine lv_bipush (v := (8 : Int32)) C.1 C.2.1 (kd kX0_init_0 23 rfl) (by decide) ?_
  refine xr_newi C hP hD hS hA tw_112 (n := (8 : Int32)) (N := 8) (by decide) rfl (Nat.le_of_ble_eq_true rfl) (c' := 6) (s' := 68) rfl rfl (Nat.le_of_ble_eq_true rfl) (Nat.le_of_ble_eq_true rfl) (kd kX0_init_0 24 rfl) (fun q6 H hP hD hS => ?_)
  obtain ⟨E6, hE6⟩ : ∃ z, z = E5 ++ [(q6, .inl (Γ.2.1.1, 8, .inl (fun _ => 0)))] := ⟨_, rfl⟩
  have hP : va_P Γ.2.2 vwCl (ws ++ ((a, .inr (0, [.ref q1, .ref q2, .ref q3, .ref q4, .ref q5, .null])) :: E6)) H := by rw [hE6]; exact hP
  have hD : va_D (va_A (ws ++ [(a, e0)]) sz) (ws ++ ((a, .inr (0, [.ref q1, .ref q2, .ref q3, .ref q4, .ref q5, .null])) :: E6)) := by rw [hE6]; exact hD
  refine xr_putF (i := 5) C hP hD hS 0 rfl (B' := ((a, .inr (0, [.ref q1, .ref q2, .ref q3, .ref q4, .ref q5, .ref q6])) :: E6)) rfl rfl inX0 tyX0 tyX0_ok nmX0 (Nat.le_of_ble_eq_true rfl) tw_182 rfl rfl rfl rfl (Nat.le_of_ble_eq_true rfl) (kd kX0_init_0 25 rfl) (fun H locs hP hD hS => ?_)
  exact xr_ret (blk := xDe Γ 0) C (fun i => if i = 0 then a else if i = 1 then q1 else if i = 2 then q2 else if i = 3 then q3 else if i = 4 then q4 else if i = 5 then q5 else if i = 6 then q6 else 0) rfl (by rw [hE6, hE5, hE4, hE3, hE2, hE1, hE0]; rfl) hP hD hS (Nat.le_of_ble_eq_true rfl) (Nat.le_of_ble_eq_true rfl) (kd kX0_init_0 26 rfl)
set_option maxRecDepth 100000 in
set_option maxHeartbeats 4000000 in
theorem c_X2 (l : Launch) (Γ : fGm) : xM l Γ yX2_init cX2_init 1 ({ frames := 1, cells := 11, slots := 568, locals := 40 } : Room) (.inr (2, [.null, .null, .null, .null, .null, .null, .null, .null, .null, .null, .null])) [] (xLo Γ 0) := by
  refine xr_enter (own := RX2) (by decide +kernel) rfl rfl (fun _ => Nat.le_of_ble_eq_true rfl) ?_
  intro ws a sz p e s m args below meth c ls H locs C hl hP hD hS hA
  obtain ⟨e0, he0⟩ : ∃ z : va_E, z = .inr (2, [.null, .null, .null, .null, .null, .null, .null, .null, .null, .null, .null]) := ⟨_, rfl⟩
  rw [← he0] at hD hS hA ⊢
  have hD : va_D (va_A (ws ++ [(a, e0)]) sz) (ws ++ [(a, .inr (2, [.null, .null, .null, .null, .null, .null, .null, .null, .null, .null, .null]))]) := by rw [← he0]; exact hD
  have hl : lv_has ls 1 [(0, .ref a)] := hl
  obtain ⟨E0, hE0⟩ : ∃ z : va_W, z = [] := ⟨_, rfl⟩
  have hP : va_P Γ.2.2 vwCl (ws ++ ((a, .inr (2, [.null, .null, .null, .null, .null, .null, .null, .null, .null, .null, .null])) :: E0)) H := by rw [hE0]; exact hP
  have hD : va_D (va_A (ws ++ [(a, e0)]) sz) (ws ++ ((a, .inr (2, [.null, .null, .null, .null, .null, .null, .null, .null, .null, .null, .null])) :: E0)) := by rw [hE0]; exact hD
  refine lv_aload_n C.1 C.2.1 (kd kX2_init_0 0 rfl) rfl (lv_at hl 0 rfl) ?_
  refine xr_obj C hl.1 tw_202 tw_85 tw_86 (kd kX2_init_0 1 rfl) (Nat.le_of_ble_eq_true rfl) (Nat.le_of_ble_eq_true rfl) ?_
  refine lv_aload_n C.1 C.2.1 (kd kX2_init_0 2 rfl) rfl (lv_at hl 0 rfl) ?_
  refine lv_bipush (v := (12 : Int32)) C.1 C.2.1 (kd kX2_init_0 3 rfl) (by decide) ?_
  refine xr_newi C hP hD hS hA tw_112 (n := (12 : Int32)) (N := 12) (by decide) rfl (Nat.le_of_ble_eq_true rfl) (c' := 1) (s' := 12) rfl rfl (Nat.le_of_ble_eq_true rfl) (Nat.le_of_ble_eq_true rfl) (kd kX2_init_0 4 rfl) (fun q1 H hP hD hS => ?_)
  obtain ⟨E1, hE1⟩ : ∃ z, z = E0 ++ [(q1, .inl (Γ.2.1.1, 12, .inl (fun _ => 0)))] := ⟨_, rfl⟩
  have hP : va_P Γ.2.2 vwCl (ws ++ ((a, .inr (2, [.null, .null, .null, .null, .null, .null, .null, .null, .null, .null, .null])) :: E1)) H := by rw [hE1]; exact hP
  have hD : va_D (va_A (ws ++ [(a, e0)]) sz) (ws ++ ((a, .inr (2, [.null, .null, .null, .null, .null, .null, .null, .null, .null, .null, .null])) :: E1)) := by rw [hE1]; exact hD
  refine xr_putF (i := 0) C hP hD hS 0 rfl (B' := ((a, .inr (2, [.ref q1, .null, .null, .null, .null, .null, .null, .null, .null, .null, .null])) :: E1)) rfl rfl inX2 tyX2 tyX2_ok nmX2 (Nat.le_of_ble_eq_true rfl) tw_203 rfl rfl rfl rfl (Nat.le_of_ble_eq_true rfl) (kd kX2_init_0 5 rfl) (fun H locs hP hD hS => ?_)
  refine lv_aload_n C.1 C.2.1 (kd kX2_init_0 6 rfl) rfl (lv_at hl 0 rfl) ?_
  refine lv_bipush (v := (48 : Int32)) C.1 C.2.1 (kd kX2_init_0 7 rfl) (by decide) ?_
  refine xr_newi C hP hD hS hA tw_112 (n := (48 : Int32)) (N := 48) (by decide) rfl (Nat.le_of_ble_eq_true rfl) (c' := 2) (s' := 60) rfl rfl (Nat.le_of_ble_eq_true rfl) (Nat.le_of_ble_eq_true rfl) (kd kX2_init_0 8 rfl) (fun q2 H hP hD hS => ?_)
  obtain ⟨E2, hE2⟩ : ∃ z, z = E1 ++ [(q2, .inl (Γ.2.1.1, 48, .inl (fun _ => 0)))] := ⟨_, rfl⟩
  have hP : va_P Γ.2.2 vwCl (ws ++ ((a, .inr (2, [.ref q1, .null, .null, .null, .null, .null, .null, .null, .null, .null, .null])) :: E2)) H := by rw [hE2]; exact hP
  have hD : va_D (va_A (ws ++ [(a, e0)]) sz) (ws ++ ((a, .inr (2, [.ref q1, .null, .null, .null, .null, .null, .null, .null, .null, .null, .null])) :: E2)) := by rw [hE2]; exact hD
  refine xr_putF (i := 1) C hP hD hS 0 rfl (B' := ((a, .inr (2, [.ref q1, .ref q2, .null, .null, .null, .null, .null, .null, .null, .null, .null])) :: E2)) rfl rfl inX2 tyX2 tyX2_ok nmX2 (Nat.le_of_ble_eq_true rfl) tw_205 rfl rfl rfl rfl (Nat.le_of_ble_eq_true rfl) (kd kX2_init_0 9 rfl) (fun H locs hP hD hS => ?_)
  refine lv_aload_n C.1 C.2.1 (kd kX2_init_0 10 rfl) rfl (lv_at hl 0 rfl) ?_
  refine lv_bipush (v := (24 : Int32)) C.1 C.2.1 (kd kX2_init_0 11 rfl) (by decide) ?_
  refine xr_newi C hP hD hS hA tw_112 (n := (24 : Int32)) (N := 24) (by decide) rfl (Nat.le_of_ble_eq_true rfl) (c' := 3) (s' := 84) rfl rfl (Nat.le_of_ble_eq_true rfl) (Nat.le_of_ble_eq_true rfl) (kd kX2_init_0 12 rfl) (fun q3 H hP hD hS => ?_)
  obtain ⟨E3, hE3⟩ : ∃ z, z = E2 ++ [(q3, .inl (Γ.2.1.1, 24, .inl (fun _ => 0)))] := ⟨_, rfl⟩
  have hP : va_P Γ.2.2 vwCl (ws ++ ((a, .inr (2, [.ref q1, .ref q2, .null, .null, .null, .null, .null, .null, .null, .null, .null])) :: E3)) H := by rw [hE3]; exact hP
  have hD : va_D (va_A (ws ++ [(a, e0)]) sz) (ws ++ ((a, .inr (2, [.ref q1, .ref q2, .null, .null, .null, .null, .null, .null, .null, .null, .null])) :: E3)) := by rw [hE3]; exact hD
  refine xr_putF (i := 2) C hP hD hS 0 rfl (B' := ((a, .inr (2, [.ref q1, .ref q2, .ref q3, .null, .null, .null, .null, .null, .null, .null, .null])) :: E3)) rfl rfl inX2 tyX2 tyX2_ok nmX2 (Nat.le_of_ble_eq_true rfl) tw_207 rfl rfl rfl rfl (Nat.le_of_ble_eq_true rfl) (kd kX2_init_0 13 rfl) (fun H locs hP hD hS => ?_)
  refine lv_aload_n C.1 C.2.1 (kd kX2_init_0 14 rfl) rfl (lv_at hl 0 rfl) ?_
  refine lv_sipush (v := (288 : Int32)) C.1 C.2.1 (kd kX2_init_0 15 rfl) (by decide) ?_
  refine xr_newi C hP hD hS hA tw_112 (n := (288 : Int32)) (N := 288) (by decide) rfl (Nat.le_of_ble_eq_true rfl) (c' := 4) (s' := 372) rfl rfl (Nat.le_of_ble_eq_true rfl) (Nat.le_of_ble_eq_true rfl) (kd kX2_init_0 16 rfl) (fun q4 H hP hD hS => ?_)
  obtain ⟨E4, hE4⟩ : ∃ z, z = E3 ++ [(q4, .inl (Γ.2.1.1, 288, .inl (fun _ => 0)))] := ⟨_, rfl⟩
  have hP : va_P Γ.2.2 vwCl (ws ++ ((a, .inr (2, [.ref q1, .ref q2, .ref q3, .null, .null, .null, .null, .null, .null, .null, .null])) :: E4)) H := by rw [hE4]; exact hP
  have hD : va_D (va_A (ws ++ [(a, e0)]) sz) (ws ++ ((a, .inr (2, [.ref q1, .ref q2, .ref q3, .null, .null, .null, .null, .null, .null, .null, .null])) :: E4)) := by rw [hE4]; exact hD
  refine xr_putF (i := 3) C hP hD hS 0 rfl (B' := ((a, .inr (2, [.ref q1, .ref q2, .ref q3, .ref q4, .null, .null, .null, .null, .null, .null, .null])) :: E4)) rfl rfl inX2 tyX2 tyX2_ok nmX2 (Nat.le_of_ble_eq_true rfl) tw_209 rfl rfl rfl rfl (Nat.le_of_ble_eq_true rfl) (kd kX2_init_0 17 rfl) (fun H locs hP hD hS => ?_)
  refine lv_aload_n C.1 C.2.1 (kd kX2_init_0 18 rfl) rfl (lv_at hl 0 rfl) ?_
  refine lv_bipush (v := (48 : Int32)) C.1 C.2.1 (kd kX2_init_0 19 rfl) (by decide) ?_
  refine xr_newi C hP hD hS hA tw_112 (n := (48 : Int32)) (N := 48) (by decide) rfl (Nat.le_of_ble_eq_true rfl) (c' := 5) (s' := 420) rfl rfl (Nat.le_of_ble_eq_true rfl) (Nat.le_of_ble_eq_true rfl) (kd kX2_init_0 20 rfl) (fun q5 H hP hD hS => ?_)
  obtain ⟨E5, hE5⟩ : ∃ z, z = E4 ++ [(q5, .inl (Γ.2.1.1, 48, .inl (fun _ => 0)))] := ⟨_, rfl⟩
  have hP : va_P Γ.2.2 vwCl (ws ++ ((a, .inr (2, [.ref q1, .ref q2, .ref q3, .ref q4, .null, .null, .null, .null, .null, .null, .null])) :: E5)) H := by rw [hE5]; exact hP
  have hD : va_D (va_A (ws ++ [(a, e0)]) sz) (ws ++ ((a, .inr (2, [.ref q1, .ref q2, .ref q3, .ref q4, .null, .null, .null, .null, .null, .null, .null])) :: E5)) := by rw [hE5]; exact hD
  refine xr_putF (i := 4) C hP hD hS 0 rfl (B' := ((a, .inr (2, [.ref q1, .ref q2, .ref q3, .ref q4, .ref q5, .null, .null, .null, .null, .null, .null])) :: E5)) rfl rfl inX2 tyX2 tyX2_ok nmX2 (Nat.le_of_ble_eq_true rfl) tw_210 rfl rfl rfl rfl (Nat.le_of_ble_eq_true rfl) (kd kX2_init_0 21 rfl) (fun H locs hP hD hS => ?_)
  refine lv_aload_n C.1 C.2.1 (kd kX2_init_0 22 rfl) rfl (lv_at hl 0 rfl) ?_
  refine lv_bipush (v := (48 : Int32)) C.1 C.2.1 (kd kX2_init_0 23 rfl) (by decide) ?_
  refine xr_newi C hP hD hS hA tw_112 (n := (48 : Int32)) (N := 48) (by decide) rfl (Nat.le_of_ble_eq_true rfl) (c' := 6) (s' := 468) rfl rfl (Nat.le_of_ble_eq_true rfl) (Nat.le_of_ble_eq_true rfl) (kd kX2_init_0 24 rfl) (fun q6 H hP hD hS => ?_)
  obtain ⟨E6, hE6⟩ : ∃ z, z = E5 ++ [(q6, .inl (Γ.2.1.1, 48, .inl (fun _ => 0)))] := ⟨_, rfl⟩
  have hP : va_P Γ.2.2 vwCl (ws ++ ((a, .inr (2, [.ref q1, .ref q2, .ref q3, .ref q4, .ref q5, .null, .null, .null, .null, .null, .null])) :: E6)) H := by rw [hE6]; exact hP
  have hD : va_D (va_A (ws ++ [(a, e0)]) sz) (ws ++ ((a, .inr (2, [.ref q1, .ref q2, .ref q3, .ref q4, .ref q5, .null, .null, .null, .null, .null, .null])) :: E6)) := by rw [hE6]; exact hD
  refine xr_putF (i := 5) C hP hD hS 0 rfl (B' := ((a, .inr (2, [.ref q1, .ref q2, .ref q3, .ref q4, .ref q5, .ref q6, .null, .null, .null, .null, .null])) :: E6)) rfl rfl inX2 tyX2 tyX2_ok nmX2 (Nat.le_of_ble_eq_true rfl) tw_211 rfl rfl rfl rfl (Nat.le_of_ble_eq_true rfl) (kd kX2_init_0 25 rfl) (fun H locs hP hD hS => ?_)
  refine lv_aload_n C.1 C.2.1 (kd kX2_init_0 26 rfl) rfl (lv_at hl 0 rfl) ?_
  refine lv_bipush (v := (24 : Int32)) C.1 C.2.1 (kd kX2_init_0 27 rfl) (by decide) ?_
  refine xr_newi C hP hD hS hA tw_112 (n := (24 : Int32)) (N := 24) (by decide) rfl (Nat.le_of_ble_eq_true rfl) (c' := 7) (s' := 492) rfl rfl (Nat.le_of_ble_eq_true rfl) (Nat.le_of_ble_eq_true rfl) (kd kX2_init_0 28 rfl) (fun q7 H hP hD hS => ?_)
  obtain ⟨E7, hE7⟩ : ∃ z, z = E6 ++ [(q7, .inl (Γ.2.1.1, 24, .inl (fun _ => 0)))] := ⟨_, rfl⟩
  have hP : va_P Γ.2.2 vwCl (ws ++ ((a, .inr (2, [.ref q1, .ref q2, .ref q3, .ref q4, .ref q5, .ref q6, .null, .null, .null, .null, .null])) :: E7)) H := by rw [hE7]; exact hP
  have hD : va_D (va_A (ws ++ [(a, e0)]) sz) (ws ++ ((a, .inr (2, [.ref q1, .ref q2, .ref q3, .ref q4, .ref q5, .ref q6, .null, .null, .null, .null, .null])) :: E7)) := by rw [hE7]; exact hD
  refine xr_putF (i := 6) C hP hD hS 0 rfl (B' := ((a, .inr (2, [.ref q1, .ref q2, .ref q3, .ref q4, .ref q5, .ref q6, .ref q7, .null, .null, .null, .null])) :: E7)) rfl rfl inX2 tyX2 tyX2_ok nmX2 (Nat.le_of_ble_eq_true rfl) tw_212 rfl rfl rfl rfl (Nat.le_of_ble_eq_true rfl) (kd kX2_init_0 29 rfl) (fun H locs hP hD hS => ?_)
  refine lv_aload_n C.1 C.2.1 (kd kX2_init_0 30 rfl) rfl (lv_at hl 0 rfl) ?_
  refine lv_bipush (v := (24 : Int32)) C.1 C.2.1 (kd kX2_init_0 31 rfl) (by decide) ?_
  refine xr_newi C hP hD hS hA tw_112 (n := (24 : Int32)) (N := 24) (by decide) rfl (Nat.le_of_ble_eq_true rfl) (c' := 8) (s' := 516) rfl rfl (Nat.le_of_ble_eq_true rfl) (Nat.le_of_ble_eq_true rfl) (kd kX2_init_0 32 rfl) (fun q8 H hP hD hS => ?_)
  obtain ⟨E8, hE8⟩ : ∃ z, z = E7 ++ [(q8, .inl (Γ.2.1.1, 24, .inl (fun _ => 0)))] := ⟨_, rfl⟩
  have hP : va_P Γ.2.2 vwCl (ws ++ ((a, .inr (2, [.ref q1, .ref q2, .ref q3, .ref q4, .ref q5, .ref q6, .ref q7, .null, .null, .null, .null])) :: E8)) H := by rw [hE8]; exact hP
  have hD : va_D (va_A (ws ++ [(a, e0)]) sz) (ws ++ ((a, .inr (2, [.ref q1, .ref q2, .ref q3, .ref q4, .ref q5, .ref q6, .ref q7, .null, .null, .null, .null])) :: E8)) := by rw [hE8]; exact hD
  refine xr_putF (i := 7) C hP hD hS 0 rfl (B' := ((a, .inr (2, [.ref q1, .ref q2, .ref q3, .ref q4, .ref q5, .ref q6, .ref q7, .ref q8, .null, .null, .null])) :: E8)) rfl rfl inX2 tyX2 tyX2_ok nmX2 (Nat.le_of_ble_eq_true rfl) tw_213 rfl rfl rfl rfl (Nat.le_of_ble_eq_true rfl) (kd kX2_init_0 33 rfl) (fun H locs hP hD hS => ?_)
  refine lv_aload_n C.1 C.2.1 (kd kX2_init_0 34 rfl) rfl (lv_at hl 0 rfl) ?_
  refine lv_bipush (v := (24 : Int32)) C.1 C.2.1 (kd kX2_init_0 35 rfl) (by decide) ?_
  refine xr_newi C hP hD hS hA tw_112 (n := (24 : Int32)) (N := 24) (by decide) rfl (Nat.le_of_ble_eq_true rfl) (c' := 9) (s' := 540) rfl rfl (Nat.le_of_ble_eq_true rfl) (Nat.le_of_ble_eq_true rfl) (kd kX2_init_0 36 rfl) (fun q9 H hP hD hS => ?_)
  obtain ⟨E9, hE9⟩ : ∃ z, z = E8 ++ [(q9, .inl (Γ.2.1.1, 24, .inl (fun _ => 0)))] := ⟨_, rfl⟩
  have hP : va_P Γ.2.2 vwCl (ws ++ ((a, .inr (2, [.ref q1, .ref q2, .ref q3, .ref q4, .ref q5, .ref q6, .ref q7, .ref q8, .null, .null, .null])) :: E9)) H := by rw [hE9]; exact hP
  have hD : va_D (va_A (ws ++ [(a, e0)]) sz) (ws ++ ((a, .inr (2, [.ref q1, .ref q2, .ref q3, .ref q4, .ref q5, .ref q6, .ref q7, .ref q8, .null, .null, .null])) :: E9)) := by rw [hE9]; exact hD
  refine xr_putF (i := 8) C hP hD hS 0 rfl (B' := ((a, .inr (2, [.ref q1, .ref q2, .ref q3, .ref q4, .ref q5, .ref q6, .ref q7, .ref q8, .ref q9, .null, .null])) :: E9)) rfl rfl inX2 tyX2 tyX2_ok nmX2 (Nat.le_of_ble_eq_true rfl) tw_214 rfl rfl rfl rfl (Nat.le_of_ble_eq_true rfl) (kd kX2_init_0 37 rfl) (fun H locs hP hD hS => ?_)
  refine lv_aload_n C.1 C.2.1 (kd kX2_init_0 38 rfl) rfl (lv_at hl 0 rfl) ?_
  refine lv_bipush (v := (24 : Int32)) C.1 C.2.1 (kd kX2_init_0 39 rfl) (by decide) ?_
  refine xr_newi C hP hD hS hA tw_112 (n := (24 : Int32)) (N := 24) (by decide) rfl (Nat.le_of_ble_eq_true rfl) (c' := 10) (s' := 564) rfl rfl (Nat.le_of_ble_eq_true rfl) (Nat.le_of_ble_eq_true rfl) (kd kX2_init_0 40 rfl) (fun q10 H hP hD hS => ?_)
  obtain ⟨E10, hE10⟩ : ∃ z, z = E9 ++ [(q10, .inl (Γ.2.1.1, 24, .inl (fun _ => 0)))] := ⟨_, rfl⟩
  have hP : va_P Γ.2.2 vwCl (ws ++ ((a, .inr (2, [.ref q1, .ref q2, .ref q3, .ref q4, .ref q5, .ref q6, .ref q7, .ref q8, .ref q9, .null, .null])) :: E10)) H := by rw [hE10]; exact hP
  have hD : va_D (va_A (ws ++ [(a, e0)]) sz) (ws ++ ((a, .inr (2, [.ref q1, .ref q2, .ref q3, .ref q4, .ref q5, .ref q6, .ref q7, .ref q8, .ref q9, .null, .null])) :: E10)) := by rw [hE10]; exact hD
  refine xr_putF (i := 9) C hP hD hS 0 rfl (B' := ((a, .inr (2, [.ref q1, .ref q2, .ref q3, .ref q4, .ref q5, .ref q6, .ref q7, .ref q8, .ref q9, .ref q10, .null])) :: E10)) rfl rfl inX2 tyX2 tyX2_ok nmX2 (Nat.le_of_ble_eq_true rfl) tw_215 rfl rfl rfl rfl (Nat.le_of_ble_eq_true rfl) (kd kX2_init_0 41 rfl) (fun H locs hP hD hS => ?_)
  refine lv_aload_n C.1 C.2.1 (kd kX2_init_0 42 rfl) rfl (lv_at hl 0 rfl) ?_
  refine lv_iconst (v := (4 : Int32)) C.1 C.2.1 (kd kX2_init_0 43 rfl) (by decide) ?_
  refine xr_newi C hP hD hS hA tw_112 (n := (4 : Int32)) (N := 4) (by decide) rfl (Nat.le_of_ble_eq_true rfl) (c' := 11) (s' := 568) rfl rfl (Nat.le_of_ble_eq_true rfl) (Nat.le_of_ble_eq_true rfl) (kd kX2_init_0 44 rfl) (fun q11 H hP hD hS => ?_)
  obtain ⟨E11, hE11⟩ : ∃ z, z = E10 ++ [(q11, .inl (Γ.2.1.1, 4, .inl (fun _ => 0)))] := ⟨_, rfl⟩
  have hP : va_P Γ.2.2 vwCl (ws ++ ((a, .inr (2, [.ref q1, .ref q2, .ref q3, .ref q4, .ref q5, .ref q6, .ref q7, .ref q8, .ref q9, .ref q10, .null])) :: E11)) H := by rw [hE11]; exact hP
  have hD : va_D (va_A (ws ++ [(a, e0)]) sz) (ws ++ ((a, .inr (2, [.ref q1, .ref q2, .ref q3, .ref q4, .ref q5, .ref q6, .ref q7, .ref q8, .ref q9, .ref q10, .null])) :: E11)) := by rw [hE11]; exact hD
  refine xr_putF (i := 10) C hP hD hS 0 rfl (B' := ((a, .inr (2, [.ref q1, .ref q2, .ref q3, .ref q4, .ref q5, .ref q6, .ref q7, .ref q8, .ref q9, .ref q10, .ref q11])) :: E11)) rfl rfl inX2 tyX2 tyX2_ok nmX2 (Nat.le_of_ble_eq_true rfl) tw_216 rfl rfl rfl rfl (Nat.le_of_ble_eq_true rfl) (kd kX2_init_0 45 rfl) (fun H locs hP hD hS => ?_)
  exact xr_ret (blk := xLo Γ 0) C (fun i => if i = 0 then a else if i = 1 then q1 else if i = 2 then q2 else if i = 3 then q3 else if i = 4 then q4 else if i = 5 then q5 else if i = 6 then q6 else if i = 7 then q7 else if i = 8 then q8 else if i = 9 then q9 else if i = 10 then q10 else if i = 11 then q11 else 0) rfl (by rw [hE11, hE10, hE9, hE8, hE7, hE6, hE5, hE4, hE3, hE2, hE1, hE0]; rfl) hP hD hS (Nat.le_of_ble_eq_true rfl) (Nat.le_of_ble_eq_true rfl) (kd kX2_init_0 46 rfl)
set_option maxRecDepth 100000 in
set_option maxHeartbeats 4000000 in
theorem c_X6 (l : Launch) (Γ : fGm) : xM l Γ yX6_init cX6_init 1 ({ frames := 2, cells := 3, slots := 136, locals := 63 } : Room) (.inr (6, [.int 0, .int 0, .null, .null, .int 0])) [] (xTx Γ 0) := by
  refine xr_enter (own := RX6) (by decide +kernel) rfl rfl (fun _ => Nat.le_of_ble_eq_true rfl) ?_
  intro ws a sz p e s m args below meth c ls H locs C hl hP hD hS hA
  obtain ⟨e0, he0⟩ : ∃ z : va_E, z = .inr (6, [.int 0, .int 0, .null, .null, .int 0]) := ⟨_, rfl⟩
  rw [← he0] at hD hS hA ⊢
  have hD : va_D (va_A (ws ++ [(a, e0)]) sz) (ws ++ [(a, .inr (6, [.int 0, .int 0, .null, .null, .int 0]))]) := by rw [← he0]; exact hD
  have hl : lv_has ls 1 [(0, .ref a)] := hl
  obtain ⟨E0, hE0⟩ : ∃ z : va_W, z = [] := ⟨_, rfl⟩
  have hP : va_P Γ.2.2 vwCl (ws ++ ((a, .inr (6, [.int 0, .int 0, .null, .null, .int 0])) :: E0)) H := by rw [hE0]; exact hP
  have hD : va_D (va_A (ws ++ [(a, e0)]) sz) (ws ++ ((a, .inr (6, [.int 0, .int 0, .null, .null, .int 0])) :: E0)) := by rw [hE0]; exact hD
  refine lv_aload_n C.1 C.2.1 (kd kX6_init_0 0 rfl) rfl (lv_at hl 0 rfl) ?_
  refine xr_obj C hl.1 tw_245 tw_85 tw_86 (kd kX6_init_0 1 rfl) (Nat.le_of_ble_eq_true rfl) (Nat.le_of_ble_eq_true rfl) ?_
  refine lv_aload_n C.1 C.2.1 (kd kX6_init_0 2 rfl) rfl (lv_at hl 0 rfl) ?_
  refine lv_bipush (v := (60 : Int32)) C.1 C.2.1 (kd kX6_init_0 3 rfl) (by decide) ?_
  refine xr_newc C hP hD hS hA tw_266 (n := (60 : Int32)) (N := 60) (by decide) rfl (Nat.le_of_ble_eq_true rfl) (c' := 1) (s' := 60) rfl rfl (Nat.le_of_ble_eq_true rfl) (Nat.le_of_ble_eq_true rfl) (kd kX6_init_0 4 rfl) (fun q1 H hP hD hS => ?_)
  obtain ⟨E1, hE1⟩ : ∃ z, z = E0 ++ [(q1, .inl (Γ.2.1.2.1, 60, .inl (fun _ => 0)))] := ⟨_, rfl⟩
  have hP : va_P Γ.2.2 vwCl (ws ++ ((a, .inr (6, [.int 0, .int 0, .null, .null, .int 0])) :: E1)) H := by rw [hE1]; exact hP
  have hD : va_D (va_A (ws ++ [(a, e0)]) sz) (ws ++ ((a, .inr (6, [.int 0, .int 0, .null, .null, .int 0])) :: E1)) := by rw [hE1]; exact hD
  refine xr_putF (i := 2) C hP hD hS 0 rfl (B' := ((a, .inr (6, [.int 0, .int 0, .ref q1, .null, .int 0])) :: E1)) rfl rfl inX6 tyX6 tyX6_ok nmX6 (Nat.le_of_ble_eq_true rfl) tw_252 rfl rfl rfl rfl (Nat.le_of_ble_eq_true rfl) (kd kX6_init_0 5 rfl) (fun H locs hP hD hS => ?_)
  refine lv_aload_n C.1 C.2.1 (kd kX6_init_0 6 rfl) rfl (lv_at hl 0 rfl) ?_
  refine xr_new (ci := 5) (fs := [.int 0, .int 0, .null, .int 0]) C hP hD hS hA rfl inX5 tyX5 tyX5_ok tw_246 tw_94 tw_69 (fun j hj => by rcases (show j = 0 ∨ j = 1 ∨ j = 2 ∨ j = 3 by omega) with rfl | rfl | rfl | rfl <;> rfl) (c' := 2) (s' := 64) rfl rfl (Nat.le_of_ble_eq_true rfl) (Nat.le_of_ble_eq_true rfl) (kd kX6_init_0 7 rfl) (fun q2 H hP hD hS => ?_)
  refine lv_dup C.1 C.2.1 (kd kX6_init_0 8 rfl) rfl ?_
  refine lv_bipush (v := (12 : Int32)) C.1 C.2.1 (kd kX6_init_0 9 rfl) (by decide) ?_
  refine lv_bipush (v := (6 : Int32)) C.1 C.2.1 (kd kX6_init_0 10 rfl) (by decide) ?_
  refine lv_iconst (v := (0 : Int32)) C.1 C.2.1 (kd kX6_init_0 11 rfl) (by decide) ?_
  refine xr_call (av := [.int (12 : Int32), .int (6 : Int32), .int (0 : Int32)]) (rest := [.ref q2, .ref a]) (n := 3) C hl.1 hP hD hS hA (c_X5 l Γ 12 6 0 (by decide)) tw_247 tw_96 tw_69 tw_97 rfl (by decide +kernel) ⟨Nat.le_of_ble_eq_true rfl, Nat.le_of_ble_eq_true rfl⟩ rfl (c' := 3) (s' := 136) rfl rfl (Nat.le_of_ble_eq_true rfl) (Nat.le_of_ble_eq_true rfl) rfl (Nat.le_of_ble_eq_true rfl) (kd kX6_init_0 12 rfl) (fun u3 H locs hu hP hD hS => ?_)
  rw [← hu]
  obtain ⟨E2, hE2⟩ : ∃ z, z = E1 ++ xT Γ 12 6 0 0 u3 := ⟨_, rfl⟩
  have hP : va_P Γ.2.2 vwCl (ws ++ ((a, .inr (6, [.int 0, .int 0, .ref q1, .null, .int 0])) :: E2)) H := by rw [hE2]; exact hP
  have hD : va_D (va_A (ws ++ [(a, e0)]) sz) (ws ++ ((a, .inr (6, [.int 0, .int 0, .ref q1, .null, .int 0])) :: E2)) := by rw [hE2]; exact hD
  refine xr_putF (i := 3) C hP hD hS 0 rfl (B' := ((a, .inr (6, [.int 0, .int 0, .ref q1, .ref (u3 0), .int 0])) :: E2)) rfl rfl inX6 tyX6 tyX6_ok nmX6 (Nat.le_of_ble_eq_true rfl) tw_253 rfl rfl rfl rfl (Nat.le_of_ble_eq_true rfl) (kd kX6_init_0 13 rfl) (fun H locs hP hD hS => ?_)
  refine lv_aload_n C.1 C.2.1 (kd kX6_init_0 14 rfl) rfl (lv_at hl 0 rfl) ?_
  refine lv_iconst (v := (0 : Int32)) C.1 C.2.1 (kd kX6_init_0 15 rfl) (by decide) ?_
  refine xr_put (i := 0) C hP hD hS 0 rfl (B' := ((a, .inr (6, [.int (0 : Int32), .int 0, .ref q1, .ref (u3 0), .int 0])) :: E2)) rfl rfl inX6 tyX6 tyX6_ok nmX6 (Nat.le_of_ble_eq_true rfl) tw_248 rfl rfl rfl (Nat.le_of_ble_eq_true rfl) (kd kX6_init_0 16 rfl) (fun H locs hP hD hS => ?_)
  refine lv_aload_n C.1 C.2.1 (kd kX6_init_0 17 rfl) rfl (lv_at hl 0 rfl) ?_
  refine lv_iconst (v := (0 : Int32)) C.1 C.2.1 (kd kX6_init_0 18 rfl) (by decide) ?_
  refine xr_put (i := 4) C hP hD hS 0 rfl (B' := ((a, .inr (6, [.int (0 : Int32), .int 0, .ref q1, .ref (u3 0), .int (0 : Int32)])) :: E2)) rfl rfl inX6 tyX6 tyX6_ok nmX6 (Nat.le_of_ble_eq_true rfl) tw_254 rfl rfl rfl (Nat.le_of_ble_eq_true rfl) (kd kX6_init_0 19 rfl) (fun H locs hP hD hS => ?_)
  refine lv_aload_n C.1 C.2.1 (kd kX6_init_0 20 rfl) rfl (lv_at hl 0 rfl) ?_
  refine lv_sipush (v := (-10004 : Int32)) C.1 C.2.1 (kd kX6_init_0 21 rfl) (by decide) ?_
  refine xr_put (i := 1) C hP hD hS 0 rfl (B' := ((a, .inr (6, [.int (0 : Int32), .int (-10004 : Int32), .ref q1, .ref (u3 0), .int (0 : Int32)])) :: E2)) rfl rfl inX6 tyX6 tyX6_ok nmX6 (Nat.le_of_ble_eq_true rfl) tw_250 rfl rfl rfl (Nat.le_of_ble_eq_true rfl) (kd kX6_init_0 22 rfl) (fun H locs hP hD hS => ?_)
  exact xr_ret (blk := xTx Γ 0) C (fun i => if i = 0 then a else if i = 1 then q1 else if i = 2 then (u3 0) else if i = 3 then (u3 1) else 0) rfl (by rw [hE2, hE1, hE0]; rfl) hP hD hS (Nat.le_of_ble_eq_true rfl) (Nat.le_of_ble_eq_true rfl) (kd kX6_init_0 23 rfl)
set_option maxRecDepth 100000 in
set_option maxHeartbeats 4000000 in
theorem c_X4 (l : Launch) (Γ : fGm) : xM l Γ yX4_init cX4_init 2 ({ frames := 2, cells := 2, slots := 49, locals := 63 } : Room) (.inr (4, [.null])) [] (xSh Γ 0) := by
  refine xr_enter (own := RX4) (by decide +kernel) rfl rfl (fun _ => Nat.le_of_ble_eq_true rfl) ?_
  intro ws a sz p e s m args below meth c ls H locs C hl hP hD hS hA
  obtain ⟨e0, he0⟩ : ∃ z : va_E, z = .inr (4, [.null]) := ⟨_, rfl⟩
  rw [← he0] at hD hS hA ⊢
  have hD : va_D (va_A (ws ++ [(a, e0)]) sz) (ws ++ [(a, .inr (4, [.null]))]) := by rw [← he0]; exact hD
  have hl : lv_has ls 2 [(0, .ref a)] := hl
  obtain ⟨E0, hE0⟩ : ∃ z : va_W, z = [] := ⟨_, rfl⟩
  have hP : va_P Γ.2.2 vwCl (ws ++ ((a, .inr (4, [.null])) :: E0)) H := by rw [hE0]; exact hP
  have hD : va_D (va_A (ws ++ [(a, e0)]) sz) (ws ++ ((a, .inr (4, [.null])) :: E0)) := by rw [hE0]; exact hD
  refine lv_aload_n C.1 C.2.1 (kd kX4_init_0 0 rfl) rfl (lv_at hl 0 rfl) ?_
  refine xr_obj C hl.1 tw_272 tw_85 tw_86 (kd kX4_init_0 1 rfl) (Nat.le_of_ble_eq_true rfl) (Nat.le_of_ble_eq_true rfl) ?_
  refine lv_aload_n C.1 C.2.1 (kd kX4_init_0 2 rfl) rfl (lv_at hl 0 rfl) ?_
  refine xr_new (ci := 5) (fs := [.int 0, .int 0, .null, .int 0]) C hP hD hS hA rfl inX5 tyX5 tyX5_ok tw_273 tw_94 tw_69 (fun j hj => by rcases (show j = 0 ∨ j = 1 ∨ j = 2 ∨ j = 3 by omega) with rfl | rfl | rfl | rfl <;> rfl) (c' := 1) (s' := 4) rfl rfl (Nat.le_of_ble_eq_true rfl) (Nat.le_of_ble_eq_true rfl) (kd kX4_init_0 3 rfl) (fun q1 H hP hD hS => ?_)
  refine lv_dup C.1 C.2.1 (kd kX4_init_0 4 rfl) rfl ?_
  refine lv_bipush (v := (9 : Int32)) C.1 C.2.1 (kd kX4_init_0 5 rfl) (by decide) ?_
  refine lv_iconst (v := (5 : Int32)) C.1 C.2.1 (kd kX4_init_0 6 rfl) (by decide) ?_
  refine lv_bipush (v := (9 : Int32)) C.1 C.2.1 (kd kX4_init_0 7 rfl) (by decide) ?_
  refine xr_call (av := [.int (9 : Int32), .int (5 : Int32), .int (9 : Int32)]) (rest := [.ref q1, .ref a]) (n := 3) C hl.1 hP hD hS hA (c_X5 l Γ 9 5 9 (by decide)) tw_274 tw_96 tw_69 tw_97 rfl (by decide +kernel) ⟨Nat.le_of_ble_eq_true rfl, Nat.le_of_ble_eq_true rfl⟩ rfl (c' := 2) (s' := 49) rfl rfl (Nat.le_of_ble_eq_true rfl) (Nat.le_of_ble_eq_true rfl) rfl (Nat.le_of_ble_eq_true rfl) (kd kX4_init_0 8 rfl) (fun u2 H locs hu hP hD hS => ?_)
  rw [← hu]
  rw [hE0] at hP hD
  have hP : va_P Γ.2.2 vwCl (ws ++ ((a, .inr (4, [.null])) :: (u2 0, .inr (5, [.int (Int32.ofNat 9), .int (Int32.ofNat 5), .ref (u2 1), .int 9])) :: (u2 1, .inl (Γ.2.1.1, 9 * 5, .inl (fun _ => 0))) :: E0)) H := by rw [hE0]; exact hP
  have hD : va_D (va_A (ws ++ [(a, e0)]) sz) (ws ++ ((a, .inr (4, [.null])) :: (u2 0, .inr (5, [.int (Int32.ofNat 9), .int (Int32.ofNat 5), .ref (u2 1), .int 9])) :: (u2 1, .inl (Γ.2.1.1, 9 * 5, .inl (fun _ => 0))) :: E0)) := by rw [hE0]; exact hD
  refine xr_putF (i := 0) C hP hD hS 0 rfl (B' := ((a, .inr (4, [.ref (u2 0)])) :: (u2 0, .inr (5, [.int (Int32.ofNat 9), .int (Int32.ofNat 5), .ref (u2 1), .int 9])) :: (u2 1, .inl (Γ.2.1.1, 9 * 5, .inl (fun _ => 0))) :: E0)) rfl rfl inX4 tyX4 tyX4_ok nmX4 (Nat.le_of_ble_eq_true rfl) tw_279 rfl rfl rfl rfl (Nat.le_of_ble_eq_true rfl) (kd kX4_init_0 9 rfl) (fun H locs hP hD hS => ?_)
  refine lv_iconst (v := (0 : Int32)) C.1 C.2.1 (kd kX4_init_0 10 rfl) (by decide) ?_
  refine lv_istore_n (lv' := [(1, .int (0 : Int32)), (0, .ref a)]) C.1 C.2.1 (kd kX4_init_0 11 rfl) rfl hl (Nat.le_of_ble_eq_true rfl) rfl (fun ls hl => ?_)
  refine lv_iload_n C.1 C.2.1 (kd kX4_init_0 12 rfl) rfl (lv_at hl 0 rfl) ?_
  refine lv_bipush (v := (9 : Int32)) C.1 C.2.1 (kd kX4_init_0 13 rfl) (by decide) ?_
  refine lv_icmp_ge (tgt := 46) C.1 C.2.1 (kd kX4_init_0 14 rfl) (by decide) (fun q => absurd q (by decide)) (fun _ => ?_)
  refine lv_aload_n C.1 C.2.1 (kd kX4_init_0 15 rfl) rfl (lv_at hl 1 rfl) ?_
  refine xr_get (i := 0) (v := .ref (u2 0)) C hP 0 rfl rfl inX4 (Nat.le_of_ble_eq_true rfl) tw_279 rfl (kd kX4_init_0 16 rfl) ?_
  refine lv_iload_n C.1 C.2.1 (kd kX4_init_0 17 rfl) rfl (lv_at hl 0 rfl) ?_
  refine lv_iconst (v := (4 : Int32)) C.1 C.2.1 (kd kX4_init_0 18 rfl) (by decide) ?_
  refine lv_sipush (v := (-10004 : Int32)) C.1 C.2.1 (kd kX4_init_0 19 rfl) (by decide) ?_
  refine xr_callput (x1 := (0 : Int32)) (x2 := (4 : Int32)) (x3 := (-10004 : Int32)) (r := 9) (w := 5) C hl.1 hP hD hS hA 1 rfl rfl (B' := ((a, .inr (4, [.ref (u2 0)])) :: (u2 0, .inr (5, [.int (Int32.ofNat 9), .int (Int32.ofNat 5), .ref (u2 1), .int 9])) :: ((u2 1), .inl (Γ.2.1.1, 9 * 5, .inl (upd (fun _ => 0) 4 (-10004 : Int32)))) :: E0)) rfl (by decide) (by decide) (by decide) (by decide) (by decide) tw_275 tw_276 tw_277 tw_69 tw_278 (Nat.le_of_ble_eq_true rfl) (Nat.le_of_ble_eq_true rfl) (Nat.le_of_ble_eq_true rfl) (Nat.le_of_ble_eq_true rfl) (kd kX4_init_0 20 rfl) (fun H locs hP hD hS => ?_)
  refine lv_iinc (v := (1 : Int32)) (lv' := [(1, .int (1 : Int32)), (0, .ref a)]) C.1 C.2.1 (kd kX4_init_0 21 rfl) hl (k := 0) rfl rfl (Nat.le_of_ble_eq_true rfl) rfl (fun ls hl => ?_)
  refine lv_goto (tgt := 22) C.1 C.2.1 (kd kX4_init_0 22 rfl) (by decide) ?_
  refine lv_iload_n C.1 C.2.1 (kd kX4_init_0 12 rfl) rfl (lv_at hl 0 rfl) ?_
  refine lv_bipush (v := (9 : Int32)) C.1 C.2.1 (kd kX4_init_0 13 rfl) (by decide) ?_
  refine lv_icmp_ge (tgt := 46) C.1 C.2.1 (kd kX4_init_0 14 rfl) (by decide) (fun q => absurd q (by decide)) (fun _ => ?_)
  refine lv_aload_n C.1 C.2.1 (kd kX4_init_0 15 rfl) rfl (lv_at hl 1 rfl) ?_
  refine xr_get (i := 0) (v := .ref (u2 0)) C hP 0 rfl rfl inX4 (Nat.le_of_ble_eq_true rfl) tw_279 rfl (kd kX4_init_0 16 rfl) ?_
  refine lv_iload_n C.1 C.2.1 (kd kX4_init_0 17 rfl) rfl (lv_at hl 0 rfl) ?_
  refine lv_iconst (v := (4 : Int32)) C.1 C.2.1 (kd kX4_init_0 18 rfl) (by decide) ?_
  refine lv_sipush (v := (-10004 : Int32)) C.1 C.2.1 (kd kX4_init_0 19 rfl) (by decide) ?_
  refine xr_callput (x1 := (1 : Int32)) (x2 := (4 : Int32)) (x3 := (-10004 : Int32)) (r := 9) (w := 5) C hl.1 hP hD hS hA 1 rfl rfl (B' := ((a, .inr (4, [.ref (u2 0)])) :: (u2 0, .inr (5, [.int (Int32.ofNat 9), .int (Int32.ofNat 5), .ref (u2 1), .int 9])) :: ((u2 1), .inl (Γ.2.1.1, 9 * 5, .inl (upd (upd (fun _ => 0) 4 (-10004 : Int32)) 9 (-10004 : Int32)))) :: E0)) rfl (by decide) (by decide) (by decide) (by decide) (by decide) tw_275 tw_276 tw_277 tw_69 tw_278 (Nat.le_of_ble_eq_true rfl) (Nat.le_of_ble_eq_true rfl) (Nat.le_of_ble_eq_true rfl) (Nat.le_of_ble_eq_true rfl) (kd kX4_init_0 20 rfl) (fun H locs hP hD hS => ?_)
  refine lv_iinc (v := (2 : Int32)) (lv' := [(1, .int (2 : Int32)), (0, .ref a)]) C.1 C.2.1 (kd kX4_init_0 21 rfl) hl (k := 0) rfl rfl (Nat.le_of_ble_eq_true rfl) rfl (fun ls hl => ?_)
  refine lv_goto (tgt := 22) C.1 C.2.1 (kd kX4_init_0 22 rfl) (by decide) ?_
  refine lv_iload_n C.1 C.2.1 (kd kX4_init_0 12 rfl) rfl (lv_at hl 0 rfl) ?_
  refine lv_bipush (v := (9 : Int32)) C.1 C.2.1 (kd kX4_init_0 13 rfl) (by decide) ?_
  refine lv_icmp_ge (tgt := 46) C.1 C.2.1 (kd kX4_init_0 14 rfl) (by decide) (fun q => absurd q (by decide)) (fun _ => ?_)
  refine lv_aload_n C.1 C.2.1 (kd kX4_init_0 15 rfl) rfl (lv_at hl 1 rfl) ?_
  refine xr_get (i := 0) (v := .ref (u2 0)) C hP 0 rfl rfl inX4 (Nat.le_of_ble_eq_true rfl) tw_279 rfl (kd kX4_init_0 16 rfl) ?_
  refine lv_iload_n C.1 C.2.1 (kd kX4_init_0 17 rfl) rfl (lv_at hl 0 rfl) ?_
  refine lv_iconst (v := (4 : Int32)) C.1 C.2.1 (kd kX4_init_0 18 rfl) (by decide) ?_
  refine lv_sipush (v := (-10004 : Int32)) C.1 C.2.1 (kd kX4_init_0 19 rfl) (by decide) ?_
  refine xr_callput (x1 := (2 : Int32)) (x2 := (4 : Int32)) (x3 := (-10004 : Int32)) (r := 9) (w := 5) C hl.1 hP hD hS hA 1 rfl rfl (B' := ((a, .inr (4, [.ref (u2 0)])) :: (u2 0, .inr (5, [.int (Int32.ofNat 9), .int (Int32.ofNat 5), .ref (u2 1), .int 9])) :: ((u2 1), .inl (Γ.2.1.1, 9 * 5, .inl (upd (upd (upd (fun _ => 0) 4 (-10004 : Int32)) 9 (-10004 : Int32)) 14 (-10004 : Int32)))) :: E0)) rfl (by decide) (by decide) (by decide) (by decide) (by decide) tw_275 tw_276 tw_277 tw_69 tw_278 (Nat.le_of_ble_eq_true rfl) (Nat.le_of_ble_eq_true rfl) (Nat.le_of_ble_eq_true rfl) (Nat.le_of_ble_eq_true rfl) (kd kX4_init_0 20 rfl) (fun H locs hP hD hS => ?_)
  refine lv_iinc (v := (3 : Int32)) (lv' := [(1, .int (3 : Int32)), (0, .ref a)]) C.1 C.2.1 (kd kX4_init_0 21 rfl) hl (k := 0) rfl rfl (Nat.le_of_ble_eq_true rfl) rfl (fun ls hl => ?_)
  refine lv_goto (tgt := 22) C.1 C.2.1 (kd kX4_init_0 22 rfl) (by decide) ?_
  refine lv_iload_n C.1 C.2.1 (kd kX4_init_0 12 rfl) rfl (lv_at hl 0 rfl) ?_
  refine lv_bipush (v := (9 : Int32)) C.1 C.2.1 (kd kX4_init_0 13 rfl) (by decide) ?_
  refine lv_icmp_ge (tgt := 46) C.1 C.2.1 (kd kX4_init_0 14 rfl) (by decide) (fun q => absurd q (by decide)) (fun _ => ?_)
  refine lv_aload_n C.1 C.2.1 (kd kX4_init_0 15 rfl) rfl (lv_at hl 1 rfl) ?_
  refine xr_get (i := 0) (v := .ref (u2 0)) C hP 0 rfl rfl inX4 (Nat.le_of_ble_eq_true rfl) tw_279 rfl (kd kX4_init_0 16 rfl) ?_
  refine lv_iload_n C.1 C.2.1 (kd kX4_init_0 17 rfl) rfl (lv_at hl 0 rfl) ?_
  refine lv_iconst (v := (4 : Int32)) C.1 C.2.1 (kd kX4_init_0 18 rfl) (by decide) ?_
  refine lv_sipush (v := (-10004 : Int32)) C.1 C.2.1 (kd kX4_init_0 19 rfl) (by decide) ?_
  refine xr_callput (x1 := (3 : Int32)) (x2 := (4 : Int32)) (x3 := (-10004 : Int32)) (r := 9) (w := 5) C hl.1 hP hD hS hA 1 rfl rfl (B' := ((a, .inr (4, [.ref (u2 0)])) :: (u2 0, .inr (5, [.int (Int32.ofNat 9), .int (Int32.ofNat 5), .ref (u2 1), .int 9])) :: ((u2 1), .inl (Γ.2.1.1, 9 * 5, .inl (upd (upd (upd (upd (fun _ => 0) 4 (-10004 : Int32)) 9 (-10004 : Int32)) 14 (-10004 : Int32)) 19 (-10004 : Int32)))) :: E0)) rfl (by decide) (by decide) (by decide) (by decide) (by decide) tw_275 tw_276 tw_277 tw_69 tw_278 (Nat.le_of_ble_eq_true rfl) (Nat.le_of_ble_eq_true rfl) (Nat.le_of_ble_eq_true rfl) (Nat.le_of_ble_eq_true rfl) (kd kX4_init_0 20 rfl) (fun H locs hP hD hS => ?_)
  refine lv_iinc (v := (4 : Int32)) (lv' := [(1, .int (4 : Int32)), (0, .ref a)]) C.1 C.2.1 (kd kX4_init_0 21 rfl) hl (k := 0) rfl rfl (Nat.le_of_ble_eq_true rfl) rfl (fun ls hl => ?_)
  refine lv_goto (tgt := 22) C.1 C.2.1 (kd kX4_init_0 22 rfl) (by decide) ?_
  refine lv_iload_n C.1 C.2.1 (kd kX4_init_0 12 rfl) rfl (lv_at hl 0 rfl) ?_
  refine lv_bipush (v := (9 : Int32)) C.1 C.2.1 (kd kX4_init_0 13 rfl) (by decide) ?_
  refine lv_icmp_ge (tgt := 46) C.1 C.2.1 (kd kX4_init_0 14 rfl) (by decide) (fun q => absurd q (by decide)) (fun _ => ?_)
  refine lv_aload_n C.1 C.2.1 (kd kX4_init_0 15 rfl) rfl (lv_at hl 1 rfl) ?_
  refine xr_get (i := 0) (v := .ref (u2 0)) C hP 0 rfl rfl inX4 (Nat.le_of_ble_eq_true rfl) tw_279 rfl (kd kX4_init_0 16 rfl) ?_
  refine lv_iload_n C.1 C.2.1 (kd kX4_init_0 17 rfl) rfl (lv_at hl 0 rfl) ?_
  refine lv_iconst (v := (4 : Int32)) C.1 C.2.1 (kd kX4_init_0 18 rfl) (by decide) ?_
  refine lv_sipush (v := (-10004 : Int32)) C.1 C.2.1 (kd kX4_init_0 19 rfl) (by decide) ?_
  refine xr_callput (x1 := (4 : Int32)) (x2 := (4 : Int32)) (x3 := (-10004 : Int32)) (r := 9) (w := 5) C hl.1 hP hD hS hA 1 rfl rfl (B' := ((a, .inr (4, [.ref (u2 0)])) :: (u2 0, .inr (5, [.int (Int32.ofNat 9), .int (Int32.ofNat 5), .ref (u2 1), .int 9])) :: ((u2 1), .inl (Γ.2.1.1, 9 * 5, .inl (upd (upd (upd (upd (upd (fun _ => 0) 4 (-10004 : Int32)) 9 (-10004 : Int32)) 14 (-10004 : Int32)) 19 (-10004 : Int32)) 24 (-10004 : Int32)))) :: E0)) rfl (by decide) (by decide) (by decide) (by decide) (by decide) tw_275 tw_276 tw_277 tw_69 tw_278 (Nat.le_of_ble_eq_true rfl) (Nat.le_of_ble_eq_true rfl) (Nat.le_of_ble_eq_true rfl) (Nat.le_of_ble_eq_true rfl) (kd kX4_init_0 20 rfl) (fun H locs hP hD hS => ?_)
  refine lv_iinc (v := (5 : Int32)) (lv' := [(1, .int (5 : Int32)), (0, .ref a)]) C.1 C.2.1 (kd kX4_init_0 21 rfl) hl (k := 0) rfl rfl (Nat.le_of_ble_eq_true rfl) rfl (fun ls hl => ?_)
  refine lv_goto (tgt := 22) C.1 C.2.1 (kd kX4_init_0 22 rfl) (by decide) ?_
  refine lv_iload_n C.1 C.2.1 (kd kX4_init_0 12 rfl) rfl (lv_at hl 0 rfl) ?_
  refine lv_bipush (v := (9 : Int32)) C.1 C.2.1 (kd kX4_init_0 13 rfl) (by decide) ?_
  refine lv_icmp_ge (tgt := 46) C.1 C.2.1 (kd kX4_init_0 14 rfl) (by decide) (fun q => absurd q (by decide)) (fun _ => ?_)
  refine lv_aload_n C.1 C.2.1 (kd kX4_init_0 15 rfl) rfl (lv_at hl 1 rfl) ?_
  refine xr_get (i := 0) (v := .ref (u2 0)) C hP 0 rfl rfl inX4 (Nat.le_of_ble_eq_true rfl) tw_279 rfl (kd kX4_init_0 16 rfl) ?_
  refine lv_iload_n C.1 C.2.1 (kd kX4_init_0 17 rfl) rfl (lv_at hl 0 rfl) ?_
  refine lv_iconst (v := (4 : Int32)) C.1 C.2.1 (kd kX4_init_0 18 rfl) (by decide) ?_
  refine lv_sipush (v := (-10004 : Int32)) C.1 C.2.1 (kd kX4_init_0 19 rfl) (by decide) ?_
  refine xr_callput (x1 := (5 : Int32)) (x2 := (4 : Int32)) (x3 := (-10004 : Int32)) (r := 9) (w := 5) C hl.1 hP hD hS hA 1 rfl rfl (B' := ((a, .inr (4, [.ref (u2 0)])) :: (u2 0, .inr (5, [.int (Int32.ofNat 9), .int (Int32.ofNat 5), .ref (u2 1), .int 9])) :: ((u2 1), .inl (Γ.2.1.1, 9 * 5, .inl (upd (upd (upd (upd (upd (upd (fun _ => 0) 4 (-10004 : Int32)) 9 (-10004 : Int32)) 14 (-10004 : Int32)) 19 (-10004 : Int32)) 24 (-10004 : Int32)) 29 (-10004 : Int32)))) :: E0)) rfl (by decide) (by decide) (by decide) (by decide) (by decide) tw_275 tw_276 tw_277 tw_69 tw_278 (Nat.le_of_ble_eq_true rfl) (Nat.le_of_ble_eq_true rfl) (Nat.le_of_ble_eq_true rfl) (Nat.le_of_ble_eq_true rfl) (kd kX4_init_0 20 rfl) (fun H locs hP hD hS => ?_)
  refine lv_iinc (v := (6 : Int32)) (lv' := [(1, .int (6 : Int32)), (0, .ref a)]) C.1 C.2.1 (kd kX4_init_0 21 rfl) hl (k := 0) rfl rfl (Nat.le_of_ble_eq_true rfl) rfl (fun ls hl => ?_)
  refine lv_goto (tgt := 22) C.1 C.2.1 (kd kX4_init_0 22 rfl) (by decide) ?_
  refine lv_iload_n C.1 C.2.1 (kd kX4_init_0 12 rfl) rfl (lv_at hl 0 rfl) ?_
  refine lv_bipush (v := (9 : Int32)) C.1 C.2.1 (kd kX4_init_0 13 rfl) (by decide) ?_
  refine lv_icmp_ge (tgt := 46) C.1 C.2.1 (kd kX4_init_0 14 rfl) (by decide) (fun q => absurd q (by decide)) (fun _ => ?_)
  refine lv_aload_n C.1 C.2.1 (kd kX4_init_0 15 rfl) rfl (lv_at hl 1 rfl) ?_
  refine xr_get (i := 0) (v := .ref (u2 0)) C hP 0 rfl rfl inX4 (Nat.le_of_ble_eq_true rfl) tw_279 rfl (kd kX4_init_0 16 rfl) ?_
  refine lv_iload_n C.1 C.2.1 (kd kX4_init_0 17 rfl) rfl (lv_at hl 0 rfl) ?_
  refine lv_iconst (v := (4 : Int32)) C.1 C.2.1 (kd kX4_init_0 18 rfl) (by decide) ?_
  refine lv_sipush (v := (-10004 : Int32)) C.1 C.2.1 (kd kX4_init_0 19 rfl) (by decide) ?_
  refine xr_callput (x1 := (6 : Int32)) (x2 := (4 : Int32)) (x3 := (-10004 : Int32)) (r := 9) (w := 5) C hl.1 hP hD hS hA 1 rfl rfl (B' := ((a, .inr (4, [.ref (u2 0)])) :: (u2 0, .inr (5, [.int (Int32.ofNat 9), .int (Int32.ofNat 5), .ref (u2 1), .int 9])) :: ((u2 1), .inl (Γ.2.1.1, 9 * 5, .inl (upd (upd (upd (upd (upd (upd (upd (fun _ => 0) 4 (-10004 : Int32)) 9 (-10004 : Int32)) 14 (-10004 : Int32)) 19 (-10004 : Int32)) 24 (-10004 : Int32)) 29 (-10004 : Int32)) 34 (-10004 : Int32)))) :: E0)) rfl (by decide) (by decide) (by decide) (by decide) (by decide) tw_275 tw_276 tw_277 tw_69 tw_278 (Nat.le_of_ble_eq_true rfl) (Nat.le_of_ble_eq_true rfl) (Nat.le_of_ble_eq_true rfl) (Nat.le_of_ble_eq_true rfl) (kd kX4_init_0 20 rfl) (fun H locs hP hD hS => ?_)
  refine lv_iinc (v := (7 : Int32)) (lv' := [(1, .int (7 : Int32)), (0, .ref a)]) C.1 C.2.1 (kd kX4_init_0 21 rfl) hl (k := 0) rfl rfl (Nat.le_of_ble_eq_true rfl) rfl (fun ls hl => ?_)
  refine lv_goto (tgt := 22) C.1 C.2.1 (kd kX4_init_0 22 rfl) (by decide) ?_
  refine lv_iload_n C.1 C.2.1 (kd kX4_init_0 12 rfl) rfl (lv_at hl 0 rfl) ?_
  refine lv_bipush (v := (9 : Int32)) C.1 C.2.1 (kd kX4_init_0 13 rfl) (by decide) ?_
  refine lv_icmp_ge (tgt := 46) C.1 C.2.1 (kd kX4_init_0 14 rfl) (by decide) (fun q => absurd q (by decide)) (fun _ => ?_)
  refine lv_aload_n C.1 C.2.1 (kd kX4_init_0 15 rfl) rfl (lv_at hl 1 rfl) ?_
  refine xr_get (i := 0) (v := .ref (u2 0)) C hP 0 rfl rfl inX4 (Nat.le_of_ble_eq_true rfl) tw_279 rfl (kd kX4_init_0 16 rfl) ?_
  refine lv_iload_n C.1 C.2.1 (kd kX4_init_0 17 rfl) rfl (lv_at hl 0 rfl) ?_
  refine lv_iconst (v := (4 : Int32)) C.1 C.2.1 (kd kX4_init_0 18 rfl) (by decide) ?_
  refine lv_sipush (v := (-10004 : Int32)) C.1 C.2.1 (kd kX4_init_0 19 rfl) (by decide) ?_
  refine xr_callput (x1 := (7 : Int32)) (x2 := (4 : Int32)) (x3 := (-10004 : Int32)) (r := 9) (w := 5) C hl.1 hP hD hS hA 1 rfl rfl (B' := ((a, .inr (4, [.ref (u2 0)])) :: (u2 0, .inr (5, [.int (Int32.ofNat 9), .int (Int32.ofNat 5), .ref (u2 1), .int 9])) :: ((u2 1), .inl (Γ.2.1.1, 9 * 5, .inl (upd (upd (upd (upd (upd (upd (upd (upd (fun _ => 0) 4 (-10004 : Int32)) 9 (-10004 : Int32)) 14 (-10004 : Int32)) 19 (-10004 : Int32)) 24 (-10004 : Int32)) 29 (-10004 : Int32)) 34 (-10004 : Int32)) 39 (-10004 : Int32)))) :: E0)) rfl (by decide) (by decide) (by decide) (by decide) (by decide) tw_275 tw_276 tw_277 tw_69 tw_278 (Nat.le_of_ble_eq_true rfl) (Nat.le_of_ble_eq_true rfl) (Nat.le_of_ble_eq_true rfl) (Nat.le_of_ble_eq_true rfl) (kd kX4_init_0 20 rfl) (fun H locs hP hD hS => ?_)
  refine lv_iinc (v := (8 : Int32)) (lv' := [(1, .int (8 : Int32)), (0, .ref a)]) C.1 C.2.1 (kd kX4_init_0 21 rfl) hl (k := 0) rfl rfl (Nat.le_of_ble_eq_true rfl) rfl (fun ls hl => ?_)
  refine lv_goto (tgt := 22) C.1 C.2.1 (kd kX4_init_0 22 rfl) (by decide) ?_
  refine lv_iload_n C.1 C.2.1 (kd kX4_init_0 12 rfl) rfl (lv_at hl 0 rfl) ?_
  refine lv_bipush (v := (9 : Int32)) C.1 C.2.1 (kd kX4_init_0 13 rfl) (by decide) ?_
  refine lv_icmp_ge (tgt := 46) C.1 C.2.1 (kd kX4_init_0 14 rfl) (by decide) (fun q => absurd q (by decide)) (fun _ => ?_)
  refine lv_aload_n C.1 C.2.1 (kd kX4_init_0 15 rfl) rfl (lv_at hl 1 rfl) ?_
  refine xr_get (i := 0) (v := .ref (u2 0)) C hP 0 rfl rfl inX4 (Nat.le_of_ble_eq_true rfl) tw_279 rfl (kd kX4_init_0 16 rfl) ?_
  refine lv_iload_n C.1 C.2.1 (kd kX4_init_0 17 rfl) rfl (lv_at hl 0 rfl) ?_
  refine lv_iconst (v := (4 : Int32)) C.1 C.2.1 (kd kX4_init_0 18 rfl) (by decide) ?_
  refine lv_sipush (v := (-10004 : Int32)) C.1 C.2.1 (kd kX4_init_0 19 rfl) (by decide) ?_
  refine xr_callput (x1 := (8 : Int32)) (x2 := (4 : Int32)) (x3 := (-10004 : Int32)) (r := 9) (w := 5) C hl.1 hP hD hS hA 1 rfl rfl (B' := ((a, .inr (4, [.ref (u2 0)])) :: (u2 0, .inr (5, [.int (Int32.ofNat 9), .int (Int32.ofNat 5), .ref (u2 1), .int 9])) :: ((u2 1), .inl (Γ.2.1.1, 9 * 5, .inl (upd (upd (upd (upd (upd (upd (upd (upd (upd (fun _ => 0) 4 (-10004 : Int32)) 9 (-10004 : Int32)) 14 (-10004 : Int32)) 19 (-10004 : Int32)) 24 (-10004 : Int32)) 29 (-10004 : Int32)) 34 (-10004 : Int32)) 39 (-10004 : Int32)) 44 (-10004 : Int32)))) :: E0)) rfl (by decide) (by decide) (by decide) (by decide) (by decide) tw_275 tw_276 tw_277 tw_69 tw_278 (Nat.le_of_ble_eq_true rfl) (Nat.le_of_ble_eq_true rfl) (Nat.le_of_ble_eq_true rfl) (Nat.le_of_ble_eq_true rfl) (kd kX4_init_0 20 rfl) (fun H locs hP hD hS => ?_)
  refine lv_iinc (v := (9 : Int32)) (lv' := [(1, .int (9 : Int32)), (0, .ref a)]) C.1 C.2.1 (kd kX4_init_0 21 rfl) hl (k := 0) rfl rfl (Nat.le_of_ble_eq_true rfl) rfl (fun ls hl => ?_)
  refine lv_goto (tgt := 22) C.1 C.2.1 (kd kX4_init_0 22 rfl) (by decide) ?_
  refine lv_iload_n C.1 C.2.1 (kd kX4_init_0 12 rfl) rfl (lv_at hl 0 rfl) ?_
  refine lv_bipush (v := (9 : Int32)) C.1 C.2.1 (kd kX4_init_0 13 rfl) (by decide) ?_
  refine lv_icmp_ge (tgt := 46) C.1 C.2.1 (kd kX4_init_0 14 rfl) (by decide) (fun _ => ?_) (fun q => absurd (by decide) q)
  exact xr_ret (blk := xSh Γ 0) C (fun i => if i = 0 then a else if i = 1 then (u2 0) else if i = 2 then (u2 1) else 0) rfl (by rw [hE0]; rfl) hP hD hS (Nat.le_of_ble_eq_true rfl) (Nat.le_of_ble_eq_true rfl) (kd kX4_init_0 23 rfl)
set_option maxRecDepth 100000 in
set_option maxHeartbeats 4000000 in
theorem c_X8 (l : Launch) (Γ : fGm) : xM l Γ yX8_init cX8_init 1 ({ frames := 1, cells := 24, slots := 4334, locals := 40 } : Room) (.inr (8, [.null, .null, .null, .int 0, .null, .int 0, .null, .int 0, .int 0, .int 0, .int 0, .null, .null, .null, .null, .null, .null, .null, .null, .null, .null, .null, .null, .null, .null, .null, .null, .int 0, .null, .null, .null])) [] (xMo Γ 0) := by
  refine xr_enter (own := RX8) (by decide +kernel) rfl rfl (fun _ => Nat.le_of_ble_eq_true rfl) ?_
  intro ws a sz p e s m args below meth c ls H locs C hl hP hD hS hA
  obtain ⟨e0, he0⟩ : ∃ z : va_E, z = .inr (8, [.null, .null, .null, .int 0, .null, .int 0, .null, .int 0, .int 0, .int 0, .int 0, .null, .null, .null, .null, .null, .null, .null, .null, .null, .null, .null, .null, .null, .null, .null, .null, .int 0, .null, .null, .null]) := ⟨_, rfl⟩
  rw [← he0] at hD hS hA ⊢
  have hD : va_D (va_A (ws ++ [(a, e0)]) sz) (ws ++ [(a, .inr (8, [.null, .null, .null, .int 0, .null, .int 0, .null, .int 0, .int 0, .int 0, .int 0, .null, .null, .null, .null, .null, .null, .null, .null, .null, .null, .null, .null, .null, .null, .null, .null, .int 0, .null, .null, .null]))]) := by rw [← he0]; exact hD
  have hl : lv_has ls 1 [(0, .ref a)] := hl
  obtain ⟨E0, hE0⟩ : ∃ z : va_W, z = [] := ⟨_, rfl⟩
  have hP : va_P Γ.2.2 vwCl (ws ++ ((a, .inr (8, [.null, .null, .null, .int 0, .null, .int 0, .null, .int 0, .int 0, .int 0, .int 0, .null, .null, .null, .null, .null, .null, .null, .null, .null, .null, .null, .null, .null, .null, .null, .null, .int 0, .null, .null, .null])) :: E0)) H := by rw [hE0]; exact hP
  have hD : va_D (va_A (ws ++ [(a, e0)]) sz) (ws ++ ((a, .inr (8, [.null, .null, .null, .int 0, .null, .int 0, .null, .int 0, .int 0, .int 0, .int 0, .null, .null, .null, .null, .null, .null, .null, .null, .null, .null, .null, .null, .null, .null, .null, .null, .int 0, .null, .null, .null])) :: E0)) := by rw [hE0]; exact hD
  refine lv_aload_n C.1 C.2.1 (kd kX8_init_0 0 rfl) rfl (lv_at hl 0 rfl) ?_
  refine xr_obj C hl.1 tw_861 tw_85 tw_86 (kd kX8_init_0 1 rfl) (Nat.le_of_ble_eq_true rfl) (Nat.le_of_ble_eq_true rfl) ?_
  refine lv_aload_n C.1 C.2.1 (kd kX8_init_0 2 rfl) rfl (lv_at hl 0 rfl) ?_
  refine lv_sipush (v := (277 : Int32)) C.1 C.2.1 (kd kX8_init_0 3 rfl) (by decide) ?_
  refine xr_newi C hP hD hS hA tw_112 (n := (277 : Int32)) (N := 277) (by decide) rfl (Nat.le_of_ble_eq_true rfl) (c' := 1) (s' := 277) rfl rfl (Nat.le_of_ble_eq_true rfl) (Nat.le_of_ble_eq_true rfl) (kd kX8_init_0 4 rfl) (fun q1 H hP hD hS => ?_)
  rw [hE0] at hP hD
  have hP : va_P Γ.2.2 vwCl (ws ++ ((a, .inr (8, [.null, .null, .null, .int 0, .null, .int 0, .null, .int 0, .int 0, .int 0, .int 0, .null, .null, .null, .null, .null, .null, .null, .null, .null, .null, .null, .null, .null, .null, .null, .null, .int 0, .null, .null, .null])) :: (q1, .inl (Γ.2.1.1, 277, .inl (fun _ => 0))) :: E0)) H := by rw [hE0]; exact hP
  have hD : va_D (va_A (ws ++ [(a, e0)]) sz) (ws ++ ((a, .inr (8, [.null, .null, .null, .int 0, .null, .int 0, .null, .int 0, .int 0, .int 0, .int 0, .null, .null, .null, .null, .null, .null, .null, .null, .null, .null, .null, .null, .null, .null, .null, .null, .int 0, .null, .null, .null])) :: (q1, .inl (Γ.2.1.1, 277, .inl (fun _ => 0))) :: E0)) := by rw [hE0]; exact hD
  refine xr_putF (i := 0) C hP hD hS 0 rfl (B' := ((a, .inr (8, [.ref q1, .null, .null, .int 0, .null, .int 0, .null, .int 0, .int 0, .int 0, .int 0, .null, .null, .null, .null, .null, .null, .null, .null, .null, .null, .null, .null, .null, .null, .null, .null, .int 0, .null, .null, .null])) :: (q1, .inl (Γ.2.1.1, 277, .inl (fun _ => 0))) :: E0)) rfl rfl inX8 tyX8 tyX8_ok nmX8 (Nat.le_of_ble_eq_true rfl) tw_862 rfl rfl rfl rfl (Nat.le_of_ble_eq_true rfl) (kd kX8_init_0 5 rfl) (fun H locs hP hD hS => ?_)
  refine lv_aload_n C.1 C.2.1 (kd kX8_init_0 6 rfl) rfl (lv_at hl 0 rfl) ?_
  refine lv_sipush (v := (277 : Int32)) C.1 C.2.1 (kd kX8_init_0 7 rfl) (by decide) ?_
  refine xr_newi C hP hD hS hA tw_112 (n := (277 : Int32)) (N := 277) (by decide) rfl (Nat.le_of_ble_eq_true rfl) (c' := 2) (s' := 554) rfl rfl (Nat.le_of_ble_eq_true rfl) (Nat.le_of_ble_eq_true rfl) (kd kX8_init_0 8 rfl) (fun q2 H hP hD hS => ?_)
  obtain ⟨E1, hE1⟩ : ∃ z, z = E0 ++ [(q2, .inl (Γ.2.1.1, 277, .inl (fun _ => 0)))] := ⟨_, rfl⟩
  have hP : va_P Γ.2.2 vwCl (ws ++ ((a, .inr (8, [.ref q1, .null, .null, .int 0, .null, .int 0, .null, .int 0, .int 0, .int 0, .int 0, .null, .null, .null, .null, .null, .null, .null, .null, .null, .null, .null, .null, .null, .null, .null, .null, .int 0, .null, .null, .null])) :: (q1, .inl (Γ.2.1.1, 277, .inl (fun _ => 0))) :: E1)) H := by rw [hE1]; exact hP
  have hD : va_D (va_A (ws ++ [(a, e0)]) sz) (ws ++ ((a, .inr (8, [.ref q1, .null, .null, .int 0, .null, .int 0, .null, .int 0, .int 0, .int 0, .int 0, .null, .null, .null, .null, .null, .null, .null, .null, .null, .null, .null, .null, .null, .null, .null, .null, .int 0, .null, .null, .null])) :: (q1, .inl (Γ.2.1.1, 277, .inl (fun _ => 0))) :: E1)) := by rw [hE1]; exact hD
  refine xr_putF (i := 1) C hP hD hS 0 rfl (B' := ((a, .inr (8, [.ref q1, .ref q2, .null, .int 0, .null, .int 0, .null, .int 0, .int 0, .int 0, .int 0, .null, .null, .null, .null, .null, .null, .null, .null, .null, .null, .null, .null, .null, .null, .null, .null, .int 0, .null, .null, .null])) :: (q1, .inl (Γ.2.1.1, 277, .inl (fun _ => 0))) :: E1)) rfl rfl inX8 tyX8 tyX8_ok nmX8 (Nat.le_of_ble_eq_true rfl) tw_863 rfl rfl rfl rfl (Nat.le_of_ble_eq_true rfl) (kd kX8_init_0 9 rfl) (fun H locs hP hD hS => ?_)
  refine lv_aload_n C.1 C.2.1 (kd kX8_init_0 10 rfl) rfl (lv_at hl 0 rfl) ?_
  refine lv_sipush (v := (1662 : Int32)) C.1 C.2.1 (kd kX8_init_0 11 rfl) (by decide) ?_
  refine xr_newi C hP hD hS hA tw_112 (n := (1662 : Int32)) (N := 1662) (by decide) rfl (Nat.le_of_ble_eq_true rfl) (c' := 3) (s' := 2216) rfl rfl (Nat.le_of_ble_eq_true rfl) (Nat.le_of_ble_eq_true rfl) (kd kX8_init_0 12 rfl) (fun q3 H hP hD hS => ?_)
  obtain ⟨E2, hE2⟩ : ∃ z, z = E1 ++ [(q3, .inl (Γ.2.1.1, 1662, .inl (fun _ => 0)))] := ⟨_, rfl⟩
  have hP : va_P Γ.2.2 vwCl (ws ++ ((a, .inr (8, [.ref q1, .ref q2, .null, .int 0, .null, .int 0, .null, .int 0, .int 0, .int 0, .int 0, .null, .null, .null, .null, .null, .null, .null, .null, .null, .null, .null, .null, .null, .null, .null, .null, .int 0, .null, .null, .null])) :: (q1, .inl (Γ.2.1.1, 277, .inl (fun _ => 0))) :: E2)) H := by rw [hE2]; exact hP
  have hD : va_D (va_A (ws ++ [(a, e0)]) sz) (ws ++ ((a, .inr (8, [.ref q1, .ref q2, .null, .int 0, .null, .int 0, .null, .int 0, .int 0, .int 0, .int 0, .null, .null, .null, .null, .null, .null, .null, .null, .null, .null, .null, .null, .null, .null, .null, .null, .int 0, .null, .null, .null])) :: (q1, .inl (Γ.2.1.1, 277, .inl (fun _ => 0))) :: E2)) := by rw [hE2]; exact hD
  refine xr_putF (i := 2) C hP hD hS 0 rfl (B' := ((a, .inr (8, [.ref q1, .ref q2, .ref q3, .int 0, .null, .int 0, .null, .int 0, .int 0, .int 0, .int 0, .null, .null, .null, .null, .null, .null, .null, .null, .null, .null, .null, .null, .null, .null, .null, .null, .int 0, .null, .null, .null])) :: (q1, .inl (Γ.2.1.1, 277, .inl (fun _ => 0))) :: E2)) rfl rfl inX8 tyX8 tyX8_ok nmX8 (Nat.le_of_ble_eq_true rfl) tw_864 rfl rfl rfl rfl (Nat.le_of_ble_eq_true rfl) (kd kX8_init_0 13 rfl) (fun H locs hP hD hS => ?_)
  refine lv_aload_n C.1 C.2.1 (kd kX8_init_0 14 rfl) rfl (lv_at hl 0 rfl) ?_
  refine lv_sipush (v := (277 : Int32)) C.1 C.2.1 (kd kX8_init_0 15 rfl) (by decide) ?_
  refine xr_newi C hP hD hS hA tw_112 (n := (277 : Int32)) (N := 277) (by decide) rfl (Nat.le_of_ble_eq_true rfl) (c' := 4) (s' := 2493) rfl rfl (Nat.le_of_ble_eq_true rfl) (Nat.le_of_ble_eq_true rfl) (kd kX8_init_0 16 rfl) (fun q4 H hP hD hS => ?_)
  obtain ⟨E3, hE3⟩ : ∃ z, z = E2 ++ [(q4, .inl (Γ.2.1.1, 277, .inl (fun _ => 0)))] := ⟨_, rfl⟩
  have hP : va_P Γ.2.2 vwCl (ws ++ ((a, .inr (8, [.ref q1, .ref q2, .ref q3, .int 0, .null, .int 0, .null, .int 0, .int 0, .int 0, .int 0, .null, .null, .null, .null, .null, .null, .null, .null, .null, .null, .null, .null, .null, .null, .null, .null, .int 0, .null, .null, .null])) :: (q1, .inl (Γ.2.1.1, 277, .inl (fun _ => 0))) :: E3)) H := by rw [hE3]; exact hP
  have hD : va_D (va_A (ws ++ [(a, e0)]) sz) (ws ++ ((a, .inr (8, [.ref q1, .ref q2, .ref q3, .int 0, .null, .int 0, .null, .int 0, .int 0, .int 0, .int 0, .null, .null, .null, .null, .null, .null, .null, .null, .null, .null, .null, .null, .null, .null, .null, .null, .int 0, .null, .null, .null])) :: (q1, .inl (Γ.2.1.1, 277, .inl (fun _ => 0))) :: E3)) := by rw [hE3]; exact hD
  refine xr_putF (i := 4) C hP hD hS 0 rfl (B' := ((a, .inr (8, [.ref q1, .ref q2, .ref q3, .int 0, .ref q4, .int 0, .null, .int 0, .int 0, .int 0, .int 0, .null, .null, .null, .null, .null, .null, .null, .null, .null, .null, .null, .null, .null, .null, .null, .null, .int 0, .null, .null, .null])) :: (q1, .inl (Γ.2.1.1, 277, .inl (fun _ => 0))) :: E3)) rfl rfl inX8 tyX8 tyX8_ok nmX8 (Nat.le_of_ble_eq_true rfl) tw_866 rfl rfl rfl rfl (Nat.le_of_ble_eq_true rfl) (kd kX8_init_0 17 rfl) (fun H locs hP hD hS => ?_)
  refine lv_aload_n C.1 C.2.1 (kd kX8_init_0 18 rfl) rfl (lv_at hl 0 rfl) ?_
  refine lv_bipush (v := (60 : Int32)) C.1 C.2.1 (kd kX8_init_0 19 rfl) (by decide) ?_
  refine xr_newc C hP hD hS hA tw_266 (n := (60 : Int32)) (N := 60) (by decide) rfl (Nat.le_of_ble_eq_true rfl) (c' := 5) (s' := 2553) rfl rfl (Nat.le_of_ble_eq_true rfl) (Nat.le_of_ble_eq_true rfl) (kd kX8_init_0 20 rfl) (fun q5 H hP hD hS => ?_)
  obtain ⟨E4, hE4⟩ : ∃ z, z = E3 ++ [(q5, .inl (Γ.2.1.2.1, 60, .inl (fun _ => 0)))] := ⟨_, rfl⟩
  have hP : va_P Γ.2.2 vwCl (ws ++ ((a, .inr (8, [.ref q1, .ref q2, .ref q3, .int 0, .ref q4, .int 0, .null, .int 0, .int 0, .int 0, .int 0, .null, .null, .null, .null, .null, .null, .null, .null, .null, .null, .null, .null, .null, .null, .null, .null, .int 0, .null, .null, .null])) :: (q1, .inl (Γ.2.1.1, 277, .inl (fun _ => 0))) :: E4)) H := by rw [hE4]; exact hP
  have hD : va_D (va_A (ws ++ [(a, e0)]) sz) (ws ++ ((a, .inr (8, [.ref q1, .ref q2, .ref q3, .int 0, .ref q4, .int 0, .null, .int 0, .int 0, .int 0, .int 0, .null, .null, .null, .null, .null, .null, .null, .null, .null, .null, .null, .null, .null, .null, .null, .null, .int 0, .null, .null, .null])) :: (q1, .inl (Γ.2.1.1, 277, .inl (fun _ => 0))) :: E4)) := by rw [hE4]; exact hD
  refine xr_putF (i := 6) C hP hD hS 0 rfl (B' := ((a, .inr (8, [.ref q1, .ref q2, .ref q3, .int 0, .ref q4, .int 0, .ref q5, .int 0, .int 0, .int 0, .int 0, .null, .null, .null, .null, .null, .null, .null, .null, .null, .null, .null, .null, .null, .null, .null, .null, .int 0, .null, .null, .null])) :: (q1, .inl (Γ.2.1.1, 277, .inl (fun _ => 0))) :: E4)) rfl rfl inX8 tyX8 tyX8_ok nmX8 (Nat.le_of_ble_eq_true rfl) tw_868 rfl rfl rfl rfl (Nat.le_of_ble_eq_true rfl) (kd kX8_init_0 21 rfl) (fun H locs hP hD hS => ?_)
  refine lv_aload_n C.1 C.2.1 (kd kX8_init_0 22 rfl) rfl (lv_at hl 0 rfl) ?_
  refine lv_sipush (v := (-10004 : Int32)) C.1 C.2.1 (kd kX8_init_0 23 rfl) (by decide) ?_
  refine xr_put (i := 8) C hP hD hS 0 rfl (B' := ((a, .inr (8, [.ref q1, .ref q2, .ref q3, .int 0, .ref q4, .int 0, .ref q5, .int 0, .int (-10004 : Int32), .int 0, .int 0, .null, .null, .null, .null, .null, .null, .null, .null, .null, .null, .null, .null, .null, .null, .null, .null, .int 0, .null, .null, .null])) :: (q1, .inl (Γ.2.1.1, 277, .inl (fun _ => 0))) :: E4)) rfl rfl inX8 tyX8 tyX8_ok nmX8 (Nat.le_of_ble_eq_true rfl) tw_870 rfl rfl rfl (Nat.le_of_ble_eq_true rfl) (kd kX8_init_0 24 rfl) (fun H locs hP hD hS => ?_)
  refine lv_aload_n C.1 C.2.1 (kd kX8_init_0 25 rfl) rfl (lv_at hl 0 rfl) ?_
  refine lv_iconst (v := (4 : Int32)) C.1 C.2.1 (kd kX8_init_0 26 rfl) (by decide) ?_
  refine xr_newi C hP hD hS hA tw_112 (n := (4 : Int32)) (N := 4) (by decide) rfl (Nat.le_of_ble_eq_true rfl) (c' := 6) (s' := 2557) rfl rfl (Nat.le_of_ble_eq_true rfl) (Nat.le_of_ble_eq_true rfl) (kd kX8_init_0 27 rfl) (fun q6 H hP hD hS => ?_)
  obtain ⟨E5, hE5⟩ : ∃ z, z = E4 ++ [(q6, .inl (Γ.2.1.1, 4, .inl (fun _ => 0)))] := ⟨_, rfl⟩
  have hP : va_P Γ.2.2 vwCl (ws ++ ((a, .inr (8, [.ref q1, .ref q2, .ref q3, .int 0, .ref q4, .int 0, .ref q5, .int 0, .int (-10004 : Int32), .int 0, .int 0, .null, .null, .null, .null, .null, .null, .null, .null, .null, .null, .null, .null, .null, .null, .null, .null, .int 0, .null, .null, .null])) :: (q1, .inl (Γ.2.1.1, 277, .inl (fun _ => 0))) :: E5)) H := by rw [hE5]; exact hP
  have hD : va_D (va_A (ws ++ [(a, e0)]) sz) (ws ++ ((a, .inr (8, [.ref q1, .ref q2, .ref q3, .int 0, .ref q4, .int 0, .ref q5, .int 0, .int (-10004 : Int32), .int 0, .int 0, .null, .null, .null, .null, .null, .null, .null, .null, .null, .null, .null, .null, .null, .null, .null, .null, .int 0, .null, .null, .null])) :: (q1, .inl (Γ.2.1.1, 277, .inl (fun _ => 0))) :: E5)) := by rw [hE5]; exact hD
  refine xr_putF (i := 11) C hP hD hS 0 rfl (B' := ((a, .inr (8, [.ref q1, .ref q2, .ref q3, .int 0, .ref q4, .int 0, .ref q5, .int 0, .int (-10004 : Int32), .int 0, .int 0, .ref q6, .null, .null, .null, .null, .null, .null, .null, .null, .null, .null, .null, .null, .null, .null, .null, .int 0, .null, .null, .null])) :: (q1, .inl (Γ.2.1.1, 277, .inl (fun _ => 0))) :: E5)) rfl rfl inX8 tyX8 tyX8_ok nmX8 (Nat.le_of_ble_eq_true rfl) tw_873 rfl rfl rfl rfl (Nat.le_of_ble_eq_true rfl) (kd kX8_init_0 28 rfl) (fun H locs hP hD hS => ?_)
  refine lv_aload_n C.1 C.2.1 (kd kX8_init_0 29 rfl) rfl (lv_at hl 0 rfl) ?_
  refine lv_bipush (v := (12 : Int32)) C.1 C.2.1 (kd kX8_init_0 30 rfl) (by decide) ?_
  refine xr_newi C hP hD hS hA tw_112 (n := (12 : Int32)) (N := 12) (by decide) rfl (Nat.le_of_ble_eq_true rfl) (c' := 7) (s' := 2569) rfl rfl (Nat.le_of_ble_eq_true rfl) (Nat.le_of_ble_eq_true rfl) (kd kX8_init_0 31 rfl) (fun q7 H hP hD hS => ?_)
  obtain ⟨E6, hE6⟩ : ∃ z, z = E5 ++ [(q7, .inl (Γ.2.1.1, 12, .inl (fun _ => 0)))] := ⟨_, rfl⟩
  have hP : va_P Γ.2.2 vwCl (ws ++ ((a, .inr (8, [.ref q1, .ref q2, .ref q3, .int 0, .ref q4, .int 0, .ref q5, .int 0, .int (-10004 : Int32), .int 0, .int 0, .ref q6, .null, .null, .null, .null, .null, .null, .null, .null, .null, .null, .null, .null, .null, .null, .null, .int 0, .null, .null, .null])) :: (q1, .inl (Γ.2.1.1, 277, .inl (fun _ => 0))) :: E6)) H := by rw [hE6]; exact hP
  have hD : va_D (va_A (ws ++ [(a, e0)]) sz) (ws ++ ((a, .inr (8, [.ref q1, .ref q2, .ref q3, .int 0, .ref q4, .int 0, .ref q5, .int 0, .int (-10004 : Int32), .int 0, .int 0, .ref q6, .null, .null, .null, .null, .null, .null, .null, .null, .null, .null, .null, .null, .null, .null, .null, .int 0, .null, .null, .null])) :: (q1, .inl (Γ.2.1.1, 277, .inl (fun _ => 0))) :: E6)) := by rw [hE6]; exact hD
  refine xr_putF (i := 12) C hP hD hS 0 rfl (B' := ((a, .inr (8, [.ref q1, .ref q2, .ref q3, .int 0, .ref q4, .int 0, .ref q5, .int 0, .int (-10004 : Int32), .int 0, .int 0, .ref q6, .ref q7, .null, .null, .null, .null, .null, .null, .null, .null, .null, .null, .null, .null, .null, .null, .int 0, .null, .null, .null])) :: (q1, .inl (Γ.2.1.1, 277, .inl (fun _ => 0))) :: E6)) rfl rfl inX8 tyX8 tyX8_ok nmX8 (Nat.le_of_ble_eq_true rfl) tw_874 rfl rfl rfl rfl (Nat.le_of_ble_eq_true rfl) (kd kX8_init_0 32 rfl) (fun H locs hP hD hS => ?_)
  refine lv_aload_n C.1 C.2.1 (kd kX8_init_0 33 rfl) rfl (lv_at hl 0 rfl) ?_
  refine lv_bipush (v := (12 : Int32)) C.1 C.2.1 (kd kX8_init_0 34 rfl) (by decide) ?_
  refine xr_newi C hP hD hS hA tw_112 (n := (12 : Int32)) (N := 12) (by decide) rfl (Nat.le_of_ble_eq_true rfl) (c' := 8) (s' := 2581) rfl rfl (Nat.le_of_ble_eq_true rfl) (Nat.le_of_ble_eq_true rfl) (kd kX8_init_0 35 rfl) (fun q8 H hP hD hS => ?_)
  obtain ⟨E7, hE7⟩ : ∃ z, z = E6 ++ [(q8, .inl (Γ.2.1.1, 12, .inl (fun _ => 0)))] := ⟨_, rfl⟩
  have hP : va_P Γ.2.2 vwCl (ws ++ ((a, .inr (8, [.ref q1, .ref q2, .ref q3, .int 0, .ref q4, .int 0, .ref q5, .int 0, .int (-10004 : Int32), .int 0, .int 0, .ref q6, .ref q7, .null, .null, .null, .null, .null, .null, .null, .null, .null, .null, .null, .null, .null, .null, .int 0, .null, .null, .null])) :: (q1, .inl (Γ.2.1.1, 277, .inl (fun _ => 0))) :: E7)) H := by rw [hE7]; exact hP
  have hD : va_D (va_A (ws ++ [(a, e0)]) sz) (ws ++ ((a, .inr (8, [.ref q1, .ref q2, .ref q3, .int 0, .ref q4, .int 0, .ref q5, .int 0, .int (-10004 : Int32), .int 0, .int 0, .ref q6, .ref q7, .null, .null, .null, .null, .null, .null, .null, .null, .null, .null, .null, .null, .null, .null, .int 0, .null, .null, .null])) :: (q1, .inl (Γ.2.1.1, 277, .inl (fun _ => 0))) :: E7)) := by rw [hE7]; exact hD
  refine xr_putF (i := 13) C hP hD hS 0 rfl (B' := ((a, .inr (8, [.ref q1, .ref q2, .ref q3, .int 0, .ref q4, .int 0, .ref q5, .int 0, .int (-10004 : Int32), .int 0, .int 0, .ref q6, .ref q7, .ref q8, .null, .null, .null, .null, .null, .null, .null, .null, .null, .null, .null, .null, .null, .int 0, .null, .null, .null])) :: (q1, .inl (Γ.2.1.1, 277, .inl (fun _ => 0))) :: E7)) rfl rfl inX8 tyX8 tyX8_ok nmX8 (Nat.le_of_ble_eq_true rfl) tw_875 rfl rfl rfl rfl (Nat.le_of_ble_eq_true rfl) (kd kX8_init_0 36 rfl) (fun H locs hP hD hS => ?_)
  refine lv_aload_n C.1 C.2.1 (kd kX8_init_0 37 rfl) rfl (lv_at hl 0 rfl) ?_
  refine lv_bipush (v := (12 : Int32)) C.1 C.2.1 (kd kX8_init_0 38 rfl) (by decide) ?_
  refine xr_newi C hP hD hS hA tw_112 (n := (12 : Int32)) (N := 12) (by decide) rfl (Nat.le_of_ble_eq_true rfl) (c' := 9) (s' := 2593) rfl rfl (Nat.le_of_ble_eq_true rfl) (Nat.le_of_ble_eq_true rfl) (kd kX8_init_0 39 rfl) (fun q9 H hP hD hS => ?_)
  obtain ⟨E8, hE8⟩ : ∃ z, z = E7 ++ [(q9, .inl (Γ.2.1.1, 12, .inl (fun _ => 0)))] := ⟨_, rfl⟩
  have hP : va_P Γ.2.2 vwCl (ws ++ ((a, .inr (8, [.ref q1, .ref q2, .ref q3, .int 0, .ref q4, .int 0, .ref q5, .int 0, .int (-10004 : Int32), .int 0, .int 0, .ref q6, .ref q7, .ref q8, .null, .null, .null, .null, .null, .null, .null, .null, .null, .null, .null, .null, .null, .int 0, .null, .null, .null])) :: (q1, .inl (Γ.2.1.1, 277, .inl (fun _ => 0))) :: E8)) H := by rw [hE8]; exact hP
  have hD : va_D (va_A (ws ++ [(a, e0)]) sz) (ws ++ ((a, .inr (8, [.ref q1, .ref q2, .ref q3, .int 0, .ref q4, .int 0, .ref q5, .int 0, .int (-10004 : Int32), .int 0, .int 0, .ref q6, .ref q7, .ref q8, .null, .null, .null, .null, .null, .null, .null, .null, .null, .null, .null, .null, .null, .int 0, .null, .null, .null])) :: (q1, .inl (Γ.2.1.1, 277, .inl (fun _ => 0))) :: E8)) := by rw [hE8]; exact hD
  refine xr_putF (i := 14) C hP hD hS 0 rfl (B' := ((a, .inr (8, [.ref q1, .ref q2, .ref q3, .int 0, .ref q4, .int 0, .ref q5, .int 0, .int (-10004 : Int32), .int 0, .int 0, .ref q6, .ref q7, .ref q8, .ref q9, .null, .null, .null, .null, .null, .null, .null, .null, .null, .null, .null, .null, .int 0, .null, .null, .null])) :: (q1, .inl (Γ.2.1.1, 277, .inl (fun _ => 0))) :: E8)) rfl rfl inX8 tyX8 tyX8_ok nmX8 (Nat.le_of_ble_eq_true rfl) tw_876 rfl rfl rfl rfl (Nat.le_of_ble_eq_true rfl) (kd kX8_init_0 40 rfl) (fun H locs hP hD hS => ?_)
  refine lv_aload_n C.1 C.2.1 (kd kX8_init_0 41 rfl) rfl (lv_at hl 0 rfl) ?_
  refine lv_bipush (v := (12 : Int32)) C.1 C.2.1 (kd kX8_init_0 42 rfl) (by decide) ?_
  refine xr_newi C hP hD hS hA tw_112 (n := (12 : Int32)) (N := 12) (by decide) rfl (Nat.le_of_ble_eq_true rfl) (c' := 10) (s' := 2605) rfl rfl (Nat.le_of_ble_eq_true rfl) (Nat.le_of_ble_eq_true rfl) (kd kX8_init_0 43 rfl) (fun q10 H hP hD hS => ?_)
  obtain ⟨E9, hE9⟩ : ∃ z, z = E8 ++ [(q10, .inl (Γ.2.1.1, 12, .inl (fun _ => 0)))] := ⟨_, rfl⟩
  have hP : va_P Γ.2.2 vwCl (ws ++ ((a, .inr (8, [.ref q1, .ref q2, .ref q3, .int 0, .ref q4, .int 0, .ref q5, .int 0, .int (-10004 : Int32), .int 0, .int 0, .ref q6, .ref q7, .ref q8, .ref q9, .null, .null, .null, .null, .null, .null, .null, .null, .null, .null, .null, .null, .int 0, .null, .null, .null])) :: (q1, .inl (Γ.2.1.1, 277, .inl (fun _ => 0))) :: E9)) H := by rw [hE9]; exact hP
  have hD : va_D (va_A (ws ++ [(a, e0)]) sz) (ws ++ ((a, .inr (8, [.ref q1, .ref q2, .ref q3, .int 0, .ref q4, .int 0, .ref q5, .int 0, .int (-10004 : Int32), .int 0, .int 0, .ref q6, .ref q7, .ref q8, .ref q9, .null, .null, .null, .null, .null, .null, .null, .null, .null, .null, .null, .null, .int 0, .null, .null, .null])) :: (q1, .inl (Γ.2.1.1, 277, .inl (fun _ => 0))) :: E9)) := by rw [hE9]; exact hD
  refine xr_putF (i := 15) C hP hD hS 0 rfl (B' := ((a, .inr (8, [.ref q1, .ref q2, .ref q3, .int 0, .ref q4, .int 0, .ref q5, .int 0, .int (-10004 : Int32), .int 0, .int 0, .ref q6, .ref q7, .ref q8, .ref q9, .ref q10, .null, .null, .null, .null, .null, .null, .null, .null, .null, .null, .null, .int 0, .null, .null, .null])) :: (q1, .inl (Γ.2.1.1, 277, .inl (fun _ => 0))) :: E9)) rfl rfl inX8 tyX8 tyX8_ok nmX8 (Nat.le_of_ble_eq_true rfl) tw_877 rfl rfl rfl rfl (Nat.le_of_ble_eq_true rfl) (kd kX8_init_0 44 rfl) (fun H locs hP hD hS => ?_)
  refine lv_aload_n C.1 C.2.1 (kd kX8_init_0 45 rfl) rfl (lv_at hl 0 rfl) ?_
  refine lv_bipush (v := (12 : Int32)) C.1 C.2.1 (kd kX8_init_0 46 rfl) (by decide) ?_
  refine xr_newi C hP hD hS hA tw_112 (n := (12 : Int32)) (N := 12) (by decide) rfl (Nat.le_of_ble_eq_true rfl) (c' := 11) (s' := 2617) rfl rfl (Nat.le_of_ble_eq_true rfl) (Nat.le_of_ble_eq_true rfl) (kd kX8_init_0 47 rfl) (fun q11 H hP hD hS => ?_)
  obtain ⟨E10, hE10⟩ : ∃ z, z = E9 ++ [(q11, .inl (Γ.2.1.1, 12, .inl (fun _ => 0)))] := ⟨_, rfl⟩
  have hP : va_P Γ.2.2 vwCl (ws ++ ((a, .inr (8, [.ref q1, .ref q2, .ref q3, .int 0, .ref q4, .int 0, .ref q5, .int 0, .int (-10004 : Int32), .int 0, .int 0, .ref q6, .ref q7, .ref q8, .ref q9, .ref q10, .null, .null, .null, .null, .null, .null, .null, .null, .null, .null, .null, .int 0, .null, .null, .null])) :: (q1, .inl (Γ.2.1.1, 277, .inl (fun _ => 0))) :: E10)) H := by rw [hE10]; exact hP
  have hD : va_D (va_A (ws ++ [(a, e0)]) sz) (ws ++ ((a, .inr (8, [.ref q1, .ref q2, .ref q3, .int 0, .ref q4, .int 0, .ref q5, .int 0, .int (-10004 : Int32), .int 0, .int 0, .ref q6, .ref q7, .ref q8, .ref q9, .ref q10, .null, .null, .null, .null, .null, .null, .null, .null, .null, .null, .null, .int 0, .null, .null, .null])) :: (q1, .inl (Γ.2.1.1, 277, .inl (fun _ => 0))) :: E10)) := by rw [hE10]; exact hD
  refine xr_putF (i := 16) C hP hD hS 0 rfl (B' := ((a, .inr (8, [.ref q1, .ref q2, .ref q3, .int 0, .ref q4, .int 0, .ref q5, .int 0, .int (-10004 : Int32), .int 0, .int 0, .ref q6, .ref q7, .ref q8, .ref q9, .ref q10, .ref q11, .null, .null, .null, .null, .null, .null, .null, .null, .null, .null, .int 0, .null, .null, .null])) :: (q1, .inl (Γ.2.1.1, 277, .inl (fun _ => 0))) :: E10)) rfl rfl inX8 tyX8 tyX8_ok nmX8 (Nat.le_of_ble_eq_true rfl) tw_878 rfl rfl rfl rfl (Nat.le_of_ble_eq_true rfl) (kd kX8_init_0 48 rfl) (fun H locs hP hD hS => ?_)
  refine lv_aload_n C.1 C.2.1 (kd kX8_init_0 49 rfl) rfl (lv_at hl 0 rfl) ?_
  refine lv_sipush (v := (288 : Int32)) C.1 C.2.1 (kd kX8_init_0 50 rfl) (by decide) ?_
  refine xr_newi C hP hD hS hA tw_112 (n := (288 : Int32)) (N := 288) (by decide) rfl (Nat.le_of_ble_eq_true rfl) (c' := 12) (s' := 2905) rfl rfl (Nat.le_of_ble_eq_true rfl) (Nat.le_of_ble_eq_true rfl) (kd kX8_init_0 51 rfl) (fun q12 H hP hD hS => ?_)
  obtain ⟨E11, hE11⟩ : ∃ z, z = E10 ++ [(q12, .inl (Γ.2.1.1, 288, .inl (fun _ => 0)))] := ⟨_, rfl⟩
  have hP : va_P Γ.2.2 vwCl (ws ++ ((a, .inr (8, [.ref q1, .ref q2, .ref q3, .int 0, .ref q4, .int 0, .ref q5, .int 0, .int (-10004 : Int32), .int 0, .int 0, .ref q6, .ref q7, .ref q8, .ref q9, .ref q10, .ref q11, .null, .null, .null, .null, .null, .null, .null, .null, .null, .null, .int 0, .null, .null, .null])) :: (q1, .inl (Γ.2.1.1, 277, .inl (fun _ => 0))) :: E11)) H := by rw [hE11]; exact hP
  have hD : va_D (va_A (ws ++ [(a, e0)]) sz) (ws ++ ((a, .inr (8, [.ref q1, .ref q2, .ref q3, .int 0, .ref q4, .int 0, .ref q5, .int 0, .int (-10004 : Int32), .int 0, .int 0, .ref q6, .ref q7, .ref q8, .ref q9, .ref q10, .ref q11, .null, .null, .null, .null, .null, .null, .null, .null, .null, .null, .int 0, .null, .null, .null])) :: (q1, .inl (Γ.2.1.1, 277, .inl (fun _ => 0))) :: E11)) := by rw [hE11]; exact hD
  refine xr_putF (i := 17) C hP hD hS 0 rfl (B' := ((a, .inr (8, [.ref q1, .ref q2, .ref q3, .int 0, .ref q4, .int 0, .ref q5, .int 0, .int (-10004 : Int32), .int 0, .int 0, .ref q6, .ref q7, .ref q8, .ref q9, .ref q10, .ref q11, .ref q12, .null, .null, .null, .null, .null, .null, .null, .null, .null, .int 0, .null, .null, .null])) :: (q1, .inl (Γ.2.1.1, 277, .inl (fun _ => 0))) :: E11)) rfl rfl inX8 tyX8 tyX8_ok nmX8 (Nat.le_of_ble_eq_true rfl) tw_879 rfl rfl rfl rfl (Nat.le_of_ble_eq_true rfl) (kd kX8_init_0 52 rfl) (fun H locs hP hD hS => ?_)
  refine lv_aload_n C.1 C.2.1 (kd kX8_init_0 53 rfl) rfl (lv_at hl 0 rfl) ?_
  refine lv_bipush (v := (12 : Int32)) C.1 C.2.1 (kd kX8_init_0 54 rfl) (by decide) ?_
  refine xr_newi C hP hD hS hA tw_112 (n := (12 : Int32)) (N := 12) (by decide) rfl (Nat.le_of_ble_eq_true rfl) (c' := 13) (s' := 2917) rfl rfl (Nat.le_of_ble_eq_true rfl) (Nat.le_of_ble_eq_true rfl) (kd kX8_init_0 55 rfl) (fun q13 H hP hD hS => ?_)
  obtain ⟨E12, hE12⟩ : ∃ z, z = E11 ++ [(q13, .inl (Γ.2.1.1, 12, .inl (fun _ => 0)))] := ⟨_, rfl⟩
  have hP : va_P Γ.2.2 vwCl (ws ++ ((a, .inr (8, [.ref q1, .ref q2, .ref q3, .int 0, .ref q4, .int 0, .ref q5, .int 0, .int (-10004 : Int32), .int 0, .int 0, .ref q6, .ref q7, .ref q8, .ref q9, .ref q10, .ref q11, .ref q12, .null, .null, .null, .null, .null, .null, .null, .null, .null, .int 0, .null, .null, .null])) :: (q1, .inl (Γ.2.1.1, 277, .inl (fun _ => 0))) :: E12)) H := by rw [hE12]; exact hP
  have hD : va_D (va_A (ws ++ [(a, e0)]) sz) (ws ++ ((a, .inr (8, [.ref q1, .ref q2, .ref q3, .int 0, .ref q4, .int 0, .ref q5, .int 0, .int (-10004 : Int32), .int 0, .int 0, .ref q6, .ref q7, .ref q8, .ref q9, .ref q10, .ref q11, .ref q12, .null, .null, .null, .null, .null, .null, .null, .null, .null, .int 0, .null, .null, .null])) :: (q1, .inl (Γ.2.1.1, 277, .inl (fun _ => 0))) :: E12)) := by rw [hE12]; exact hD
  refine xr_putF (i := 18) C hP hD hS 0 rfl (B' := ((a, .inr (8, [.ref q1, .ref q2, .ref q3, .int 0, .ref q4, .int 0, .ref q5, .int 0, .int (-10004 : Int32), .int 0, .int 0, .ref q6, .ref q7, .ref q8, .ref q9, .ref q10, .ref q11, .ref q12, .ref q13, .null, .null, .null, .null, .null, .null, .null, .null, .int 0, .null, .null, .null])) :: (q1, .inl (Γ.2.1.1, 277, .inl (fun _ => 0))) :: E12)) rfl rfl inX8 tyX8 tyX8_ok nmX8 (Nat.le_of_ble_eq_true rfl) tw_880 rfl rfl rfl rfl (Nat.le_of_ble_eq_true rfl) (kd kX8_init_0 56 rfl) (fun H locs hP hD hS => ?_)
  refine lv_aload_n C.1 C.2.1 (kd kX8_init_0 57 rfl) rfl (lv_at hl 0 rfl) ?_
  refine lv_bipush (v := (24 : Int32)) C.1 C.2.1 (kd kX8_init_0 58 rfl) (by decide) ?_
  refine xr_newi C hP hD hS hA tw_112 (n := (24 : Int32)) (N := 24) (by decide) rfl (Nat.le_of_ble_eq_true rfl) (c' := 14) (s' := 2941) rfl rfl (Nat.le_of_ble_eq_true rfl) (Nat.le_of_ble_eq_true rfl) (kd kX8_init_0 59 rfl) (fun q14 H hP hD hS => ?_)
  obtain ⟨E13, hE13⟩ : ∃ z, z = E12 ++ [(q14, .inl (Γ.2.1.1, 24, .inl (fun _ => 0)))] := ⟨_, rfl⟩
  have hP : va_P Γ.2.2 vwCl (ws ++ ((a, .inr (8, [.ref q1, .ref q2, .ref q3, .int 0, .ref q4, .int 0, .ref q5, .int 0, .int (-10004 : Int32), .int 0, .int 0, .ref q6, .ref q7, .ref q8, .ref q9, .ref q10, .ref q11, .ref q12, .ref q13, .null, .null, .null, .null, .null, .null, .null, .null, .int 0, .null, .null, .null])) :: (q1, .inl (Γ.2.1.1, 277, .inl (fun _ => 0))) :: E13)) H := by rw [hE13]; exact hP
  have hD : va_D (va_A (ws ++ [(a, e0)]) sz) (ws ++ ((a, .inr (8, [.ref q1, .ref q2, .ref q3, .int 0, .ref q4, .int 0, .ref q5, .int 0, .int (-10004 : Int32), .int 0, .int 0, .ref q6, .ref q7, .ref q8, .ref q9, .ref q10, .ref q11, .ref q12, .ref q13, .null, .null, .null, .null, .null, .null, .null, .null, .int 0, .null, .null, .null])) :: (q1, .inl (Γ.2.1.1, 277, .inl (fun _ => 0))) :: E13)) := by rw [hE13]; exact hD
  refine xr_putF (i := 19) C hP hD hS 0 rfl (B' := ((a, .inr (8, [.ref q1, .ref q2, .ref q3, .int 0, .ref q4, .int 0, .ref q5, .int 0, .int (-10004 : Int32), .int 0, .int 0, .ref q6, .ref q7, .ref q8, .ref q9, .ref q10, .ref q11, .ref q12, .ref q13, .ref q14, .null, .null, .null, .null, .null, .null, .null, .int 0, .null, .null, .null])) :: (q1, .inl (Γ.2.1.1, 277, .inl (fun _ => 0))) :: E13)) rfl rfl inX8 tyX8 tyX8_ok nmX8 (Nat.le_of_ble_eq_true rfl) tw_881 rfl rfl rfl rfl (Nat.le_of_ble_eq_true rfl) (kd kX8_init_1 0 rfl) (fun H locs hP hD hS => ?_)
  refine lv_aload_n C.1 C.2.1 (kd kX8_init_1 1 rfl) rfl (lv_at hl 0 rfl) ?_
  refine lv_bipush (v := (24 : Int32)) C.1 C.2.1 (kd kX8_init_1 2 rfl) (by decide) ?_
  refine xr_newi C hP hD hS hA tw_112 (n := (24 : Int32)) (N := 24) (by decide) rfl (Nat.le_of_ble_eq_true rfl) (c' := 15) (s' := 2965) rfl rfl (Nat.le_of_ble_eq_true rfl) (Nat.le_of_ble_eq_true rfl) (kd kX8_init_1 3 rfl) (fun q15 H hP hD hS => ?_)
  obtain ⟨E14, hE14⟩ : ∃ z, z = E13 ++ [(q15, .inl (Γ.2.1.1, 24, .inl (fun _ => 0)))] := ⟨_, rfl⟩
  have hP : va_P Γ.2.2 vwCl (ws ++ ((a, .inr (8, [.ref q1, .ref q2, .ref q3, .int 0, .ref q4, .int 0, .ref q5, .int 0, .int (-10004 : Int32), .int 0, .int 0, .ref q6, .ref q7, .ref q8, .ref q9, .ref q10, .ref q11, .ref q12, .ref q13, .ref q14, .null, .null, .null, .null, .null, .null, .null, .int 0, .null, .null, .null])) :: (q1, .inl (Γ.2.1.1, 277, .inl (fun _ => 0))) :: E14)) H := by rw [hE14]; exact hP
  have hD : va_D (va_A (ws ++ [(a, e0)]) sz) (ws ++ ((a, .inr (8, [.ref q1, .ref q2, .ref q3, .int 0, .ref q4, .int 0, .ref q5, .int 0, .int (-10004 : Int32), .int 0, .int 0, .ref q6, .ref q7, .ref q8, .ref q9, .ref q10, .ref q11, .ref q12, .ref q13, .ref q14, .null, .null, .null, .null, .null, .null, .null, .int 0, .null, .null, .null])) :: (q1, .inl (Γ.2.1.1, 277, .inl (fun _ => 0))) :: E14)) := by rw [hE14]; exact hD
  refine xr_putF (i := 20) C hP hD hS 0 rfl (B' := ((a, .inr (8, [.ref q1, .ref q2, .ref q3, .int 0, .ref q4, .int 0, .ref q5, .int 0, .int (-10004 : Int32), .int 0, .int 0, .ref q6, .ref q7, .ref q8, .ref q9, .ref q10, .ref q11, .ref q12, .ref q13, .ref q14, .ref q15, .null, .null, .null, .null, .null, .null, .int 0, .null, .null, .null])) :: (q1, .inl (Γ.2.1.1, 277, .inl (fun _ => 0))) :: E14)) rfl rfl inX8 tyX8 tyX8_ok nmX8 (Nat.le_of_ble_eq_true rfl) tw_882 rfl rfl rfl rfl (Nat.le_of_ble_eq_true rfl) (kd kX8_init_1 4 rfl) (fun H locs hP hD hS => ?_)
  refine lv_aload_n C.1 C.2.1 (kd kX8_init_1 5 rfl) rfl (lv_at hl 0 rfl) ?_
  refine lv_bipush (v := (24 : Int32)) C.1 C.2.1 (kd kX8_init_1 6 rfl) (by decide) ?_
  refine xr_newi C hP hD hS hA tw_112 (n := (24 : Int32)) (N := 24) (by decide) rfl (Nat.le_of_ble_eq_true rfl) (c' := 16) (s' := 2989) rfl rfl (Nat.le_of_ble_eq_true rfl) (Nat.le_of_ble_eq_true rfl) (kd kX8_init_1 7 rfl) (fun q16 H hP hD hS => ?_)
  obtain ⟨E15, hE15⟩ : ∃ z, z = E14 ++ [(q16, .inl (Γ.2.1.1, 24, .inl (fun _ => 0)))] := ⟨_, rfl⟩
  have hP : va_P Γ.2.2 vwCl (ws ++ ((a, .inr (8, [.ref q1, .ref q2, .ref q3, .int 0, .ref q4, .int 0, .ref q5, .int 0, .int (-10004 : Int32), .int 0, .int 0, .ref q6, .ref q7, .ref q8, .ref q9, .ref q10, .ref q11, .ref q12, .ref q13, .ref q14, .ref q15, .null, .null, .null, .null, .null, .null, .int 0, .null, .null, .null])) :: (q1, .inl (Γ.2.1.1, 277, .inl (fun _ => 0))) :: E15)) H := by rw [hE15]; exact hP
  have hD : va_D (va_A (ws ++ [(a, e0)]) sz) (ws ++ ((a, .inr (8, [.ref q1, .ref q2, .ref q3, .int 0, .ref q4, .int 0, .ref q5, .int 0, .int (-10004 : Int32), .int 0, .int 0, .ref q6, .ref q7, .ref q8, .ref q9, .ref q10, .ref q11, .ref q12, .ref q13, .ref q14, .ref q15, .null, .null, .null, .null, .null, .null, .int 0, .null, .null, .null])) :: (q1, .inl (Γ.2.1.1, 277, .inl (fun _ => 0))) :: E15)) := by rw [hE15]; exact hD
  refine xr_putF (i := 21) C hP hD hS 0 rfl (B' := ((a, .inr (8, [.ref q1, .ref q2, .ref q3, .int 0, .ref q4, .int 0, .ref q5, .int 0, .int (-10004 : Int32), .int 0, .int 0, .ref q6, .ref q7, .ref q8, .ref q9, .ref q10, .ref q11, .ref q12, .ref q13, .ref q14, .ref q15, .ref q16, .null, .null, .null, .null, .null, .int 0, .null, .null, .null])) :: (q1, .inl (Γ.2.1.1, 277, .inl (fun _ => 0))) :: E15)) rfl rfl inX8 tyX8 tyX8_ok nmX8 (Nat.le_of_ble_eq_true rfl) tw_883 rfl rfl rfl rfl (Nat.le_of_ble_eq_true rfl) (kd kX8_init_1 8 rfl) (fun H locs hP hD hS => ?_)
  refine lv_aload_n C.1 C.2.1 (kd kX8_init_1 9 rfl) rfl (lv_at hl 0 rfl) ?_
  refine lv_bipush (v := (24 : Int32)) C.1 C.2.1 (kd kX8_init_1 10 rfl) (by decide) ?_
  refine xr_newi C hP hD hS hA tw_112 (n := (24 : Int32)) (N := 24) (by decide) rfl (Nat.le_of_ble_eq_true rfl) (c' := 17) (s' := 3013) rfl rfl (Nat.le_of_ble_eq_true rfl) (Nat.le_of_ble_eq_true rfl) (kd kX8_init_1 11 rfl) (fun q17 H hP hD hS => ?_)
  obtain ⟨E16, hE16⟩ : ∃ z, z = E15 ++ [(q17, .inl (Γ.2.1.1, 24, .inl (fun _ => 0)))] := ⟨_, rfl⟩
  have hP : va_P Γ.2.2 vwCl (ws ++ ((a, .inr (8, [.ref q1, .ref q2, .ref q3, .int 0, .ref q4, .int 0, .ref q5, .int 0, .int (-10004 : Int32), .int 0, .int 0, .ref q6, .ref q7, .ref q8, .ref q9, .ref q10, .ref q11, .ref q12, .ref q13, .ref q14, .ref q15, .ref q16, .null, .null, .null, .null, .null, .int 0, .null, .null, .null])) :: (q1, .inl (Γ.2.1.1, 277, .inl (fun _ => 0))) :: E16)) H := by rw [hE16]; exact hP
  have hD : va_D (va_A (ws ++ [(a, e0)]) sz) (ws ++ ((a, .inr (8, [.ref q1, .ref q2, .ref q3, .int 0, .ref q4, .int 0, .ref q5, .int 0, .int (-10004 : Int32), .int 0, .int 0, .ref q6, .ref q7, .ref q8, .ref q9, .ref q10, .ref q11, .ref q12, .ref q13, .ref q14, .ref q15, .ref q16, .null, .null, .null, .null, .null, .int 0, .null, .null, .null])) :: (q1, .inl (Γ.2.1.1, 277, .inl (fun _ => 0))) :: E16)) := by rw [hE16]; exact hD
  refine xr_putF (i := 22) C hP hD hS 0 rfl (B' := ((a, .inr (8, [.ref q1, .ref q2, .ref q3, .int 0, .ref q4, .int 0, .ref q5, .int 0, .int (-10004 : Int32), .int 0, .int 0, .ref q6, .ref q7, .ref q8, .ref q9, .ref q10, .ref q11, .ref q12, .ref q13, .ref q14, .ref q15, .ref q16, .ref q17, .null, .null, .null, .null, .int 0, .null, .null, .null])) :: (q1, .inl (Γ.2.1.1, 277, .inl (fun _ => 0))) :: E16)) rfl rfl inX8 tyX8 tyX8_ok nmX8 (Nat.le_of_ble_eq_true rfl) tw_884 rfl rfl rfl rfl (Nat.le_of_ble_eq_true rfl) (kd kX8_init_1 12 rfl) (fun H locs hP hD hS => ?_)
  refine lv_aload_n C.1 C.2.1 (kd kX8_init_1 13 rfl) rfl (lv_at hl 0 rfl) ?_
  refine lv_bipush (v := (48 : Int32)) C.1 C.2.1 (kd kX8_init_1 14 rfl) (by decide) ?_
  refine xr_newi C hP hD hS hA tw_112 (n := (48 : Int32)) (N := 48) (by decide) rfl (Nat.le_of_ble_eq_true rfl) (c' := 18) (s' := 3061) rfl rfl (Nat.le_of_ble_eq_true rfl) (Nat.le_of_ble_eq_true rfl) (kd kX8_init_1 15 rfl) (fun q18 H hP hD hS => ?_)
  obtain ⟨E17, hE17⟩ : ∃ z, z = E16 ++ [(q18, .inl (Γ.2.1.1, 48, .inl (fun _ => 0)))] := ⟨_, rfl⟩
  have hP : va_P Γ.2.2 vwCl (ws ++ ((a, .inr (8, [.ref q1, .ref q2, .ref q3, .int 0, .ref q4, .int 0, .ref q5, .int 0, .int (-10004 : Int32), .int 0, .int 0, .ref q6, .ref q7, .ref q8, .ref q9, .ref q10, .ref q11, .ref q12, .ref q13, .ref q14, .ref q15, .ref q16, .ref q17, .null, .null, .null, .null, .int 0, .null, .null, .null])) :: (q1, .inl (Γ.2.1.1, 277, .inl (fun _ => 0))) :: E17)) H := by rw [hE17]; exact hP
  have hD : va_D (va_A (ws ++ [(a, e0)]) sz) (ws ++ ((a, .inr (8, [.ref q1, .ref q2, .ref q3, .int 0, .ref q4, .int 0, .ref q5, .int 0, .int (-10004 : Int32), .int 0, .int 0, .ref q6, .ref q7, .ref q8, .ref q9, .ref q10, .ref q11, .ref q12, .ref q13, .ref q14, .ref q15, .ref q16, .ref q17, .null, .null, .null, .null, .int 0, .null, .null, .null])) :: (q1, .inl (Γ.2.1.1, 277, .inl (fun _ => 0))) :: E17)) := by rw [hE17]; exact hD
  refine xr_putF (i := 23) C hP hD hS 0 rfl (B' := ((a, .inr (8, [.ref q1, .ref q2, .ref q3, .int 0, .ref q4, .int 0, .ref q5, .int 0, .int (-10004 : Int32), .int 0, .int 0, .ref q6, .ref q7, .ref q8, .ref q9, .ref q10, .ref q11, .ref q12, .ref q13, .ref q14, .ref q15, .ref q16, .ref q17, .ref q18, .null, .null, .null, .int 0, .null, .null, .null])) :: (q1, .inl (Γ.2.1.1, 277, .inl (fun _ => 0))) :: E17)) rfl rfl inX8 tyX8 tyX8_ok nmX8 (Nat.le_of_ble_eq_true rfl) tw_885 rfl rfl rfl rfl (Nat.le_of_ble_eq_true rfl) (kd kX8_init_1 16 rfl) (fun H locs hP hD hS => ?_)
  refine lv_aload_n C.1 C.2.1 (kd kX8_init_1 17 rfl) rfl (lv_at hl 0 rfl) ?_
  refine lv_sipush (v := (1152 : Int32)) C.1 C.2.1 (kd kX8_init_1 18 rfl) (by decide) ?_
  refine xr_newi C hP hD hS hA tw_112 (n := (1152 : Int32)) (N := 1152) (by decide) rfl (Nat.le_of_ble_eq_true rfl) (c' := 19) (s' := 4213) rfl rfl (Nat.le_of_ble_eq_true rfl) (Nat.le_of_ble_eq_true rfl) (kd kX8_init_1 19 rfl) (fun q19 H hP hD hS => ?_)
  obtain ⟨E18, hE18⟩ : ∃ z, z = E17 ++ [(q19, .inl (Γ.2.1.1, 1152, .inl (fun _ => 0)))] := ⟨_, rfl⟩
  have hP : va_P Γ.2.2 vwCl (ws ++ ((a, .inr (8, [.ref q1, .ref q2, .ref q3, .int 0, .ref q4, .int 0, .ref q5, .int 0, .int (-10004 : Int32), .int 0, .int 0, .ref q6, .ref q7, .ref q8, .ref q9, .ref q10, .ref q11, .ref q12, .ref q13, .ref q14, .ref q15, .ref q16, .ref q17, .ref q18, .null, .null, .null, .int 0, .null, .null, .null])) :: (q1, .inl (Γ.2.1.1, 277, .inl (fun _ => 0))) :: E18)) H := by rw [hE18]; exact hP
  have hD : va_D (va_A (ws ++ [(a, e0)]) sz) (ws ++ ((a, .inr (8, [.ref q1, .ref q2, .ref q3, .int 0, .ref q4, .int 0, .ref q5, .int 0, .int (-10004 : Int32), .int 0, .int 0, .ref q6, .ref q7, .ref q8, .ref q9, .ref q10, .ref q11, .ref q12, .ref q13, .ref q14, .ref q15, .ref q16, .ref q17, .ref q18, .null, .null, .null, .int 0, .null, .null, .null])) :: (q1, .inl (Γ.2.1.1, 277, .inl (fun _ => 0))) :: E18)) := by rw [hE18]; exact hD
  refine xr_putF (i := 24) C hP hD hS 0 rfl (B' := ((a, .inr (8, [.ref q1, .ref q2, .ref q3, .int 0, .ref q4, .int 0, .ref q5, .int 0, .int (-10004 : Int32), .int 0, .int 0, .ref q6, .ref q7, .ref q8, .ref q9, .ref q10, .ref q11, .ref q12, .ref q13, .ref q14, .ref q15, .ref q16, .ref q17, .ref q18, .ref q19, .null, .null, .int 0, .null, .null, .null])) :: (q1, .inl (Γ.2.1.1, 277, .inl (fun _ => 0))) :: E18)) rfl rfl inX8 tyX8 tyX8_ok nmX8 (Nat.le_of_ble_eq_true rfl) tw_886 rfl rfl rfl rfl (Nat.le_of_ble_eq_true rfl) (kd kX8_init_1 20 rfl) (fun H locs hP hD hS => ?_)
  refine lv_aload_n C.1 C.2.1 (kd kX8_init_1 21 rfl) rfl (lv_at hl 0 rfl) ?_
  refine lv_bipush (v := (48 : Int32)) C.1 C.2.1 (kd kX8_init_1 22 rfl) (by decide) ?_
  refine xr_newi C hP hD hS hA tw_112 (n := (48 : Int32)) (N := 48) (by decide) rfl (Nat.le_of_ble_eq_true rfl) (c' := 20) (s' := 4261) rfl rfl (Nat.le_of_ble_eq_true rfl) (Nat.le_of_ble_eq_true rfl) (kd kX8_init_1 23 rfl) (fun q20 H hP hD hS => ?_)
  obtain ⟨E19, hE19⟩ : ∃ z, z = E18 ++ [(q20, .inl (Γ.2.1.1, 48, .inl (fun _ => 0)))] := ⟨_, rfl⟩
  have hP : va_P Γ.2.2 vwCl (ws ++ ((a, .inr (8, [.ref q1, .ref q2, .ref q3, .int 0, .ref q4, .int 0, .ref q5, .int 0, .int (-10004 : Int32), .int 0, .int 0, .ref q6, .ref q7, .ref q8, .ref q9, .ref q10, .ref q11, .ref q12, .ref q13, .ref q14, .ref q15, .ref q16, .ref q17, .ref q18, .ref q19, .null, .null, .int 0, .null, .null, .null])) :: (q1, .inl (Γ.2.1.1, 277, .inl (fun _ => 0))) :: E19)) H := by rw [hE19]; exact hP
  have hD : va_D (va_A (ws ++ [(a, e0)]) sz) (ws ++ ((a, .inr (8, [.ref q1, .ref q2, .ref q3, .int 0, .ref q4, .int 0, .ref q5, .int 0, .int (-10004 : Int32), .int 0, .int 0, .ref q6, .ref q7, .ref q8, .ref q9, .ref q10, .ref q11, .ref q12, .ref q13, .ref q14, .ref q15, .ref q16, .ref q17, .ref q18, .ref q19, .null, .null, .int 0, .null, .null, .null])) :: (q1, .inl (Γ.2.1.1, 277, .inl (fun _ => 0))) :: E19)) := by rw [hE19]; exact hD
  refine xr_putF (i := 25) C hP hD hS 0 rfl (B' := ((a, .inr (8, [.ref q1, .ref q2, .ref q3, .int 0, .ref q4, .int 0, .ref q5, .int 0, .int (-10004 : Int32), .int 0, .int 0, .ref q6, .ref q7, .ref q8, .ref q9, .ref q10, .ref q11, .ref q12, .ref q13, .ref q14, .ref q15, .ref q16, .ref q17, .ref q18, .ref q19, .ref q20, .null, .int 0, .null, .null, .null])) :: (q1, .inl (Γ.2.1.1, 277, .inl (fun _ => 0))) :: E19)) rfl rfl inX8 tyX8 tyX8_ok nmX8 (Nat.le_of_ble_eq_true rfl) tw_887 rfl rfl rfl rfl (Nat.le_of_ble_eq_true rfl) (kd kX8_init_1 24 rfl) (fun H locs hP hD hS => ?_)
  refine lv_aload_n C.1 C.2.1 (kd kX8_init_1 25 rfl) rfl (lv_at hl 0 rfl) ?_
  refine lv_bipush (v := (24 : Int32)) C.1 C.2.1 (kd kX8_init_1 26 rfl) (by decide) ?_
  refine xr_newi C hP hD hS hA tw_112 (n := (24 : Int32)) (N := 24) (by decide) rfl (Nat.le_of_ble_eq_true rfl) (c' := 21) (s' := 4285) rfl rfl (Nat.le_of_ble_eq_true rfl) (Nat.le_of_ble_eq_true rfl) (kd kX8_init_1 27 rfl) (fun q21 H hP hD hS => ?_)
  obtain ⟨E20, hE20⟩ : ∃ z, z = E19 ++ [(q21, .inl (Γ.2.1.1, 24, .inl (fun _ => 0)))] := ⟨_, rfl⟩
  have hP : va_P Γ.2.2 vwCl (ws ++ ((a, .inr (8, [.ref q1, .ref q2, .ref q3, .int 0, .ref q4, .int 0, .ref q5, .int 0, .int (-10004 : Int32), .int 0, .int 0, .ref q6, .ref q7, .ref q8, .ref q9, .ref q10, .ref q11, .ref q12, .ref q13, .ref q14, .ref q15, .ref q16, .ref q17, .ref q18, .ref q19, .ref q20, .null, .int 0, .null, .null, .null])) :: (q1, .inl (Γ.2.1.1, 277, .inl (fun _ => 0))) :: E20)) H := by rw [hE20]; exact hP
  have hD : va_D (va_A (ws ++ [(a, e0)]) sz) (ws ++ ((a, .inr (8, [.ref q1, .ref q2, .ref q3, .int 0, .ref q4, .int 0, .ref q5, .int 0, .int (-10004 : Int32), .int 0, .int 0, .ref q6, .ref q7, .ref q8, .ref q9, .ref q10, .ref q11, .ref q12, .ref q13, .ref q14, .ref q15, .ref q16, .ref q17, .ref q18, .ref q19, .ref q20, .null, .int 0, .null, .null, .null])) :: (q1, .inl (Γ.2.1.1, 277, .inl (fun _ => 0))) :: E20)) := by rw [hE20]; exact hD
  refine xr_putF (i := 26) C hP hD hS 0 rfl (B' := ((a, .inr (8, [.ref q1, .ref q2, .ref q3, .int 0, .ref q4, .int 0, .ref q5, .int 0, .int (-10004 : Int32), .int 0, .int 0, .ref q6, .ref q7, .ref q8, .ref q9, .ref q10, .ref q11, .ref q12, .ref q13, .ref q14, .ref q15, .ref q16, .ref q17, .ref q18, .ref q19, .ref q20, .ref q21, .int 0, .null, .null, .null])) :: (q1, .inl (Γ.2.1.1, 277, .inl (fun _ => 0))) :: E20)) rfl rfl inX8 tyX8 tyX8_ok nmX8 (Nat.le_of_ble_eq_true rfl) tw_888 rfl rfl rfl rfl (Nat.le_of_ble_eq_true rfl) (kd kX8_init_1 28 rfl) (fun H locs hP hD hS => ?_)
  refine lv_aload_n C.1 C.2.1 (kd kX8_init_1 29 rfl) rfl (lv_at hl 0 rfl) ?_
  refine lv_iconst (v := (4 : Int32)) C.1 C.2.1 (kd kX8_init_1 30 rfl) (by decide) ?_
  refine xr_newi C hP hD hS hA tw_112 (n := (4 : Int32)) (N := 4) (by decide) rfl (Nat.le_of_ble_eq_true rfl) (c' := 22) (s' := 4289) rfl rfl (Nat.le_of_ble_eq_true rfl) (Nat.le_of_ble_eq_true rfl) (kd kX8_init_1 31 rfl) (fun q22 H hP hD hS => ?_)
  obtain ⟨E21, hE21⟩ : ∃ z, z = E20 ++ [(q22, .inl (Γ.2.1.1, 4, .inl (fun _ => 0)))] := ⟨_, rfl⟩
  have hP : va_P Γ.2.2 vwCl (ws ++ ((a, .inr (8, [.ref q1, .ref q2, .ref q3, .int 0, .ref q4, .int 0, .ref q5, .int 0, .int (-10004 : Int32), .int 0, .int 0, .ref q6, .ref q7, .ref q8, .ref q9, .ref q10, .ref q11, .ref q12, .ref q13, .ref q14, .ref q15, .ref q16, .ref q17, .ref q18, .ref q19, .ref q20, .ref q21, .int 0, .null, .null, .null])) :: (q1, .inl (Γ.2.1.1, 277, .inl (fun _ => 0))) :: E21)) H := by rw [hE21]; exact hP
  have hD : va_D (va_A (ws ++ [(a, e0)]) sz) (ws ++ ((a, .inr (8, [.ref q1, .ref q2, .ref q3, .int 0, .ref q4, .int 0, .ref q5, .int 0, .int (-10004 : Int32), .int 0, .int 0, .ref q6, .ref q7, .ref q8, .ref q9, .ref q10, .ref q11, .ref q12, .ref q13, .ref q14, .ref q15, .ref q16, .ref q17, .ref q18, .ref q19, .ref q20, .ref q21, .int 0, .null, .null, .null])) :: (q1, .inl (Γ.2.1.1, 277, .inl (fun _ => 0))) :: E21)) := by rw [hE21]; exact hD
  refine xr_putF (i := 28) C hP hD hS 0 rfl (B' := ((a, .inr (8, [.ref q1, .ref q2, .ref q3, .int 0, .ref q4, .int 0, .ref q5, .int 0, .int (-10004 : Int32), .int 0, .int 0, .ref q6, .ref q7, .ref q8, .ref q9, .ref q10, .ref q11, .ref q12, .ref q13, .ref q14, .ref q15, .ref q16, .ref q17, .ref q18, .ref q19, .ref q20, .ref q21, .int 0, .ref q22, .null, .null])) :: (q1, .inl (Γ.2.1.1, 277, .inl (fun _ => 0))) :: E21)) rfl rfl inX8 tyX8 tyX8_ok nmX8 (Nat.le_of_ble_eq_true rfl) tw_890 rfl rfl rfl rfl (Nat.le_of_ble_eq_true rfl) (kd kX8_init_1 32 rfl) (fun H locs hP hD hS => ?_)
  refine lv_aload_n C.1 C.2.1 (kd kX8_init_1 33 rfl) rfl (lv_at hl 0 rfl) ?_
  refine lv_bipush (v := (9 : Int32)) C.1 C.2.1 (kd kX8_init_1 34 rfl) (by decide) ?_
  refine xr_newi C hP hD hS hA tw_112 (n := (9 : Int32)) (N := 9) (by decide) rfl (Nat.le_of_ble_eq_true rfl) (c' := 23) (s' := 4298) rfl rfl (Nat.le_of_ble_eq_true rfl) (Nat.le_of_ble_eq_true rfl) (kd kX8_init_1 35 rfl) (fun q23 H hP hD hS => ?_)
  obtain ⟨E22, hE22⟩ : ∃ z, z = E21 ++ [(q23, .inl (Γ.2.1.1, 9, .inl (fun _ => 0)))] := ⟨_, rfl⟩
  have hP : va_P Γ.2.2 vwCl (ws ++ ((a, .inr (8, [.ref q1, .ref q2, .ref q3, .int 0, .ref q4, .int 0, .ref q5, .int 0, .int (-10004 : Int32), .int 0, .int 0, .ref q6, .ref q7, .ref q8, .ref q9, .ref q10, .ref q11, .ref q12, .ref q13, .ref q14, .ref q15, .ref q16, .ref q17, .ref q18, .ref q19, .ref q20, .ref q21, .int 0, .ref q22, .null, .null])) :: (q1, .inl (Γ.2.1.1, 277, .inl (fun _ => 0))) :: E22)) H := by rw [hE22]; exact hP
  have hD : va_D (va_A (ws ++ [(a, e0)]) sz) (ws ++ ((a, .inr (8, [.ref q1, .ref q2, .ref q3, .int 0, .ref q4, .int 0, .ref q5, .int 0, .int (-10004 : Int32), .int 0, .int 0, .ref q6, .ref q7, .ref q8, .ref q9, .ref q10, .ref q11, .ref q12, .ref q13, .ref q14, .ref q15, .ref q16, .ref q17, .ref q18, .ref q19, .ref q20, .ref q21, .int 0, .ref q22, .null, .null])) :: (q1, .inl (Γ.2.1.1, 277, .inl (fun _ => 0))) :: E22)) := by rw [hE22]; exact hD
  refine lv_dup C.1 C.2.1 (kd kX8_init_1 36 rfl) rfl ?_
  refine lv_iconst (v := (0 : Int32)) C.1 C.2.1 (kd kX8_init_1 37 rfl) (by decide) ?_
  refine lv_iconst (v := (-1 : Int32)) C.1 C.2.1 (kd kX8_init_1 38 rfl) (by decide) ?_
  rw [hE22] at hP hD
  refine xr_iast C hP hD hS (E21.length + 2) (xl_get _ _ _ _ _) (B' := ((a, .inr (8, [.ref q1, .ref q2, .ref q3, .int 0, .ref q4, .int 0, .ref q5, .int 0, .int (-10004 : Int32), .int 0, .int 0, .ref q6, .ref q7, .ref q8, .ref q9, .ref q10, .ref q11, .ref q12, .ref q13, .ref q14, .ref q15, .ref q16, .ref q17, .ref q18, .ref q19, .ref q20, .ref q21, .int 0, .ref q22, .null, .null])) :: (q1, .inl (Γ.2.1.1, 277, .inl (fun _ => 0))) :: (E21 ++ [(q23, .inl (Γ.2.1.1, 9, .inl (upd (fun _ => 0) 0 (-1 : Int32))))]))) (xl_set _ _ _ _ _ _) (by unfold vp_in; decide) (kd kX8_init_1 39 rfl) (fun H locs hP hD hS => ?_)
  obtain ⟨E23, hE23⟩ : ∃ z, z = E21 ++ [(q23, .inl (Γ.2.1.1, 9, .inl (upd (fun _ => 0) 0 (-1 : Int32))))] := ⟨_, rfl⟩
  have hP : va_P Γ.2.2 vwCl (ws ++ ((a, .inr (8, [.ref q1, .ref q2, .ref q3, .int 0, .ref q4, .int 0, .ref q5, .int 0, .int (-10004 : Int32), .int 0, .int 0, .ref q6, .ref q7, .ref q8, .ref q9, .ref q10, .ref q11, .ref q12, .ref q13, .ref q14, .ref q15, .ref q16, .ref q17, .ref q18, .ref q19, .ref q20, .ref q21, .int 0, .ref q22, .null, .null])) :: (q1, .inl (Γ.2.1.1, 277, .inl (fun _ => 0))) :: E23)) H := by rw [hE23]; exact hP
  have hD : va_D (va_A (ws ++ [(a, e0)]) sz) (ws ++ ((a, .inr (8, [.ref q1, .ref q2, .ref q3, .int 0, .ref q4, .int 0, .ref q5, .int 0, .int (-10004 : Int32), .int 0, .int 0, .ref q6, .ref q7, .ref q8, .ref q9, .ref q10, .ref q11, .ref q12, .ref q13, .ref q14, .ref q15, .ref q16, .ref q17, .ref q18, .ref q19, .ref q20, .ref q21, .int 0, .ref q22, .null, .null])) :: (q1, .inl (Γ.2.1.1, 277, .inl (fun _ => 0))) :: E23)) := by rw [hE23]; exact hD
  refine lv_dup C.1 C.2.1 (kd kX8_init_1 40 rfl) rfl ?_
  refine lv_iconst (v := (1 : Int32)) C.1 C.2.1 (kd kX8_init_1 41 rfl) (by decide) ?_
  refine lv_iconst (v := (-1 : Int32)) C.1 C.2.1 (kd kX8_init_1 42 rfl) (by decide) ?_
  rw [hE23] at hP hD
  refine xr_iast C hP hD hS (E21.length + 2) (xl_get _ _ _ _ _) (B' := ((a, .inr (8, [.ref q1, .ref q2, .ref q3, .int 0, .ref q4, .int 0, .ref q5, .int 0, .int (-10004 : Int32), .int 0, .int 0, .ref q6, .ref q7, .ref q8, .ref q9, .ref q10, .ref q11, .ref q12, .ref q13, .ref q14, .ref q15, .ref q16, .ref q17, .ref q18, .ref q19, .ref q20, .ref q21, .int 0, .ref q22, .null, .null])) :: (q1, .inl (Γ.2.1.1, 277, .inl (fun _ => 0))) :: (E21 ++ [(q23, .inl (Γ.2.1.1, 9, .inl (upd (upd (fun _ => 0) 0 (-1 : Int32)) 1 (-1 : Int32))))]))) (xl_set _ _ _ _ _ _) (by unfold vp_in; decide) (kd kX8_init_1 43 rfl) (fun H locs hP hD hS => ?_)
  obtain ⟨E24, hE24⟩ : ∃ z, z = E21 ++ [(q23, .inl (Γ.2.1.1, 9, .inl (upd (upd (fun _ => 0) 0 (-1 : Int32)) 1 (-1 : Int32))))] := ⟨_, rfl⟩
  have hP : va_P Γ.2.2 vwCl (ws ++ ((a, .inr (8, [.ref q1, .ref q2, .ref q3, .int 0, .ref q4, .int 0, .ref q5, .int 0, .int (-10004 : Int32), .int 0, .int 0, .ref q6, .ref q7, .ref q8, .ref q9, .ref q10, .ref q11, .ref q12, .ref q13, .ref q14, .ref q15, .ref q16, .ref q17, .ref q18, .ref q19, .ref q20, .ref q21, .int 0, .ref q22, .null, .null])) :: (q1, .inl (Γ.2.1.1, 277, .inl (fun _ => 0))) :: E24)) H := by rw [hE24]; exact hP
  have hD : va_D (va_A (ws ++ [(a, e0)]) sz) (ws ++ ((a, .inr (8, [.ref q1, .ref q2, .ref q3, .int 0, .ref q4, .int 0, .ref q5, .int 0, .int (-10004 : Int32), .int 0, .int 0, .ref q6, .ref q7, .ref q8, .ref q9, .ref q10, .ref q11, .ref q12, .ref q13, .ref q14, .ref q15, .ref q16, .ref q17, .ref q18, .ref q19, .ref q20, .ref q21, .int 0, .ref q22, .null, .null])) :: (q1, .inl (Γ.2.1.1, 277, .inl (fun _ => 0))) :: E24)) := by rw [hE24]; exact hD
  refine lv_dup C.1 C.2.1 (kd kX8_init_1 44 rfl) rfl ?_
  refine lv_iconst (v := (2 : Int32)) C.1 C.2.1 (kd kX8_init_1 45 rfl) (by decide) ?_
  refine lv_iconst (v := (-1 : Int32)) C.1 C.2.1 (kd kX8_init_1 46 rfl) (by decide) ?_
  rw [hE24] at hP hD
  refine xr_iast C hP hD hS (E21.length + 2) (xl_get _ _ _ _ _) (B' := ((a, .inr (8, [.ref q1, .ref q2, .ref q3, .int 0, .ref q4, .int 0, .ref q5, .int 0, .int (-10004 : Int32), .int 0, .int 0, .ref q6, .ref q7, .ref q8, .ref q9, .ref q10, .ref q11, .ref q12, .ref q13, .ref q14, .ref q15, .ref q16, .ref q17, .ref q18, .ref q19, .ref q20, .ref q21, .int 0, .ref q22, .null, .null])) :: (q1, .inl (Γ.2.1.1, 277, .inl (fun _ => 0))) :: (E21 ++ [(q23, .inl (Γ.2.1.1, 9, .inl (upd (upd (upd (fun _ => 0) 0 (-1 : Int32)) 1 (-1 : Int32)) 2 (-1 : Int32))))]))) (xl_set _ _ _ _ _ _) (by unfold vp_in; decide) (kd kX8_init_1 47 rfl) (fun H locs hP hD hS => ?_)
  obtain ⟨E25, hE25⟩ : ∃ z, z = E21 ++ [(q23, .inl (Γ.2.1.1, 9, .inl (upd (upd (upd (fun _ => 0) 0 (-1 : Int32)) 1 (-1 : Int32)) 2 (-1 : Int32))))] := ⟨_, rfl⟩
  have hP : va_P Γ.2.2 vwCl (ws ++ ((a, .inr (8, [.ref q1, .ref q2, .ref q3, .int 0, .ref q4, .int 0, .ref q5, .int 0, .int (-10004 : Int32), .int 0, .int 0, .ref q6, .ref q7, .ref q8, .ref q9, .ref q10, .ref q11, .ref q12, .ref q13, .ref q14, .ref q15, .ref q16, .ref q17, .ref q18, .ref q19, .ref q20, .ref q21, .int 0, .ref q22, .null, .null])) :: (q1, .inl (Γ.2.1.1, 277, .inl (fun _ => 0))) :: E25)) H := by rw [hE25]; exact hP
  have hD : va_D (va_A (ws ++ [(a, e0)]) sz) (ws ++ ((a, .inr (8, [.ref q1, .ref q2, .ref q3, .int 0, .ref q4, .int 0, .ref q5, .int 0, .int (-10004 : Int32), .int 0, .int 0, .ref q6, .ref q7, .ref q8, .ref q9, .ref q10, .ref q11, .ref q12, .ref q13, .ref q14, .ref q15, .ref q16, .ref q17, .ref q18, .ref q19, .ref q20, .ref q21, .int 0, .ref q22, .null, .null])) :: (q1, .inl (Γ.2.1.1, 277, .inl (fun _ => 0))) :: E25)) := by rw [hE25]; exact hD
  refine lv_dup C.1 C.2.1 (kd kX8_init_1 48 rfl) rfl ?_
  refine lv_iconst (v := (3 : Int32)) C.1 C.2.1 (kd kX8_init_1 49 rfl) (by decide) ?_
  refine lv_iconst (v := (-1 : Int32)) C.1 C.2.1 (kd kX8_init_1 50 rfl) (by decide) ?_
  rw [hE25] at hP hD
  refine xr_iast C hP hD hS (E21.length + 2) (xl_get _ _ _ _ _) (B' := ((a, .inr (8, [.ref q1, .ref q2, .ref q3, .int 0, .ref q4, .int 0, .ref q5, .int 0, .int (-10004 : Int32), .int 0, .int 0, .ref q6, .ref q7, .ref q8, .ref q9, .ref q10, .ref q11, .ref q12, .ref q13, .ref q14, .ref q15, .ref q16, .ref q17, .ref q18, .ref q19, .ref q20, .ref q21, .int 0, .ref q22, .null, .null])) :: (q1, .inl (Γ.2.1.1, 277, .inl (fun _ => 0))) :: (E21 ++ [(q23, .inl (Γ.2.1.1, 9, .inl (upd (upd (upd (upd (fun _ => 0) 0 (-1 : Int32)) 1 (-1 : Int32)) 2 (-1 : Int32)) 3 (-1 : Int32))))]))) (xl_set _ _ _ _ _ _) (by unfold vp_in; decide) (kd kX8_init_1 51 rfl) (fun H locs hP hD hS => ?_)
  obtain ⟨E26, hE26⟩ : ∃ z, z = E21 ++ [(q23, .inl (Γ.2.1.1, 9, .inl (upd (upd (upd (upd (fun _ => 0) 0 (-1 : Int32)) 1 (-1 : Int32)) 2 (-1 : Int32)) 3 (-1 : Int32))))] := ⟨_, rfl⟩
  have hP : va_P Γ.2.2 vwCl (ws ++ ((a, .inr (8, [.ref q1, .ref q2, .ref q3, .int 0, .ref q4, .int 0, .ref q5, .int 0, .int (-10004 : Int32), .int 0, .int 0, .ref q6, .ref q7, .ref q8, .ref q9, .ref q10, .ref q11, .ref q12, .ref q13, .ref q14, .ref q15, .ref q16, .ref q17, .ref q18, .ref q19, .ref q20, .ref q21, .int 0, .ref q22, .null, .null])) :: (q1, .inl (Γ.2.1.1, 277, .inl (fun _ => 0))) :: E26)) H := by rw [hE26]; exact hP
  have hD : va_D (va_A (ws ++ [(a, e0)]) sz) (ws ++ ((a, .inr (8, [.ref q1, .ref q2, .ref q3, .int 0, .ref q4, .int 0, .ref q5, .int 0, .int (-10004 : Int32), .int 0, .int 0, .ref q6, .ref q7, .ref q8, .ref q9, .ref q10, .ref q11, .ref q12, .ref q13, .ref q14, .ref q15, .ref q16, .ref q17, .ref q18, .ref q19, .ref q20, .ref q21, .int 0, .ref q22, .null, .null])) :: (q1, .inl (Γ.2.1.1, 277, .inl (fun _ => 0))) :: E26)) := by rw [hE26]; exact hD
  refine lv_dup C.1 C.2.1 (kd kX8_init_1 52 rfl) rfl ?_
  refine lv_iconst (v := (4 : Int32)) C.1 C.2.1 (kd kX8_init_1 53 rfl) (by decide) ?_
  refine lv_iconst (v := (-1 : Int32)) C.1 C.2.1 (kd kX8_init_1 54 rfl) (by decide) ?_
  rw [hE26] at hP hD
  refine xr_iast C hP hD hS (E21.length + 2) (xl_get _ _ _ _ _) (B' := ((a, .inr (8, [.ref q1, .ref q2, .ref q3, .int 0, .ref q4, .int 0, .ref q5, .int 0, .int (-10004 : Int32), .int 0, .int 0, .ref q6, .ref q7, .ref q8, .ref q9, .ref q10, .ref q11, .ref q12, .ref q13, .ref q14, .ref q15, .ref q16, .ref q17, .ref q18, .ref q19, .ref q20, .ref q21, .int 0, .ref q22, .null, .null])) :: (q1, .inl (Γ.2.1.1, 277, .inl (fun _ => 0))) :: (E21 ++ [(q23, .inl (Γ.2.1.1, 9, .inl (upd (upd (upd (upd (upd (fun _ => 0) 0 (-1 : Int32)) 1 (-1 : Int32)) 2 (-1 : Int32)) 3 (-1 : Int32)) 4 (-1 : Int32))))]))) (xl_set _ _ _ _ _ _) (by unfold vp_in; decide) (kd kX8_init_1 55 rfl) (fun H locs hP hD hS => ?_)
  obtain ⟨E27, hE27⟩ : ∃ z, z = E21 ++ [(q23, .inl (Γ.2.1.1, 9, .inl (upd (upd (upd (upd (upd (fun _ => 0) 0 (-1 : Int32)) 1 (-1 : Int32)) 2 (-1 : Int32)) 3 (-1 : Int32)) 4 (-1 : Int32))))] := ⟨_, rfl⟩
  have hP : va_P Γ.2.2 vwCl (ws ++ ((a, .inr (8, [.ref q1, .ref q2, .ref q3, .int 0, .ref q4, .int 0, .ref q5, .int 0, .int (-10004 : Int32), .int 0, .int 0, .ref q6, .ref q7, .ref q8, .ref q9, .ref q10, .ref q11, .ref q12, .ref q13, .ref q14, .ref q15, .ref q16, .ref q17, .ref q18, .ref q19, .ref q20, .ref q21, .int 0, .ref q22, .null, .null])) :: (q1, .inl (Γ.2.1.1, 277, .inl (fun _ => 0))) :: E27)) H := by rw [hE27]; exact hP
  have hD : va_D (va_A (ws ++ [(a, e0)]) sz) (ws ++ ((a, .inr (8, [.ref q1, .ref q2, .ref q3, .int 0, .ref q4, .int 0, .ref q5, .int 0, .int (-10004 : Int32), .int 0, .int 0, .ref q6, .ref q7, .ref q8, .ref q9, .ref q10, .ref q11, .ref q12, .ref q13, .ref q14, .ref q15, .ref q16, .ref q17, .ref q18, .ref q19, .ref q20, .ref q21, .int 0, .ref q22, .null, .null])) :: (q1, .inl (Γ.2.1.1, 277, .inl (fun _ => 0))) :: E27)) := by rw [hE27]; exact hD
  refine lv_dup C.1 C.2.1 (kd kX8_init_1 56 rfl) rfl ?_
  refine lv_iconst (v := (5 : Int32)) C.1 C.2.1 (kd kX8_init_1 57 rfl) (by decide) ?_
  refine lv_iconst (v := (-1 : Int32)) C.1 C.2.1 (kd kX8_init_1 58 rfl) (by decide) ?_
  rw [hE27] at hP hD
  refine xr_iast C hP hD hS (E21.length + 2) (xl_get _ _ _ _ _) (B' := ((a, .inr (8, [.ref q1, .ref q2, .ref q3, .int 0, .ref q4, .int 0, .ref q5, .int 0, .int (-10004 : Int32), .int 0, .int 0, .ref q6, .ref q7, .ref q8, .ref q9, .ref q10, .ref q11, .ref q12, .ref q13, .ref q14, .ref q15, .ref q16, .ref q17, .ref q18, .ref q19, .ref q20, .ref q21, .int 0, .ref q22, .null, .null])) :: (q1, .inl (Γ.2.1.1, 277, .inl (fun _ => 0))) :: (E21 ++ [(q23, .inl (Γ.2.1.1, 9, .inl (upd (upd (upd (upd (upd (upd (fun _ => 0) 0 (-1 : Int32)) 1 (-1 : Int32)) 2 (-1 : Int32)) 3 (-1 : Int32)) 4 (-1 : Int32)) 5 (-1 : Int32))))]))) (xl_set _ _ _ _ _ _) (by unfold vp_in; decide) (kd kX8_init_1 59 rfl) (fun H locs hP hD hS => ?_)
  obtain ⟨E28, hE28⟩ : ∃ z, z = E21 ++ [(q23, .inl (Γ.2.1.1, 9, .inl (upd (upd (upd (upd (upd (upd (fun _ => 0) 0 (-1 : Int32)) 1 (-1 : Int32)) 2 (-1 : Int32)) 3 (-1 : Int32)) 4 (-1 : Int32)) 5 (-1 : Int32))))] := ⟨_, rfl⟩
  have hP : va_P Γ.2.2 vwCl (ws ++ ((a, .inr (8, [.ref q1, .ref q2, .ref q3, .int 0, .ref q4, .int 0, .ref q5, .int 0, .int (-10004 : Int32), .int 0, .int 0, .ref q6, .ref q7, .ref q8, .ref q9, .ref q10, .ref q11, .ref q12, .ref q13, .ref q14, .ref q15, .ref q16, .ref q17, .ref q18, .ref q19, .ref q20, .ref q21, .int 0, .ref q22, .null, .null])) :: (q1, .inl (Γ.2.1.1, 277, .inl (fun _ => 0))) :: E28)) H := by rw [hE28]; exact hP
  have hD : va_D (va_A (ws ++ [(a, e0)]) sz) (ws ++ ((a, .inr (8, [.ref q1, .ref q2, .ref q3, .int 0, .ref q4, .int 0, .ref q5, .int 0, .int (-10004 : Int32), .int 0, .int 0, .ref q6, .ref q7, .ref q8, .ref q9, .ref q10, .ref q11, .ref q12, .ref q13, .ref q14, .ref q15, .ref q16, .ref q17, .ref q18, .ref q19, .ref q20, .ref q21, .int 0, .ref q22, .null, .null])) :: (q1, .inl (Γ.2.1.1, 277, .inl (fun _ => 0))) :: E28)) := by rw [hE28]; exact hD
  refine lv_dup C.1 C.2.1 (kd kX8_init_2 0 rfl) rfl ?_
  refine lv_bipush (v := (6 : Int32)) C.1 C.2.1 (kd kX8_init_2 1 rfl) (by decide) ?_
  refine lv_iconst (v := (-1 : Int32)) C.1 C.2.1 (kd kX8_init_2 2 rfl) (by decide) ?_
  rw [hE28] at hP hD
  refine xr_iast C hP hD hS (E21.length + 2) (xl_get _ _ _ _ _) (B' := ((a, .inr (8, [.ref q1, .ref q2, .ref q3, .int 0, .ref q4, .int 0, .ref q5, .int 0, .int (-10004 : Int32), .int 0, .int 0, .ref q6, .ref q7, .ref q8, .ref q9, .ref q10, .ref q11, .ref q12, .ref q13, .ref q14, .ref q15, .ref q16, .ref q17, .ref q18, .ref q19, .ref q20, .ref q21, .int 0, .ref q22, .null, .null])) :: (q1, .inl (Γ.2.1.1, 277, .inl (fun _ => 0))) :: (E21 ++ [(q23, .inl (Γ.2.1.1, 9, .inl (upd (upd (upd (upd (upd (upd (upd (fun _ => 0) 0 (-1 : Int32)) 1 (-1 : Int32)) 2 (-1 : Int32)) 3 (-1 : Int32)) 4 (-1 : Int32)) 5 (-1 : Int32)) 6 (-1 : Int32))))]))) (xl_set _ _ _ _ _ _) (by unfold vp_in; decide) (kd kX8_init_2 3 rfl) (fun H locs hP hD hS => ?_)
  obtain ⟨E29, hE29⟩ : ∃ z, z = E21 ++ [(q23, .inl (Γ.2.1.1, 9, .inl (upd (upd (upd (upd (upd (upd (upd (fun _ => 0) 0 (-1 : Int32)) 1 (-1 : Int32)) 2 (-1 : Int32)) 3 (-1 : Int32)) 4 (-1 : Int32)) 5 (-1 : Int32)) 6 (-1 : Int32))))] := ⟨_, rfl⟩
  have hP : va_P Γ.2.2 vwCl (ws ++ ((a, .inr (8, [.ref q1, .ref q2, .ref q3, .int 0, .ref q4, .int 0, .ref q5, .int 0, .int (-10004 : Int32), .int 0, .int 0, .ref q6, .ref q7, .ref q8, .ref q9, .ref q10, .ref q11, .ref q12, .ref q13, .ref q14, .ref q15, .ref q16, .ref q17, .ref q18, .ref q19, .ref q20, .ref q21, .int 0, .ref q22, .null, .null])) :: (q1, .inl (Γ.2.1.1, 277, .inl (fun _ => 0))) :: E29)) H := by rw [hE29]; exact hP
  have hD : va_D (va_A (ws ++ [(a, e0)]) sz) (ws ++ ((a, .inr (8, [.ref q1, .ref q2, .ref q3, .int 0, .ref q4, .int 0, .ref q5, .int 0, .int (-10004 : Int32), .int 0, .int 0, .ref q6, .ref q7, .ref q8, .ref q9, .ref q10, .ref q11, .ref q12, .ref q13, .ref q14, .ref q15, .ref q16, .ref q17, .ref q18, .ref q19, .ref q20, .ref q21, .int 0, .ref q22, .null, .null])) :: (q1, .inl (Γ.2.1.1, 277, .inl (fun _ => 0))) :: E29)) := by rw [hE29]; exact hD
  refine lv_dup C.1 C.2.1 (kd kX8_init_2 4 rfl) rfl ?_
  refine lv_bipush (v := (7 : Int32)) C.1 C.2.1 (kd kX8_init_2 5 rfl) (by decide) ?_
  refine lv_iconst (v := (-1 : Int32)) C.1 C.2.1 (kd kX8_init_2 6 rfl) (by decide) ?_
  rw [hE29] at hP hD
  refine xr_iast C hP hD hS (E21.length + 2) (xl_get _ _ _ _ _) (B' := ((a, .inr (8, [.ref q1, .ref q2, .ref q3, .int 0, .ref q4, .int 0, .ref q5, .int 0, .int (-10004 : Int32), .int 0, .int 0, .ref q6, .ref q7, .ref q8, .ref q9, .ref q10, .ref q11, .ref q12, .ref q13, .ref q14, .ref q15, .ref q16, .ref q17, .ref q18, .ref q19, .ref q20, .ref q21, .int 0, .ref q22, .null, .null])) :: (q1, .inl (Γ.2.1.1, 277, .inl (fun _ => 0))) :: (E21 ++ [(q23, .inl (Γ.2.1.1, 9, .inl (upd (upd (upd (upd (upd (upd (upd (upd (fun _ => 0) 0 (-1 : Int32)) 1 (-1 : Int32)) 2 (-1 : Int32)) 3 (-1 : Int32)) 4 (-1 : Int32)) 5 (-1 : Int32)) 6 (-1 : Int32)) 7 (-1 : Int32))))]))) (xl_set _ _ _ _ _ _) (by unfold vp_in; decide) (kd kX8_init_2 7 rfl) (fun H locs hP hD hS => ?_)
  obtain ⟨E30, hE30⟩ : ∃ z, z = E21 ++ [(q23, .inl (Γ.2.1.1, 9, .inl (upd (upd (upd (upd (upd (upd (upd (upd (fun _ => 0) 0 (-1 : Int32)) 1 (-1 : Int32)) 2 (-1 : Int32)) 3 (-1 : Int32)) 4 (-1 : Int32)) 5 (-1 : Int32)) 6 (-1 : Int32)) 7 (-1 : Int32))))] := ⟨_, rfl⟩
  have hP : va_P Γ.2.2 vwCl (ws ++ ((a, .inr (8, [.ref q1, .ref q2, .ref q3, .int 0, .ref q4, .int 0, .ref q5, .int 0, .int (-10004 : Int32), .int 0, .int 0, .ref q6, .ref q7, .ref q8, .ref q9, .ref q10, .ref q11, .ref q12, .ref q13, .ref q14, .ref q15, .ref q16, .ref q17, .ref q18, .ref q19, .ref q20, .ref q21, .int 0, .ref q22, .null, .null])) :: (q1, .inl (Γ.2.1.1, 277, .inl (fun _ => 0))) :: E30)) H := by rw [hE30]; exact hP
  have hD : va_D (va_A (ws ++ [(a, e0)]) sz) (ws ++ ((a, .inr (8, [.ref q1, .ref q2, .ref q3, .int 0, .ref q4, .int 0, .ref q5, .int 0, .int (-10004 : Int32), .int 0, .int 0, .ref q6, .ref q7, .ref q8, .ref q9, .ref q10, .ref q11, .ref q12, .ref q13, .ref q14, .ref q15, .ref q16, .ref q17, .ref q18, .ref q19, .ref q20, .ref q21, .int 0, .ref q22, .null, .null])) :: (q1, .inl (Γ.2.1.1, 277, .inl (fun _ => 0))) :: E30)) := by rw [hE30]; exact hD
  refine lv_dup C.1 C.2.1 (kd kX8_init_2 8 rfl) rfl ?_
  refine lv_bipush (v := (8 : Int32)) C.1 C.2.1 (kd kX8_init_2 9 rfl) (by decide) ?_
  refine lv_iconst (v := (-1 : Int32)) C.1 C.2.1 (kd kX8_init_2 10 rfl) (by decide) ?_
  rw [hE30] at hP hD
  refine xr_iast C hP hD hS (E21.length + 2) (xl_get _ _ _ _ _) (B' := ((a, .inr (8, [.ref q1, .ref q2, .ref q3, .int 0, .ref q4, .int 0, .ref q5, .int 0, .int (-10004 : Int32), .int 0, .int 0, .ref q6, .ref q7, .ref q8, .ref q9, .ref q10, .ref q11, .ref q12, .ref q13, .ref q14, .ref q15, .ref q16, .ref q17, .ref q18, .ref q19, .ref q20, .ref q21, .int 0, .ref q22, .null, .null])) :: (q1, .inl (Γ.2.1.1, 277, .inl (fun _ => 0))) :: (E21 ++ [(q23, .inl (Γ.2.1.1, 9, .inl (upd (upd (upd (upd (upd (upd (upd (upd (upd (fun _ => 0) 0 (-1 : Int32)) 1 (-1 : Int32)) 2 (-1 : Int32)) 3 (-1 : Int32)) 4 (-1 : Int32)) 5 (-1 : Int32)) 6 (-1 : Int32)) 7 (-1 : Int32)) 8 (-1 : Int32))))]))) (xl_set _ _ _ _ _ _) (by unfold vp_in; decide) (kd kX8_init_2 11 rfl) (fun H locs hP hD hS => ?_)
  obtain ⟨E31, hE31⟩ : ∃ z, z = E21 ++ [(q23, .inl (Γ.2.1.1, 9, .inl (upd (upd (upd (upd (upd (upd (upd (upd (upd (fun _ => 0) 0 (-1 : Int32)) 1 (-1 : Int32)) 2 (-1 : Int32)) 3 (-1 : Int32)) 4 (-1 : Int32)) 5 (-1 : Int32)) 6 (-1 : Int32)) 7 (-1 : Int32)) 8 (-1 : Int32))))] := ⟨_, rfl⟩
  have hP : va_P Γ.2.2 vwCl (ws ++ ((a, .inr (8, [.ref q1, .ref q2, .ref q3, .int 0, .ref q4, .int 0, .ref q5, .int 0, .int (-10004 : Int32), .int 0, .int 0, .ref q6, .ref q7, .ref q8, .ref q9, .ref q10, .ref q11, .ref q12, .ref q13, .ref q14, .ref q15, .ref q16, .ref q17, .ref q18, .ref q19, .ref q20, .ref q21, .int 0, .ref q22, .null, .null])) :: (q1, .inl (Γ.2.1.1, 277, .inl (fun _ => 0))) :: E31)) H := by rw [hE31]; exact hP
  have hD : va_D (va_A (ws ++ [(a, e0)]) sz) (ws ++ ((a, .inr (8, [.ref q1, .ref q2, .ref q3, .int 0, .ref q4, .int 0, .ref q5, .int 0, .int (-10004 : Int32), .int 0, .int 0, .ref q6, .ref q7, .ref q8, .ref q9, .ref q10, .ref q11, .ref q12, .ref q13, .ref q14, .ref q15, .ref q16, .ref q17, .ref q18, .ref q19, .ref q20, .ref q21, .int 0, .ref q22, .null, .null])) :: (q1, .inl (Γ.2.1.1, 277, .inl (fun _ => 0))) :: E31)) := by rw [hE31]; exact hD
  refine xr_putF (i := 29) C hP hD hS 0 rfl (B' := ((a, .inr (8, [.ref q1, .ref q2, .ref q3, .int 0, .ref q4, .int 0, .ref q5, .int 0, .int (-10004 : Int32), .int 0, .int 0, .ref q6, .ref q7, .ref q8, .ref q9, .ref q10, .ref q11, .ref q12, .ref q13, .ref q14, .ref q15, .ref q16, .ref q17, .ref q18, .ref q19, .ref q20, .ref q21, .int 0, .ref q22, .ref q23, .null])) :: (q1, .inl (Γ.2.1.1, 277, .inl (fun _ => 0))) :: E31)) rfl rfl inX8 tyX8 tyX8_ok nmX8 (Nat.le_of_ble_eq_true rfl) tw_891 rfl rfl rfl rfl (Nat.le_of_ble_eq_true rfl) (kd kX8_init_2 12 rfl) (fun H locs hP hD hS => ?_)
  refine lv_aload_n C.1 C.2.1 (kd kX8_init_2 13 rfl) rfl (lv_at hl 0 rfl) ?_
  refine lv_bipush (v := (36 : Int32)) C.1 C.2.1 (kd kX8_init_2 14 rfl) (by decide) ?_
  refine xr_newi C hP hD hS hA tw_112 (n := (36 : Int32)) (N := 36) (by decide) rfl (Nat.le_of_ble_eq_true rfl) (c' := 24) (s' := 4334) rfl rfl (Nat.le_of_ble_eq_true rfl) (Nat.le_of_ble_eq_true rfl) (kd kX8_init_2 15 rfl) (fun q24 H hP hD hS => ?_)
  obtain ⟨E32, hE32⟩ : ∃ z, z = E31 ++ [(q24, .inl (Γ.2.1.1, 36, .inl (fun _ => 0)))] := ⟨_, rfl⟩
  have hP : va_P Γ.2.2 vwCl (ws ++ ((a, .inr (8, [.ref q1, .ref q2, .ref q3, .int 0, .ref q4, .int 0, .ref q5, .int 0, .int (-10004 : Int32), .int 0, .int 0, .ref q6, .ref q7, .ref q8, .ref q9, .ref q10, .ref q11, .ref q12, .ref q13, .ref q14, .ref q15, .ref q16, .ref q17, .ref q18, .ref q19, .ref q20, .ref q21, .int 0, .ref q22, .ref q23, .null])) :: (q1, .inl (Γ.2.1.1, 277, .inl (fun _ => 0))) :: E32)) H := by rw [hE32]; exact hP
  have hD : va_D (va_A (ws ++ [(a, e0)]) sz) (ws ++ ((a, .inr (8, [.ref q1, .ref q2, .ref q3, .int 0, .ref q4, .int 0, .ref q5, .int 0, .int (-10004 : Int32), .int 0, .int 0, .ref q6, .ref q7, .ref q8, .ref q9, .ref q10, .ref q11, .ref q12, .ref q13, .ref q14, .ref q15, .ref q16, .ref q17, .ref q18, .ref q19, .ref q20, .ref q21, .int 0, .ref q22, .ref q23, .null])) :: (q1, .inl (Γ.2.1.1, 277, .inl (fun _ => 0))) :: E32)) := by rw [hE32]; exact hD
  refine xr_putF (i := 30) C hP hD hS 0 rfl (B' := ((a, .inr (8, [.ref q1, .ref q2, .ref q3, .int 0, .ref q4, .int 0, .ref q5, .int 0, .int (-10004 : Int32), .int 0, .int 0, .ref q6, .ref q7, .ref q8, .ref q9, .ref q10, .ref q11, .ref q12, .ref q13, .ref q14, .ref q15, .ref q16, .ref q17, .ref q18, .ref q19, .ref q20, .ref q21, .int 0, .ref q22, .ref q23, .ref q24])) :: (q1, .inl (Γ.2.1.1, 277, .inl (fun _ => 0))) :: E32)) rfl rfl inX8 tyX8 tyX8_ok nmX8 (Nat.le_of_ble_eq_true rfl) tw_892 rfl rfl rfl rfl (Nat.le_of_ble_eq_true rfl) (kd kX8_init_2 16 rfl) (fun H locs hP hD hS => ?_)
  refine lv_aload_n C.1 C.2.1 (kd kX8_init_2 17 rfl) rfl (lv_at hl 0 rfl) ?_
  refine xr_get (i := 0) (v := .ref q1) C hP 0 rfl rfl inX8 (Nat.le_of_ble_eq_true rfl) tw_862 rfl (kd kX8_init_2 18 rfl) ?_
  refine lv_bipush (v := (97 : Int32)) C.1 C.2.1 (kd kX8_init_2 19 rfl) (by decide) ?_
  refine lv_bipush (v := (50 : Int32)) C.1 C.2.1 (kd kX8_init_2 20 rfl) (by decide) ?_
  refine xr_iast C hP hD hS 1 rfl (B' := ((a, .inr (8, [.ref q1, .ref q2, .ref q3, .int 0, .ref q4, .int 0, .ref q5, .int 0, .int (-10004 : Int32), .int 0, .int 0, .ref q6, .ref q7, .ref q8, .ref q9, .ref q10, .ref q11, .ref q12, .ref q13, .ref q14, .ref q15, .ref q16, .ref q17, .ref q18, .ref q19, .ref q20, .ref q21, .int 0, .ref q22, .ref q23, .ref q24])) :: (q1, .inl (Γ.2.1.1, 277, .inl (upd (fun _ => 0) 97 (50 : Int32)))) :: E32)) rfl (by unfold vp_in; decide) (kd kX8_init_2 21 rfl) (fun H locs hP hD hS => ?_)
  exact xr_ret (blk := xMo Γ 0) C (fun i => if i = 0 then a else if i = 1 then q1 else if i = 2 then q2 else if i = 3 then q3 else if i = 4 then q4 else if i = 5 then q5 else if i = 6 then q6 else if i = 7 then q7 else if i = 8 then q8 else if i = 9 then q9 else if i = 10 then q10 else if i = 11 then q11 else if i = 12 then q12 else if i = 13 then q13 else if i = 14 then q14 else if i = 15 then q15 else if i = 16 then q16 else if i = 17 then q17 else if i = 18 then q18 else if i = 19 then q19 else if i = 20 then q20 else if i = 21 then q21 else if i = 22 then q22 else if i = 23 then q23 else if i = 24 then q24 else 0) rfl (by rw [hE32, hE31, hE21, hE20, hE19, hE18, hE17, hE16, hE15, hE14, hE13, hE12, hE11, hE10, hE9, hE8, hE7, hE6, hE5, hE4, hE3, hE2, hE1, hE0]; rfl) hP hD hS (Nat.le_of_ble_eq_true rfl) (Nat.le_of_ble_eq_true rfl) (kd kX8_init_2 22 rfl)

set_option maxRecDepth 100000 in
set_option maxHeartbeats 4000000 in
theorem c_X7 (l : Launch) (Γ : fGm) : xM l Γ yX7_init cX7_init 1 ({ frames := 4, cells := 163, slots := 3616, locals := 104 } : Room) (.inr (7, [.null, .null, .null, .null, .null, .null, .null, .null, .int 0])) [] (xFT Γ 0) := by
  refine xr_enter (own := RX7) (by decide +kernel) rfl rfl (fun _ => Nat.le_of_ble_eq_true rfl) ?_
  intro ws a sz p e s m args below meth c ls H locs C hl hP hD hS hA
  obtain ⟨e0, he0⟩ : ∃ z : va_E, z = .inr (7, [.null, .null, .null, .null, .null, .null, .null, .null, .int 0]) := ⟨_, rfl⟩
  rw [← he0] at hD hS hA ⊢
  have hD : va_D (va_A (ws ++ [(a, e0)]) sz) (ws ++ [(a, .inr (7, [.null, .null, .null, .null, .null, .null, .null, .null, .int 0]))]) := by rw [← he0]; exact hD
  have hl : lv_has ls 1 [(0, .ref a)] := hl
  obtain ⟨E0, hE0⟩ : ∃ z : va_W, z = [] := ⟨_, rfl⟩
  have hP : va_P Γ.2.2 vwCl (ws ++ ((a, .inr (7, [.null, .null, .null, .null, .null, .null, .null, .null, .int 0])) :: E0)) H := by rw [hE0]; exact hP
  have hD : va_D (va_A (ws ++ [(a, e0)]) sz) (ws ++ ((a, .inr (7, [.null, .null, .null, .null, .null, .null, .null, .null, .int 0])) :: E0)) := by rw [hE0]; exact hD
  refine lv_aload_n C.1 C.2.1 (kd kX7_init_0 0 rfl) rfl (lv_at hl 0 rfl) ?_
  refine xr_obj C hl.1 tw_84 tw_85 tw_86 (kd kX7_init_0 1 rfl) (Nat.le_of_ble_eq_true rfl) (Nat.le_of_ble_eq_true rfl) ?_
  refine lv_aload_n C.1 C.2.1 (kd kX7_init_0 2 rfl) rfl (lv_at hl 0 rfl) ?_
  refine xr_new (ci := 3) (fs := [.null, .null, .null, .null, .null, .null, .null, .int 0]) C hP hD hS hA rfl inX3 tyX3 tyX3_ok tw_87 tw_88 tw_68 (fun j hj => by rcases (show j = 0 ∨ j = 1 ∨ j = 2 ∨ j = 3 ∨ j = 4 ∨ j = 5 ∨ j = 6 ∨ j = 7 by omega) with rfl | rfl | rfl | rfl | rfl | rfl | rfl | rfl <;> rfl) (c' := 1) (s' := 8) rfl rfl (Nat.le_of_ble_eq_true rfl) (Nat.le_of_ble_eq_true rfl) (kd kX7_init_0 3 rfl) (fun q1 H hP hD hS => ?_)
  refine lv_dup C.1 C.2.1 (kd kX7_init_0 4 rfl) rfl ?_
  refine xr_call (av := []) (rest := [.ref q1, .ref a]) (n := 0) C hl.1 hP hD hS hA (c_X3 l Γ) tw_89 tw_90 tw_68 tw_91 rfl (by decide +kernel) ⟨Nat.le_of_ble_eq_true rfl, Nat.le_of_ble_eq_true rfl⟩ rfl (c' := 15) (s' := 307) rfl rfl (Nat.le_of_ble_eq_true rfl) (Nat.le_of_ble_eq_true rfl) rfl (Nat.le_of_ble_eq_true rfl) (kd kX7_init_0 5 rfl) (fun u2 H locs hu hP hD hS => ?_)
  rw [← hu]
  obtain ⟨E1, hE1⟩ : ∃ z, z = E0 ++ xP Γ 0 u2 := ⟨_, rfl⟩
  have hP : va_P Γ.2.2 vwCl (ws ++ ((a, .inr (7, [.null, .null, .null, .null, .null, .null, .null, .null, .int 0])) :: E1)) H := by rw [hE1]; exact hP
  have hD : va_D (va_A (ws ++ [(a, e0)]) sz) (ws ++ ((a, .inr (7, [.null, .null, .null, .null, .null, .null, .null, .null, .int 0])) :: E1)) := by rw [hE1]; exact hD
  refine xr_putF (i := 0) C hP hD hS 0 rfl (B' := ((a, .inr (7, [.ref (u2 0), .null, .null, .null, .null, .null, .null, .null, .int 0])) :: E1)) rfl rfl inX7 tyX7 tyX7_ok nmX7 (Nat.le_of_ble_eq_true rfl) tw_283 rfl rfl rfl rfl (Nat.le_of_ble_eq_true rfl) (kd kX7_init_0 6 rfl) (fun H locs hP hD hS => ?_)
  refine lv_aload_n C.1 C.2.1 (kd kX7_init_0 7 rfl) rfl (lv_at hl 0 rfl) ?_
  refine xr_new (ci := 3) (fs := [.null, .null, .null, .null, .null, .null, .null, .int 0]) C hP hD hS hA rfl inX3 tyX3 tyX3_ok tw_87 tw_88 tw_68 (fun j hj => by rcases (show j = 0 ∨ j = 1 ∨ j = 2 ∨ j = 3 ∨ j = 4 ∨ j = 5 ∨ j = 6 ∨ j = 7 by omega) with rfl | rfl | rfl | rfl | rfl | rfl | rfl | rfl <;> rfl) (c' := 16) (s' := 315) rfl rfl (Nat.le_of_ble_eq_true rfl) (Nat.le_of_ble_eq_true rfl) (kd kX7_init_0 8 rfl) (fun q3 H hP hD hS => ?_)
  refine lv_dup C.1 C.2.1 (kd kX7_init_0 9 rfl) rfl ?_
  refine xr_call (av := []) (rest := [.ref q3, .ref a]) (n := 0) C hl.1 hP hD hS hA (c_X3 l Γ) tw_89 tw_90 tw_68 tw_91 rfl (by decide +kernel) ⟨Nat.le_of_ble_eq_true rfl, Nat.le_of_ble_eq_true rfl⟩ rfl (c' := 30) (s' := 614) rfl rfl (Nat.le_of_ble_eq_true rfl) (Nat.le_of_ble_eq_true rfl) rfl (Nat.le_of_ble_eq_true rfl) (kd kX7_init_0 10 rfl) (fun u4 H locs hu hP hD hS => ?_)
  rw [← hu]
  obtain ⟨E2, hE2⟩ : ∃ z, z = E1 ++ xP Γ 0 u4 := ⟨_, rfl⟩
  have hP : va_P Γ.2.2 vwCl (ws ++ ((a, .inr (7, [.ref (u2 0), .null, .null, .null, .null, .null, .null, .null, .int 0])) :: E2)) H := by rw [hE2]; exact hP
  have hD : va_D (va_A (ws ++ [(a, e0)]) sz) (ws ++ ((a, .inr (7, [.ref (u2 0), .null, .null, .null, .null, .null, .null, .null, .int 0])) :: E2)) := by rw [hE2]; exact hD
  refine xr_putF (i := 1) C hP hD hS 0 rfl (B' := ((a, .inr (7, [.ref (u2 0), .ref (u4 0), .null, .null, .null, .null, .null, .null, .int 0])) :: E2)) rfl rfl inX7 tyX7 tyX7_ok nmX7 (Nat.le_of_ble_eq_true rfl) tw_284 rfl rfl rfl rfl (Nat.le_of_ble_eq_true rfl) (kd kX7_init_0 11 rfl) (fun H locs hP hD hS => ?_)
  refine lv_aload_n C.1 C.2.1 (kd kX7_init_0 12 rfl) rfl (lv_at hl 0 rfl) ?_
  refine xr_new (ci := 3) (fs := [.null, .null, .null, .null, .null, .null, .null, .int 0]) C hP hD hS hA rfl inX3 tyX3 tyX3_ok tw_87 tw_88 tw_68 (fun j hj => by rcases (show j = 0 ∨ j = 1 ∨ j = 2 ∨ j = 3 ∨ j = 4 ∨ j = 5 ∨ j = 6 ∨ j = 7 by omega) with rfl | rfl | rfl | rfl | rfl | rfl | rfl | rfl <;> rfl) (c' := 31) (s' := 622) rfl rfl (Nat.le_of_ble_eq_true rfl) (Nat.le_of_ble_eq_true rfl) (kd kX7_init_0 13 rfl) (fun q5 H hP hD hS => ?_)
  refine lv_dup C.1 C.2.1 (kd kX7_init_0 14 rfl) rfl ?_
  refine xr_call (av := []) (rest := [.ref q5, .ref a]) (n := 0) C hl.1 hP hD hS hA (c_X3 l Γ) tw_89 tw_90 tw_68 tw_91 rfl (by decide +kernel) ⟨Nat.le_of_ble_eq_true rfl, Nat.le_of_ble_eq_true rfl⟩ rfl (c' := 45) (s' := 921) rfl rfl (Nat.le_of_ble_eq_true rfl) (Nat.le_of_ble_eq_true rfl) rfl (Nat.le_of_ble_eq_true rfl) (kd kX7_init_0 15 rfl) (fun u6 H locs hu hP hD hS => ?_)
  rw [← hu]
  obtain ⟨E3, hE3⟩ : ∃ z, z = E2 ++ xP Γ 0 u6 := ⟨_, rfl⟩
  have hP : va_P Γ.2.2 vwCl (ws ++ ((a, .inr (7, [.ref (u2 0), .ref (u4 0), .null, .null, .null, .null, .null, .null, .int 0])) :: E3)) H := by rw [hE3]; exact hP
  have hD : va_D (va_A (ws ++ [(a, e0)]) sz) (ws ++ ((a, .inr (7, [.ref (u2 0), .ref (u4 0), .null, .null, .null, .null, .null, .null, .int 0])) :: E3)) := by rw [hE3]; exact hD
  refine xr_putF (i := 2) C hP hD hS 0 rfl (B' := ((a, .inr (7, [.ref (u2 0), .ref (u4 0), .ref (u6 0), .null, .null, .null, .null, .null, .int 0])) :: E3)) rfl rfl inX7 tyX7 tyX7_ok nmX7 (Nat.le_of_ble_eq_true rfl) tw_285 rfl rfl rfl rfl (Nat.le_of_ble_eq_true rfl) (kd kX7_init_0 16 rfl) (fun H locs hP hD hS => ?_)
  refine lv_aload_n C.1 C.2.1 (kd kX7_init_0 17 rfl) rfl (lv_at hl 0 rfl) ?_
  refine xr_new (ci := 1) (fs := [.null, .int 0, .int 0]) C hP hD hS hA rfl inX1 tyX1 tyX1_ok tw_150 tw_151 tw_70 (fun j hj => by rcases (show j = 0 ∨ j = 1 ∨ j = 2 by omega) with rfl | rfl | rfl <;> rfl) (c' := 46) (s' := 924) rfl rfl (Nat.le_of_ble_eq_true rfl) (Nat.le_of_ble_eq_true rfl) (kd kX7_init_0 18 rfl) (fun q7 H hP hD hS => ?_)
  refine lv_dup C.1 C.2.1 (kd kX7_init_0 19 rfl) rfl ?_
  refine xr_call (av := []) (rest := [.ref q7, .ref a]) (n := 0) C hl.1 hP hD hS hA (c_X1 l Γ) tw_152 tw_153 tw_70 tw_154 rfl (by decide +kernel) ⟨Nat.le_of_ble_eq_true rfl, Nat.le_of_ble_eq_true rfl⟩ rfl (c' := 137) (s' := 2772) rfl rfl (Nat.le_of_ble_eq_true rfl) (Nat.le_of_ble_eq_true rfl) rfl (Nat.le_of_ble_eq_true rfl) (kd kX7_init_0 20 rfl) (fun u8 H locs hu hP hD hS => ?_)
  rw [← hu]
  obtain ⟨E4, hE4⟩ : ∃ z, z = E3 ++ xHi Γ 0 u8 := ⟨_, rfl⟩
  have hP : va_P Γ.2.2 vwCl (ws ++ ((a, .inr (7, [.ref (u2 0), .ref (u4 0), .ref (u6 0), .null, .null, .null, .null, .null, .int 0])) :: E4)) H := by rw [hE4]; exact hP
  have hD : va_D (va_A (ws ++ [(a, e0)]) sz) (ws ++ ((a, .inr (7, [.ref (u2 0), .ref (u4 0), .ref (u6 0), .null, .null, .null, .null, .null, .int 0])) :: E4)) := by rw [hE4]; exact hD
  refine xr_putF (i := 3) C hP hD hS 0 rfl (B' := ((a, .inr (7, [.ref (u2 0), .ref (u4 0), .ref (u6 0), .ref (u8 0), .null, .null, .null, .null, .int 0])) :: E4)) rfl rfl inX7 tyX7 tyX7_ok nmX7 (Nat.le_of_ble_eq_true rfl) tw_286 rfl rfl rfl rfl (Nat.le_of_ble_eq_true rfl) (kd kX7_init_0 21 rfl) (fun H locs hP hD hS => ?_)
  refine lv_aload_n C.1 C.2.1 (kd kX7_init_0 22 rfl) rfl (lv_at hl 0 rfl) ?_
  refine xr_new (ci := 0) (fs := [.null, .null, .null, .null, .null, .null]) C hP hD hS hA rfl inX0 tyX0 tyX0_ok tw_169 tw_170 tw_71 (fun j hj => by rcases (show j = 0 ∨ j = 1 ∨ j = 2 ∨ j = 3 ∨ j = 4 ∨ j = 5 by omega) with rfl | rfl | rfl | rfl | rfl | rfl <;> rfl) (c' := 138) (s' := 2778) rfl rfl (Nat.le_of_ble_eq_true rfl) (Nat.le_of_ble_eq_true rfl) (kd kX7_init_0 23 rfl) (fun q9 H hP hD hS => ?_)
  refine lv_dup C.1 C.2.1 (kd kX7_init_0 24 rfl) rfl ?_
  refine xr_call (av := []) (rest := [.ref q9, .ref a]) (n := 0) C hl.1 hP hD hS hA (c_X0 l Γ) tw_171 tw_172 tw_71 tw_173 rfl (by decide +kernel) ⟨Nat.le_of_ble_eq_true rfl, Nat.le_of_ble_eq_true rfl⟩ rfl (c' := 144) (s' := 2846) rfl rfl (Nat.le_of_ble_eq_true rfl) (Nat.le_of_ble_eq_true rfl) rfl (Nat.le_of_ble_eq_true rfl) (kd kX7_init_0 25 rfl) (fun u10 H locs hu hP hD hS => ?_)
  rw [← hu]
  obtain ⟨E5, hE5⟩ : ∃ z, z = E4 ++ xDe Γ 0 u10 := ⟨_, rfl⟩
  have hP : va_P Γ.2.2 vwCl (ws ++ ((a, .inr (7, [.ref (u2 0), .ref (u4 0), .ref (u6 0), .ref (u8 0), .null, .null, .null, .null, .int 0])) :: E5)) H := by rw [hE5]; exact hP
  have hD : va_D (va_A (ws ++ [(a, e0)]) sz) (ws ++ ((a, .inr (7, [.ref (u2 0), .ref (u4 0), .ref (u6 0), .ref (u8 0), .null, .null, .null, .null, .int 0])) :: E5)) := by rw [hE5]; exact hD
  refine xr_putF (i := 4) C hP hD hS 0 rfl (B' := ((a, .inr (7, [.ref (u2 0), .ref (u4 0), .ref (u6 0), .ref (u8 0), .ref (u10 0), .null, .null, .null, .int 0])) :: E5)) rfl rfl inX7 tyX7 tyX7_ok nmX7 (Nat.le_of_ble_eq_true rfl) tw_287 rfl rfl rfl rfl (Nat.le_of_ble_eq_true rfl) (kd kX7_init_0 26 rfl) (fun H locs hP hD hS => ?_)
  refine lv_aload_n C.1 C.2.1 (kd kX7_init_0 27 rfl) rfl (lv_at hl 0 rfl) ?_
  refine xr_new (ci := 2) (fs := [.null, .null, .null, .null, .null, .null, .null, .null, .null, .null, .null]) C hP hD hS hA rfl inX2 tyX2 tyX2_ok tw_197 tw_198 tw_72 (fun j hj => by rcases (show j = 0 ∨ j = 1 ∨ j = 2 ∨ j = 3 ∨ j = 4 ∨ j = 5 ∨ j = 6 ∨ j = 7 ∨ j = 8 ∨ j = 9 ∨ j = 10 by omega) with rfl | rfl | rfl | rfl | rfl | rfl | rfl | rfl | rfl | rfl | rfl <;> rfl) (c' := 145) (s' := 2857) rfl rfl (Nat.le_of_ble_eq_true rfl) (Nat.le_of_ble_eq_true rfl) (kd kX7_init_0 28 rfl) (fun q11 H hP hD hS => ?_)
  refine lv_dup C.1 C.2.1 (kd kX7_init_0 29 rfl) rfl ?_
  refine xr_call (av := []) (rest := [.ref q11, .ref a]) (n := 0) C hl.1 hP hD hS hA (c_X2 l Γ) tw_199 tw_200 tw_72 tw_201 rfl (by decide +kernel) ⟨Nat.le_of_ble_eq_true rfl, Nat.le_of_ble_eq_true rfl⟩ rfl (c' := 156) (s' := 3425) rfl rfl (Nat.le_of_ble_eq_true rfl) (Nat.le_of_ble_eq_true rfl) rfl (Nat.le_of_ble_eq_true rfl) (kd kX7_init_0 30 rfl) (fun u12 H locs hu hP hD hS => ?_)
  rw [← hu]
  obtain ⟨E6, hE6⟩ : ∃ z, z = E5 ++ xLo Γ 0 u12 := ⟨_, rfl⟩
  have hP : va_P Γ.2.2 vwCl (ws ++ ((a, .inr (7, [.ref (u2 0), .ref (u4 0), .ref (u6 0), .ref (u8 0), .ref (u10 0), .null, .null, .null, .int 0])) :: E6)) H := by rw [hE6]; exact hP
  have hD : va_D (va_A (ws ++ [(a, e0)]) sz) (ws ++ ((a, .inr (7, [.ref (u2 0), .ref (u4 0), .ref (u6 0), .ref (u8 0), .ref (u10 0), .null, .null, .null, .int 0])) :: E6)) := by rw [hE6]; exact hD
  refine xr_putF (i := 5) C hP hD hS 0 rfl (B' := ((a, .inr (7, [.ref (u2 0), .ref (u4 0), .ref (u6 0), .ref (u8 0), .ref (u10 0), .ref (u12 0), .null, .null, .int 0])) :: E6)) rfl rfl inX7 tyX7 tyX7_ok nmX7 (Nat.le_of_ble_eq_true rfl) tw_288 rfl rfl rfl rfl (Nat.le_of_ble_eq_true rfl) (kd kX7_init_0 31 rfl) (fun H locs hP hD hS => ?_)
  refine lv_aload_n C.1 C.2.1 (kd kX7_init_0 32 rfl) rfl (lv_at hl 0 rfl) ?_
  refine xr_new (ci := 6) (fs := [.int 0, .int 0, .null, .null, .int 0]) C hP hD hS hA rfl inX6 tyX6 tyX6_ok tw_240 tw_241 tw_73 (fun j hj => by rcases (show j = 0 ∨ j = 1 ∨ j = 2 ∨ j = 3 ∨ j = 4 by omega) with rfl | rfl | rfl | rfl | rfl <;> rfl) (c' := 157) (s' := 3430) rfl rfl (Nat.le_of_ble_eq_true rfl) (Nat.le_of_ble_eq_true rfl) (kd kX7_init_0 33 rfl) (fun q13 H hP hD hS => ?_)
  refine lv_dup C.1 C.2.1 (kd kX7_init_0 34 rfl) rfl ?_
  refine xr_call (av := []) (rest := [.ref q13, .ref a]) (n := 0) C hl.1 hP hD hS hA (c_X6 l Γ) tw_242 tw_243 tw_73 tw_244 rfl (by decide +kernel) ⟨Nat.le_of_ble_eq_true rfl, Nat.le_of_ble_eq_true rfl⟩ rfl (c' := 160) (s' := 3566) rfl rfl (Nat.le_of_ble_eq_true rfl) (Nat.le_of_ble_eq_true rfl) rfl (Nat.le_of_ble_eq_true rfl) (kd kX7_init_0 35 rfl) (fun u14 H locs hu hP hD hS => ?_)
  rw [← hu]
  obtain ⟨E7, hE7⟩ : ∃ z, z = E6 ++ xTx Γ 0 u14 := ⟨_, rfl⟩
  have hP : va_P Γ.2.2 vwCl (ws ++ ((a, .inr (7, [.ref (u2 0), .ref (u4 0), .ref (u6 0), .ref (u8 0), .ref (u10 0), .ref (u12 0), .null, .null, .int 0])) :: E7)) H := by rw [hE7]; exact hP
  have hD : va_D (va_A (ws ++ [(a, e0)]) sz) (ws ++ ((a, .inr (7, [.ref (u2 0), .ref (u4 0), .ref (u6 0), .ref (u8 0), .ref (u10 0), .ref (u12 0), .null, .null, .int 0])) :: E7)) := by rw [hE7]; exact hD
  refine xr_putF (i := 6) C hP hD hS 0 rfl (B' := ((a, .inr (7, [.ref (u2 0), .ref (u4 0), .ref (u6 0), .ref (u8 0), .ref (u10 0), .ref (u12 0), .ref (u14 0), .null, .int 0])) :: E7)) rfl rfl inX7 tyX7 tyX7_ok nmX7 (Nat.le_of_ble_eq_true rfl) tw_289 rfl rfl rfl rfl (Nat.le_of_ble_eq_true rfl) (kd kX7_init_0 36 rfl) (fun H locs hP hD hS => ?_)
  refine lv_aload_n C.1 C.2.1 (kd kX7_init_0 37 rfl) rfl (lv_at hl 0 rfl) ?_
  refine xr_new (ci := 4) (fs := [.null]) C hP hD hS hA rfl inX4 tyX4 tyX4_ok tw_267 tw_268 tw_74 (fun j hj => by rcases (show j = 0 by omega) with rfl <;> rfl) (c' := 161) (s' := 3567) rfl rfl (Nat.le_of_ble_eq_true rfl) (Nat.le_of_ble_eq_true rfl) (kd kX7_init_0 38 rfl) (fun q15 H hP hD hS => ?_)
  refine lv_dup C.1 C.2.1 (kd kX7_init_0 39 rfl) rfl ?_
  refine xr_call (av := []) (rest := [.ref q15, .ref a]) (n := 0) C hl.1 hP hD hS hA (c_X4 l Γ) tw_269 tw_270 tw_74 tw_271 rfl (by decide +kernel) ⟨Nat.le_of_ble_eq_true rfl, Nat.le_of_ble_eq_true rfl⟩ rfl (c' := 163) (s' := 3616) rfl rfl (Nat.le_of_ble_eq_true rfl) (Nat.le_of_ble_eq_true rfl) rfl (Nat.le_of_ble_eq_true rfl) (kd kX7_init_0 40 rfl) (fun u16 H locs hu hP hD hS => ?_)
  rw [← hu]
  obtain ⟨E8, hE8⟩ : ∃ z, z = E7 ++ xSh Γ 0 u16 := ⟨_, rfl⟩
  have hP : va_P Γ.2.2 vwCl (ws ++ ((a, .inr (7, [.ref (u2 0), .ref (u4 0), .ref (u6 0), .ref (u8 0), .ref (u10 0), .ref (u12 0), .ref (u14 0), .null, .int 0])) :: E8)) H := by rw [hE8]; exact hP
  have hD : va_D (va_A (ws ++ [(a, e0)]) sz) (ws ++ ((a, .inr (7, [.ref (u2 0), .ref (u4 0), .ref (u6 0), .ref (u8 0), .ref (u10 0), .ref (u12 0), .ref (u14 0), .null, .int 0])) :: E8)) := by rw [hE8]; exact hD
  refine xr_putF (i := 7) C hP hD hS 0 rfl (B' := ((a, .inr (7, [.ref (u2 0), .ref (u4 0), .ref (u6 0), .ref (u8 0), .ref (u10 0), .ref (u12 0), .ref (u14 0), .ref (u16 0), .int 0])) :: E8)) rfl rfl inX7 tyX7 tyX7_ok nmX7 (Nat.le_of_ble_eq_true rfl) tw_290 rfl rfl rfl rfl (Nat.le_of_ble_eq_true rfl) (kd kX7_init_0 41 rfl) (fun H locs hP hD hS => ?_)
  refine lv_aload_n C.1 C.2.1 (kd kX7_init_0 42 rfl) rfl (lv_at hl 0 rfl) ?_
  refine lv_iconst (v := (0 : Int32)) C.1 C.2.1 (kd kX7_init_0 43 rfl) (by decide) ?_
  refine xr_put (i := 8) C hP hD hS 0 rfl (B' := ((a, .inr (7, [.ref (u2 0), .ref (u4 0), .ref (u6 0), .ref (u8 0), .ref (u10 0), .ref (u12 0), .ref (u14 0), .ref (u16 0), .int (0 : Int32)])) :: E8)) rfl rfl inX7 tyX7 tyX7_ok nmX7 (Nat.le_of_ble_eq_true rfl) tw_291 rfl rfl rfl (Nat.le_of_ble_eq_true rfl) (kd kX7_init_0 44 rfl) (fun H locs hP hD hS => ?_)
  exact xr_ret (blk := xFT Γ 0) C (fun i => if i = 0 then a else if i < 16 then u2 (i - 1) else if i < 31 then u4 (i - 16) else if i < 46 then u6 (i - 31) else if i < 138 then u8 (i - 46) else if i < 145 then u10 (i - 138) else if i < 157 then u12 (i - 145) else if i < 161 then u14 (i - 157) else if i < 164 then u16 (i - 161) else 0) rfl (by rw [hE8, hE7, hE6, hE5, hE4, hE3, hE2, hE1, hE0]; rfl) hP hD hS (Nat.le_of_ble_eq_true rfl) (Nat.le_of_ble_eq_true rfl) (kd kX7_init_0 45 rfl)

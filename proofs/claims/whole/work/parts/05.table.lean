section GM
variable {p : Program} {l : Launch} {e : Env} {s : State} {m : MethodId} {args : Array Value} {below : List Frame} {meth : Method} {c : Code} {Γ : fGm}
def f_X5_size (t0 r0 w0 : Nat) (σ : fS) : Option (Int32 × fS) := some ((σ t0 3), σ)
set_option maxRecDepth 100000 in
set_option maxHeartbeats 4000000 in
theorem m_X5_size {Γ : fGm} (hI : fI Γ) (l : Launch) {t0 r0 w0 : Nat} (h0 : fD t0 = (2, r0, w0)) {σ : fS} {r : Int32} {σ' : fS} (hf : f_X5_size t0 r0 w0 σ = some (r, σ')) : Met l yX5_size (.code yX5_size cX5_size 1 (some .int) :: lw_g) ({ frames := 0, cells := 0, slots := 0, locals := 0 } : Room) (fPre Γ [.ref (Γ.1 t0)] σ) (fQi Γ r σ') 0 0 (fAd Γ) := by
  refine fl_enter (own := RX5) hI (by decide +kernel) rfl (Nat.le_of_ble_eq_true rfl) ?_
  intro p e s m args below meth c ls C hl hP hS
  have hl : lv_has ls 1 [(0, .ref (Γ.1 t0))] := hl
  obtain ⟨H, hH⟩ : ∃ H, H = s.heap := ⟨_, rfl⟩
  obtain ⟨locs, hL⟩ : ∃ L : List Loc, L = [] := ⟨_, rfl⟩
  have hP : fH Γ σ H := by rw [hH]; exact hP
  have hS : va_S (fAd Γ) s.heap H locs := by rw [hH, hL]; exact hS
  suffices hw : W p l e ({ frames := 0, cells := 0, slots := 0, locals := 0 } : Room) s m args below meth c H locs 0 0 (MQ below (fQi Γ r σ') args s 0 0 (fAd Γ)) (F0 m 0 ls []) by rw [hH, hL] at hw; exact hw
  unfold f_X5_size at hf
  refine lv_aload_n C.1 C.2.1 (kd kX5_size_0 0 rfl) rfl (lv_at hl 0 rfl) ?_
  refine fl_get (j := 3) (v := .int (σ t0 3)) C hP (fe_T h0) (fD_lt h0) rfl inX5 (Nat.le_of_ble_eq_true rfl) tw_102 rfl (kd kX5_size_0 1 rfl) ?_
  exact fl_iret C hP hS hf (kd kX5_size_0 2 rfl)
def f_X5_at (t0 r0 w0 : Nat) (x1 : Int32) (x2 : Int32) (σ : fS) : Option (Int32 × fS) := (if x1 < 0 then some ((0 : Int32), σ) else (if (σ t0 3) ≤ x1 then some ((0 : Int32), σ) else (if x2 < 0 then some ((0 : Int32), σ) else (if x2 < (Int32.ofNat w0) then fb ((x1 * (Int32.ofNat w0)) + x2) (r0 * w0) (some ((σ (t0 + 1) ((x1 * (Int32.ofNat w0)) + x2).toNatClampNeg), σ)) else some ((0 : Int32), σ)))))
set_option maxRecDepth 100000 in
set_option maxHeartbeats 4000000 in
theorem m_X5_at {Γ : fGm} (hI : fI Γ) (l : Launch) {t0 r0 w0 : Nat} {x1 : Int32} {x2 : Int32} (h0 : fD t0 = (2, r0, w0)) {σ : fS} {r : Int32} {σ' : fS} (hf : f_X5_at t0 r0 w0 x1 x2 σ = some (r, σ')) : Met l yX5_at (.code yX5_at cX5_at 3 (some .int) :: lw_g) ({ frames := 0, cells := 0, slots := 0, locals := 0 } : Room) (fPre Γ [.ref (Γ.1 t0), .int x1, .int x2] σ) (fQi Γ r σ') 0 0 (fAd Γ) := by
  refine fl_enter (own := RX5) hI (by decide +kernel) rfl (Nat.le_of_ble_eq_true rfl) ?_
  intro p e s m args below meth c ls C hl hP hS
  have hl : lv_has ls 3 [(0, .ref (Γ.1 t0)), (1, .int x1), (2, .int x2)] := hl
  obtain ⟨H, hH⟩ : ∃ H, H = s.heap := ⟨_, rfl⟩
  obtain ⟨locs, hL⟩ : ∃ L : List Loc, L = [] := ⟨_, rfl⟩
  have hP : fH Γ σ H := by rw [hH]; exact hP
  have hS : va_S (fAd Γ) s.heap H locs := by rw [hH, hL]; exact hS
  suffices hw : W p l e ({ frames := 0, cells := 0, slots := 0, locals := 0 } : Room) s m args below meth c H locs 0 0 (MQ below (fQi Γ r σ') args s 0 0 (fAd Γ)) (F0 m 0 ls []) by rw [hH, hL] at hw; exact hw
  unfold f_X5_at at hf
  refine lv_iload_n C.1 C.2.1 (kd kX5_at_0 0 rfl) rfl (lv_at hl 1 rfl) ?_
  refine lv_if_lt (tgt := 24) C.1 C.2.1 (kd kX5_at_0 1 rfl) (by decide) (fun q => ?_) (fun q => ?_)
  · have hf := fif_pos q hf
    refine lv_iconst (v := (0 : Int32)) C.1 C.2.1 (kd kX5_at_0 12 rfl) (by decide) ?_
    exact fl_iret C hP hS hf (kd kX5_at_0 13 rfl)
  have hf := fif_neg q hf
  refine lv_iload_n C.1 C.2.1 (kd kX5_at_0 2 rfl) rfl (lv_at hl 1 rfl) ?_
  refine lv_aload_n C.1 C.2.1 (kd kX5_at_0 3 rfl) rfl (lv_at hl 0 rfl) ?_
  refine fl_get (j := 3) (v := .int (σ t0 3)) C hP (fe_T h0) (fD_lt h0) rfl inX5 (Nat.le_of_ble_eq_true rfl) tw_102 rfl (kd kX5_at_0 4 rfl) ?_
  refine lv_icmp_ge (tgt := 24) C.1 C.2.1 (kd kX5_at_0 5 rfl) (by decide) (fun q => ?_) (fun q => ?_)
  · have hf := fif_pos q hf
    refine lv_iconst (v := (0 : Int32)) C.1 C.2.1 (kd kX5_at_0 12 rfl) (by decide) ?_
    exact fl_iret C hP hS hf (kd kX5_at_0 13 rfl)
  have hf := fif_neg q hf
  refine lv_iload_n C.1 C.2.1 (kd kX5_at_0 6 rfl) rfl (lv_at hl 2 rfl) ?_
  refine lv_if_lt (tgt := 24) C.1 C.2.1 (kd kX5_at_0 7 rfl) (by decide) (fun q => ?_) (fun q => ?_)
  · have hf := fif_pos q hf
    refine lv_iconst (v := (0 : Int32)) C.1 C.2.1 (kd kX5_at_0 12 rfl) (by decide) ?_
    exact fl_iret C hP hS hf (kd kX5_at_0 13 rfl)
  have hf := fif_neg q hf
  refine lv_iload_n C.1 C.2.1 (kd kX5_at_0 8 rfl) rfl (lv_at hl 2 rfl) ?_
  refine lv_aload_n C.1 C.2.1 (kd kX5_at_0 9 rfl) rfl (lv_at hl 0 rfl) ?_
  refine fl_get (j := 1) (v := .int (Int32.ofNat w0)) C hP (fe_T h0) (fD_lt h0) rfl inX5 (Nat.le_of_ble_eq_true rfl) tw_100 rfl (kd kX5_at_0 10 rfl) ?_
  refine lv_icmp_lt (tgt := 26) C.1 C.2.1 (kd kX5_at_0 11 rfl) (by decide) (fun q => ?_) (fun q => ?_)
  · have hf := fif_pos q hf
    refine lv_aload_n C.1 C.2.1 (kd kX5_at_0 14 rfl) rfl (lv_at hl 0 rfl) ?_
    refine fl_get (j := 2) (v := .ref (Γ.1 (t0 + 1))) C hP (fe_T h0) (fD_lt h0) rfl inX5 (Nat.le_of_ble_eq_true rfl) tw_101 rfl (kd kX5_at_0 15 rfl) ?_
    refine lv_iload_n C.1 C.2.1 (kd kX5_at_0 16 rfl) rfl (lv_at hl 1 rfl) ?_
    refine lv_aload_n C.1 C.2.1 (kd kX5_at_0 17 rfl) rfl (lv_at hl 0 rfl) ?_
    refine fl_get (j := 1) (v := .int (Int32.ofNat w0)) C hP (fe_T h0) (fD_lt h0) rfl inX5 (Nat.le_of_ble_eq_true rfl) tw_100 rfl (kd kX5_at_0 18 rfl) ?_
    refine lv_imul C.1 C.2.1 (kd kX5_at_0 19 rfl) ?_
    refine lv_iload_n C.1 C.2.1 (kd kX5_at_0 20 rfl) rfl (lv_at hl 2 rfl) ?_
    refine lv_iadd C.1 C.2.1 (kd kX5_at_0 21 rfl) ?_
    obtain ⟨hq, hf⟩ := fb_some hf
    refine fl_iald C hP (fD_tab h0) hq (kd kX5_at_0 22 rfl) ?_
    exact fl_iret C hP hS hf (kd kX5_at_0 23 rfl)
  have hf := fif_neg q hf
  refine lv_iconst (v := (0 : Int32)) C.1 C.2.1 (kd kX5_at_0 12 rfl) (by decide) ?_
  exact fl_iret C hP hS hf (kd kX5_at_0 13 rfl)
def f_X5_copyFrom (t0 r0 w0 : Nat) (t1 r1 w1 : Nat) (σ : fS) : Option (fS) := fL (fu σ t0 3 (if (Int32.ofNat r0) < (σ t1 3) then (Int32.ofNat r0) else (σ t1 3))) (fun σ1 => fg (fcpOK (r1 * w1) (r0 * w0) (0 : Int32) (0 : Int32) (if (Int32.ofNat (r1 * w1)) < (Int32.ofNat (r0 * w0)) then (Int32.ofNat (r1 * w1)) else (Int32.ofNat (r0 * w0)))) (fL (fcp σ1 (t1 + 1) (t0 + 1) (0 : Int32) (0 : Int32) (if (Int32.ofNat (r1 * w1)) < (Int32.ofNat (r0 * w0)) then (Int32.ofNat (r1 * w1)) else (Int32.ofNat (r0 * w0)))) (fun σ2 => some σ2)))
set_option maxRecDepth 100000 in
set_option maxHeartbeats 4000000 in
theorem m_X5_copyFrom {Γ : fGm} (hI : fI Γ) (l : Launch) {t0 r0 w0 : Nat} {t1 r1 w1 : Nat} (h0 : fD t0 = (2, r0, w0)) (h1 : fD t1 = (2, r1, w1)) {σ : fS} {σ' : fS} (hf : f_X5_copyFrom t0 r0 w0 t1 r1 w1 σ = some σ') : Met l yX5_copyFrom (.code yX5_copyFrom cX5_copyFrom 2 none :: lw_g) ({ frames := 1, cells := 0, slots := 0, locals := 40 } : Room) (fPre Γ [.ref (Γ.1 t0), .ref (Γ.1 t1)] σ) (fQv Γ σ') 0 0 (fAd Γ) := by
  refine fl_enter (own := RX5) hI (by decide +kernel) rfl (Nat.le_of_ble_eq_true rfl) ?_
  intro p e s m args below meth c ls C hl hP hS
  have hl : lv_has ls 2 [(0, .ref (Γ.1 t0)), (1, .ref (Γ.1 t1))] := hl
  obtain ⟨H, hH⟩ : ∃ H, H = s.heap := ⟨_, rfl⟩
  obtain ⟨locs, hL⟩ : ∃ L : List Loc, L = [] := ⟨_, rfl⟩
  have hP : fH Γ σ H := by rw [hH]; exact hP
  have hS : va_S (fAd Γ) s.heap H locs := by rw [hH, hL]; exact hS
  suffices hw : W p l e ({ frames := 1, cells := 0, slots := 0, locals := 40 } : Room) s m args below meth c H locs 0 0 (MQ below (fQv Γ σ') args s 0 0 (fAd Γ)) (F0 m 0 ls []) by rw [hH, hL] at hw; exact hw
  unfold f_X5_copyFrom at hf
  refine lv_aload_n C.1 C.2.1 (kd kX5_copyFrom_0 0 rfl) rfl (lv_at hl 0 rfl) ?_
  refine lv_aload_n C.1 C.2.1 (kd kX5_copyFrom_0 1 rfl) rfl (lv_at hl 1 rfl) ?_
  refine fl_get (j := 3) (v := .int (σ t1 3)) C hP (fe_T h1) (fD_lt h1) rfl inX5 (Nat.le_of_ble_eq_true rfl) tw_102 rfl (kd kX5_copyFrom_0 2 rfl) ?_
  refine lv_aload_n C.1 C.2.1 (kd kX5_copyFrom_0 3 rfl) rfl (lv_at hl 0 rfl) ?_
  refine fl_get (j := 0) (v := .int (Int32.ofNat r0)) C hP (fe_T h0) (fD_lt h0) rfl inX5 (Nat.le_of_ble_eq_true rfl) tw_99 rfl (kd kX5_copyFrom_0 4 rfl) ?_
  refine fl_min C hl.1 tw_323 tw_324 tw_76 tw_325 (Nat.le_of_ble_eq_true rfl) (Nat.le_of_ble_eq_true rfl) (kd kX5_copyFrom_0 5 rfl) ?_
  obtain ⟨σ1, eσ1, hf⟩ := fL_some hf
  refine fl_put (j := 3) C hP hS (fe_T h0) (fe_T h0) (fD_lt h0) rfl inX5 tyX5 tyX5_ok nmX5 (Nat.le_of_ble_eq_true rfl) tw_102 rfl rfl rfl (Nat.le_of_ble_eq_true rfl) (kd kX5_copyFrom_0 6 rfl) (fun H locs hP hS => ?_)
  have hP : fH Γ σ1 H := by rw [eσ1]; exact hP
  refine lv_aload_n C.1 C.2.1 (kd kX5_copyFrom_0 7 rfl) rfl (lv_at hl 1 rfl) ?_
  refine fl_get (j := 2) (v := .ref (Γ.1 (t1 + 1))) C hP (fe_T h1) (fD_lt h1) rfl inX5 (Nat.le_of_ble_eq_true rfl) tw_101 rfl (kd kX5_copyFrom_0 8 rfl) ?_
  refine lv_iconst (v := (0 : Int32)) C.1 C.2.1 (kd kX5_copyFrom_0 9 rfl) (by decide) ?_
  refine lv_aload_n C.1 C.2.1 (kd kX5_copyFrom_0 10 rfl) rfl (lv_at hl 0 rfl) ?_
  refine fl_get (j := 2) (v := .ref (Γ.1 (t0 + 1))) C hP (fe_T h0) (fD_lt h0) rfl inX5 (Nat.le_of_ble_eq_true rfl) tw_101 rfl (kd kX5_copyFrom_0 11 rfl) ?_
  refine lv_iconst (v := (0 : Int32)) C.1 C.2.1 (kd kX5_copyFrom_0 12 rfl) (by decide) ?_
  refine lv_aload_n C.1 C.2.1 (kd kX5_copyFrom_0 13 rfl) rfl (lv_at hl 0 rfl) ?_
  refine fl_get (j := 2) (v := .ref (Γ.1 (t0 + 1))) C hP (fe_T h0) (fD_lt h0) rfl inX5 (Nat.le_of_ble_eq_true rfl) tw_101 rfl (kd kX5_copyFrom_0 14 rfl) ?_
  refine fl_alen C hP (fD_tab h0) (kd kX5_copyFrom_0 15 rfl) ?_
  refine lv_aload_n C.1 C.2.1 (kd kX5_copyFrom_0 16 rfl) rfl (lv_at hl 1 rfl) ?_
  refine fl_get (j := 2) (v := .ref (Γ.1 (t1 + 1))) C hP (fe_T h1) (fD_lt h1) rfl inX5 (Nat.le_of_ble_eq_true rfl) tw_101 rfl (kd kX5_copyFrom_0 17 rfl) ?_
  refine fl_alen C hP (fD_tab h1) (kd kX5_copyFrom_0 18 rfl) ?_
  refine fl_min C hl.1 tw_323 tw_324 tw_76 tw_325 (Nat.le_of_ble_eq_true rfl) (Nat.le_of_ble_eq_true rfl) (kd kX5_copyFrom_0 19 rfl) ?_
  obtain ⟨hq, hf⟩ := fg_some hf
  obtain ⟨σ2, eσ2, hf⟩ := fL_some hf
  refine fl_copy C hP hS hl.1 (fD_tab h1) (fD_tab h0) tw_326 tw_328 tw_327 tw_77 hq (Nat.le_of_ble_eq_true rfl) (Nat.le_of_ble_eq_true rfl) (kd kX5_copyFrom_0 20 rfl) (fun H locs hP hS => ?_)
  have hP : fH Γ σ2 H := by rw [eσ2]; exact hP
  exact fl_vret C hP hS hf (kd kX5_copyFrom_0 21 rfl)
def f_X7_isOutside (x0 : Int32) (x1 : Int32) (x2 : Int32) (σ : fS) : Option (Int32 × fS) := (if x0 < x1 then some ((1 : Int32), σ) else (if x0 ≤ x2 then some ((0 : Int32), σ) else some ((1 : Int32), σ)))
set_option maxRecDepth 100000 in
set_option maxHeartbeats 4000000 in
theorem m_X7_isOutside {Γ : fGm} (hI : fI Γ) (l : Launch) {x0 : Int32} {x1 : Int32} {x2 : Int32} {σ : fS} {r : Int32} {σ' : fS} (hf : f_X7_isOutside x0 x1 x2 σ = some (r, σ')) : Met l yX7_isOutside (.code yX7_isOutside cX7_isOutside 3 (some .boolean) :: lw_g) ({ frames := 0, cells := 0, slots := 0, locals := 0 } : Room) (fPre Γ [.int x0, .int x1, .int x2] σ) (fQi Γ r σ') 0 0 (fAd Γ) := by
  refine fl_enter (own := RX7) hI (by decide +kernel) rfl (Nat.le_of_ble_eq_true rfl) ?_
  intro p e s m args below meth c ls C hl hP hS
  have hl : lv_has ls 3 [(0, .int x0), (1, .int x1), (2, .int x2)] := hl
  obtain ⟨H, hH⟩ : ∃ H, H = s.heap := ⟨_, rfl⟩
  obtain ⟨locs, hL⟩ : ∃ L : List Loc, L = [] := ⟨_, rfl⟩
  have hP : fH Γ σ H := by rw [hH]; exact hP
  have hS : va_S (fAd Γ) s.heap H locs := by rw [hH, hL]; exact hS
  suffices hw : W p l e ({ frames := 0, cells := 0, slots := 0, locals := 0 } : Room) s m args below meth c H locs 0 0 (MQ below (fQi Γ r σ') args s 0 0 (fAd Γ)) (F0 m 0 ls []) by rw [hH, hL] at hw; exact hw
  unfold f_X7_isOutside at hf
  refine lv_iload_n C.1 C.2.1 (kd kX7_isOutside_0 0 rfl) rfl (lv_at hl 0 rfl) ?_
  refine lv_iload_n C.1 C.2.1 (kd kX7_isOutside_0 1 rfl) rfl (lv_at hl 1 rfl) ?_
  refine lv_icmp_lt (tgt := 10) C.1 C.2.1 (kd kX7_isOutside_0 2 rfl) (by decide) (fun q => ?_) (fun q => ?_)
  · have hf := fif_pos q hf
    refine lv_iconst (v := (1 : Int32)) C.1 C.2.1 (kd kX7_isOutside_0 6 rfl) (by decide) ?_
    refine lv_goto (tgt := 15) C.1 C.2.1 (kd kX7_isOutside_0 7 rfl) (by decide) ?_
    exact fl_zret C hP hS rfl hf (kd kX7_isOutside_0 9 rfl)
  have hf := fif_neg q hf
  refine lv_iload_n C.1 C.2.1 (kd kX7_isOutside_0 3 rfl) rfl (lv_at hl 0 rfl) ?_
  refine lv_iload_n C.1 C.2.1 (kd kX7_isOutside_0 4 rfl) rfl (lv_at hl 2 rfl) ?_
  refine lv_icmp_le (tgt := 14) C.1 C.2.1 (kd kX7_isOutside_0 5 rfl) (by decide) (fun q => ?_) (fun q => ?_)
  · have hf := fif_pos q hf
    refine lv_iconst (v := (0 : Int32)) C.1 C.2.1 (kd kX7_isOutside_0 8 rfl) (by decide) ?_
    exact fl_zret C hP hS rfl hf (kd kX7_isOutside_0 9 rfl)
  have hf := fif_neg q hf
  refine lv_iconst (v := (1 : Int32)) C.1 C.2.1 (kd kX7_isOutside_0 6 rfl) (by decide) ?_
  refine lv_goto (tgt := 15) C.1 C.2.1 (kd kX7_isOutside_0 7 rfl) (by decide) ?_
  exact fl_zret C hP hS rfl hf (kd kX7_isOutside_0 9 rfl)
def f_X5_isFull (t0 r0 w0 : Nat) (σ : fS) : Option (Int32 × fS) := (if (σ t0 3) < (Int32.ofNat r0) then some ((0 : Int32), σ) else some ((1 : Int32), σ))
set_option maxRecDepth 100000 in
set_option maxHeartbeats 4000000 in
theorem m_X5_isFull {Γ : fGm} (hI : fI Γ) (l : Launch) {t0 r0 w0 : Nat} (h0 : fD t0 = (2, r0, w0)) {σ : fS} {r : Int32} {σ' : fS} (hf : f_X5_isFull t0 r0 w0 σ = some (r, σ')) : Met l yX5_isFull (.code yX5_isFull cX5_isFull 1 (some .boolean) :: lw_g) ({ frames := 0, cells := 0, slots := 0, locals := 0 } : Room) (fPre Γ [.ref (Γ.1 t0)] σ) (fQi Γ r σ') 0 0 (fAd Γ) := by
  refine fl_enter (own := RX5) hI (by decide +kernel) rfl (Nat.le_of_ble_eq_true rfl) ?_
  intro p e s m args below meth c ls C hl hP hS
  have hl : lv_has ls 1 [(0, .ref (Γ.1 t0))] := hl
  obtain ⟨H, hH⟩ : ∃ H, H = s.heap := ⟨_, rfl⟩
  obtain ⟨locs, hL⟩ : ∃ L : List Loc, L = [] := ⟨_, rfl⟩
  have hP : fH Γ σ H := by rw [hH]; exact hP
  have hS : va_S (fAd Γ) s.heap H locs := by rw [hH, hL]; exact hS
  suffices hw : W p l e ({ frames := 0, cells := 0, slots := 0, locals := 0 } : Room) s m args below meth c H locs 0 0 (MQ below (fQi Γ r σ') args s 0 0 (fAd Γ)) (F0 m 0 ls []) by rw [hH, hL] at hw; exact hw
  unfold f_X5_isFull at hf
  refine lv_aload_n C.1 C.2.1 (kd kX5_isFull_0 0 rfl) rfl (lv_at hl 0 rfl) ?_
  refine fl_get (j := 3) (v := .int (σ t0 3)) C hP (fe_T h0) (fD_lt h0) rfl inX5 (Nat.le_of_ble_eq_true rfl) tw_102 rfl (kd kX5_isFull_0 1 rfl) ?_
  refine lv_aload_n C.1 C.2.1 (kd kX5_isFull_0 2 rfl) rfl (lv_at hl 0 rfl) ?_
  refine fl_get (j := 0) (v := .int (Int32.ofNat r0)) C hP (fe_T h0) (fD_lt h0) rfl inX5 (Nat.le_of_ble_eq_true rfl) tw_99 rfl (kd kX5_isFull_0 3 rfl) ?_
  refine lv_icmp_lt (tgt := 15) C.1 C.2.1 (kd kX5_isFull_0 4 rfl) (by decide) (fun q => ?_) (fun q => ?_)
  · have hf := fif_pos q hf
    refine lv_iconst (v := (0 : Int32)) C.1 C.2.1 (kd kX5_isFull_0 7 rfl) (by decide) ?_
    exact fl_zret C hP hS rfl hf (kd kX5_isFull_0 8 rfl)
  have hf := fif_neg q hf
  refine lv_iconst (v := (1 : Int32)) C.1 C.2.1 (kd kX5_isFull_0 5 rfl) (by decide) ?_
  refine lv_goto (tgt := 16) C.1 C.2.1 (kd kX5_isFull_0 6 rfl) (by decide) ?_
  exact fl_zret C hP hS rfl hf (kd kX5_isFull_0 8 rfl)
def f_X5_put (t0 r0 w0 : Nat) (x1 : Int32) (x2 : Int32) (x3 : Int32) (σ : fS) : Option (fS) := (if x1 < 0 then some σ else (if (σ t0 3) ≤ x1 then some σ else (if x2 < 0 then some σ else (if x2 < (Int32.ofNat w0) then fb ((x1 * (Int32.ofNat w0)) + x2) (r0 * w0) (fL (fu σ (t0 + 1) ((x1 * (Int32.ofNat w0)) + x2).toNatClampNeg x3) (fun σ1 => some σ1)) else some σ))))
set_option maxRecDepth 100000 in
set_option maxHeartbeats 4000000 in
theorem m_X5_put {Γ : fGm} (hI : fI Γ) (l : Launch) {t0 r0 w0 : Nat} {x1 : Int32} {x2 : Int32} {x3 : Int32} (h0 : fD t0 = (2, r0, w0)) {σ : fS} {σ' : fS} (hf : f_X5_put t0 r0 w0 x1 x2 x3 σ = some σ') : Met l yX5_put (.code yX5_put cX5_put 4 none :: lw_g) ({ frames := 0, cells := 0, slots := 0, locals := 0 } : Room) (fPre Γ [.ref (Γ.1 t0), .int x1, .int x2, .int x3] σ) (fQv Γ σ') 0 0 (fAd Γ) := by
  refine fl_enter (own := RX5) hI (by decide +kernel) rfl (Nat.le_of_ble_eq_true rfl) ?_
  intro p e s m args below meth c ls C hl hP hS
  have hl : lv_has ls 4 [(0, .ref (Γ.1 t0)), (1, .int x1), (2, .int x2), (3, .int x3)] := hl
  obtain ⟨H, hH⟩ : ∃ H, H = s.heap := ⟨_, rfl⟩
  obtain ⟨locs, hL⟩ : ∃ L : List Loc, L = [] := ⟨_, rfl⟩
  have hP : fH Γ σ H := by rw [hH]; exact hP
  have hS : va_S (fAd Γ) s.heap H locs := by rw [hH, hL]; exact hS
  suffices hw : W p l e ({ frames := 0, cells := 0, slots := 0, locals := 0 } : Room) s m args below meth c H locs 0 0 (MQ below (fQv Γ σ') args s 0 0 (fAd Γ)) (F0 m 0 ls []) by rw [hH, hL] at hw; exact hw
  unfold f_X5_put at hf
  refine lv_iload_n C.1 C.2.1 (kd kX5_put_0 0 rfl) rfl (lv_at hl 1 rfl) ?_
  refine lv_if_lt (tgt := 24) C.1 C.2.1 (kd kX5_put_0 1 rfl) (by decide) (fun q => ?_) (fun q => ?_)
  · have hf := fif_pos q hf
    exact fl_vret C hP hS hf (kd kX5_put_0 12 rfl)
  have hf := fif_neg q hf
  refine lv_iload_n C.1 C.2.1 (kd kX5_put_0 2 rfl) rfl (lv_at hl 1 rfl) ?_
  refine lv_aload_n C.1 C.2.1 (kd kX5_put_0 3 rfl) rfl (lv_at hl 0 rfl) ?_
  refine fl_get (j := 3) (v := .int (σ t0 3)) C hP (fe_T h0) (fD_lt h0) rfl inX5 (Nat.le_of_ble_eq_true rfl) tw_102 rfl (kd kX5_put_0 4 rfl) ?_
  refine lv_icmp_ge (tgt := 24) C.1 C.2.1 (kd kX5_put_0 5 rfl) (by decide) (fun q => ?_) (fun q => ?_)
  · have hf := fif_pos q hf
    exact fl_vret C hP hS hf (kd kX5_put_0 12 rfl)
  have hf := fif_neg q hf
  refine lv_iload_n C.1 C.2.1 (kd kX5_put_0 6 rfl) rfl (lv_at hl 2 rfl) ?_
  refine lv_if_lt (tgt := 24) C.1 C.2.1 (kd kX5_put_0 7 rfl) (by decide) (fun q => ?_) (fun q => ?_)
  · have hf := fif_pos q hf
    exact fl_vret C hP hS hf (kd kX5_put_0 12 rfl)
  have hf := fif_neg q hf
  refine lv_iload_n C.1 C.2.1 (kd kX5_put_0 8 rfl) rfl (lv_at hl 2 rfl) ?_
  refine lv_aload_n C.1 C.2.1 (kd kX5_put_0 9 rfl) rfl (lv_at hl 0 rfl) ?_
  refine fl_get (j := 1) (v := .int (Int32.ofNat w0)) C hP (fe_T h0) (fD_lt h0) rfl inX5 (Nat.le_of_ble_eq_true rfl) tw_100 rfl (kd kX5_put_0 10 rfl) ?_
  refine lv_icmp_lt (tgt := 25) C.1 C.2.1 (kd kX5_put_0 11 rfl) (by decide) (fun q => ?_) (fun q => ?_)
  · have hf := fif_pos q hf
    refine lv_aload_n C.1 C.2.1 (kd kX5_put_0 13 rfl) rfl (lv_at hl 0 rfl) ?_
    refine fl_get (j := 2) (v := .ref (Γ.1 (t0 + 1))) C hP (fe_T h0) (fD_lt h0) rfl inX5 (Nat.le_of_ble_eq_true rfl) tw_101 rfl (kd kX5_put_0 14 rfl) ?_
    refine lv_iload_n C.1 C.2.1 (kd kX5_put_0 15 rfl) rfl (lv_at hl 1 rfl) ?_
    refine lv_aload_n C.1 C.2.1 (kd kX5_put_0 16 rfl) rfl (lv_at hl 0 rfl) ?_
    refine fl_get (j := 1) (v := .int (Int32.ofNat w0)) C hP (fe_T h0) (fD_lt h0) rfl inX5 (Nat.le_of_ble_eq_true rfl) tw_100 rfl (kd kX5_put_0 17 rfl) ?_
    refine lv_imul C.1 C.2.1 (kd kX5_put_0 18 rfl) ?_
    refine lv_iload_n C.1 C.2.1 (kd kX5_put_0 19 rfl) rfl (lv_at hl 2 rfl) ?_
    refine lv_iadd C.1 C.2.1 (kd kX5_put_0 20 rfl) ?_
    refine lv_iload_n C.1 C.2.1 (kd kX5_put_0 21 rfl) rfl (lv_at hl 3 rfl) ?_
    obtain ⟨hq, hf⟩ := fb_some hf
    obtain ⟨σ1, eσ1, hf⟩ := fL_some hf
    refine fl_iast C hP hS (fD_tab h0) hq (kd kX5_put_0 22 rfl) (fun H locs hP hS => ?_)
    have hP : fH Γ σ1 H := by rw [eσ1]; exact hP
    exact fl_vret C hP hS hf (kd kX5_put_0 23 rfl)
  have hf := fif_neg q hf
  exact fl_vret C hP hS hf (kd kX5_put_0 12 rfl)
def f_X5_addRow (t0 r0 w0 : Nat) (x1 : Int32) (x2 : Int32) (x3 : Int32) (x4 : Int32) (σ : fS) : Option (Int32 × fS) := fcall (f_X5_isFull t0 r0 w0 σ) (fun r1_ σ1 => (if r1_ = 0 then fL (fu σ1 t0 3 ((σ1 t0 3) + (1 : Int32))) (fun σ2 => fcallv (f_X5_put t0 r0 w0 (σ1 t0 3) (0 : Int32) x1 σ2) (fun σ3 => fcallv (f_X5_put t0 r0 w0 (σ1 t0 3) (1 : Int32) x2 σ3) (fun σ4 => fcallv (f_X5_put t0 r0 w0 (σ1 t0 3) (2 : Int32) x3 σ4) (fun σ5 => fcallv (f_X5_put t0 r0 w0 (σ1 t0 3) (3 : Int32) x4 σ5) (fun σ6 => some ((σ1 t0 3), σ6)))))) else some ((-10003 : Int32), σ1)))
set_option maxRecDepth 100000 in
set_option maxHeartbeats 4000000 in
theorem m_X5_addRow {Γ : fGm} (hI : fI Γ) (l : Launch) {t0 r0 w0 : Nat} {x1 : Int32} {x2 : Int32} {x3 : Int32} {x4 : Int32} (h0 : fD t0 = (2, r0, w0)) {σ : fS} {r : Int32} {σ' : fS} (hf : f_X5_addRow t0 r0 w0 x1 x2 x3 x4 σ = some (r, σ')) : Met l yX5_addRow (.code yX5_addRow cX5_addRow 6 (some .int) :: lw_g) ({ frames := 1, cells := 0, slots := 0, locals := 23 } : Room) (fPre Γ [.ref (Γ.1 t0), .int x1, .int x2, .int x3, .int x4] σ) (fQi Γ r σ') 0 0 (fAd Γ) := by
  refine fl_enter (own := RX5) hI (by decide +kernel) rfl (Nat.le_of_ble_eq_true rfl) ?_
  intro p e s m args below meth c ls C hl hP hS
  have hl : lv_has ls 6 [(0, .ref (Γ.1 t0)), (1, .int x1), (2, .int x2), (3, .int x3), (4, .int x4)] := hl
  obtain ⟨H, hH⟩ : ∃ H, H = s.heap := ⟨_, rfl⟩
  obtain ⟨locs, hL⟩ : ∃ L : List Loc, L = [] := ⟨_, rfl⟩
  have hP : fH Γ σ H := by rw [hH]; exact hP
  have hS : va_S (fAd Γ) s.heap H locs := by rw [hH, hL]; exact hS
  suffices hw : W p l e ({ frames := 1, cells := 0, slots := 0, locals := 23 } : Room) s m args below meth c H locs 0 0 (MQ below (fQi Γ r σ') args s 0 0 (fAd Γ)) (F0 m 0 ls []) by rw [hH, hL] at hw; exact hw
  unfold f_X5_addRow at hf
  refine lv_aload_n C.1 C.2.1 (kd kX5_addRow_0 0 rfl) rfl (lv_at hl 0 rfl) ?_
  obtain ⟨r1_, σ1, hσ1, hf⟩ := fcall_some hf
  refine fl_i hS (fl_runV (As := []) (rest := []) C hP (fe_T h0) (fD_lt h0) rfl (m_X5_isFull C.2.2.2.2.2.2.2.2 l h0 hσ1) (fgV tw_340 tw_341 tw_342 tw_69 tw_343) hd_X5_isFull ⟨rfl, rfl, Nat.le_of_ble_eq_true rfl, Nat.le_of_ble_eq_true rfl⟩ rfl hl.1 rfl (Nat.le_of_ble_eq_true rfl) (kd kX5_addRow_0 1 rfl)) (fun H locs hP hS => ?_)
  refine lv_if_eq (tgt := 11) C.1 C.2.1 (kd kX5_addRow_0 2 rfl) (by decide) (fun q => ?_) (fun q => ?_)
  · have hf := fif_pos q hf
    refine lv_aload_n C.1 C.2.1 (kd kX5_addRow_0 5 rfl) rfl (lv_at hl 0 rfl) ?_
    refine fl_get (j := 3) (v := .int (σ1 t0 3)) C hP (fe_T h0) (fD_lt h0) rfl inX5 (Nat.le_of_ble_eq_true rfl) tw_102 rfl (kd kX5_addRow_0 6 rfl) ?_
    refine lv_istore (lv' := [(5, .int (σ1 t0 3)), (0, .ref (Γ.1 t0)), (1, .int x1), (2, .int x2), (3, .int x3), (4, .int x4)]) C.1 C.2.1 (kd kX5_addRow_0 7 rfl) hl (Nat.le_of_ble_eq_true rfl) rfl (fun ls hl => ?_)
    refine lv_aload_n C.1 C.2.1 (kd kX5_addRow_0 8 rfl) rfl (lv_at hl 1 rfl) ?_
    refine lv_dup C.1 C.2.1 (kd kX5_addRow_0 9 rfl) rfl ?_
    refine fl_get (j := 3) (v := .int (σ1 t0 3)) C hP (fe_T h0) (fD_lt h0) rfl inX5 (Nat.le_of_ble_eq_true rfl) tw_102 rfl (kd kX5_addRow_0 10 rfl) ?_
    refine lv_iconst (v := (1 : Int32)) C.1 C.2.1 (kd kX5_addRow_0 11 rfl) (by decide) ?_
    refine lv_iadd C.1 C.2.1 (kd kX5_addRow_0 12 rfl) ?_
    obtain ⟨σ2, eσ2, hf⟩ := fL_some hf
    refine fl_put (j := 3) C hP hS (fe_T h0) (fe_T h0) (fD_lt h0) rfl inX5 tyX5 tyX5_ok nmX5 (Nat.le_of_ble_eq_true rfl) tw_102 rfl rfl rfl (Nat.le_of_ble_eq_true rfl) (kd kX5_addRow_0 13 rfl) (fun H locs hP hS => ?_)
    have hP : fH Γ σ2 H := by rw [eσ2]; exact hP
    refine lv_aload_n C.1 C.2.1 (kd kX5_addRow_0 14 rfl) rfl (lv_at hl 1 rfl) ?_
    refine lv_iload C.1 C.2.1 (kd kX5_addRow_0 15 rfl) (lv_at hl 0 rfl) ?_
    refine lv_iconst (v := (0 : Int32)) C.1 C.2.1 (kd kX5_addRow_0 16 rfl) (by decide) ?_
    refine lv_iload_n C.1 C.2.1 (kd kX5_addRow_0 17 rfl) rfl (lv_at hl 2 rfl) ?_
    obtain ⟨σ3, hσ3, hf⟩ := fcallv_some hf
    refine fl_v hS (fl_runV (As := [.int (σ1 t0 3), .int (0 : Int32), .int x1]) (rest := []) C hP (fe_T h0) (fD_lt h0) rfl (m_X5_put C.2.2.2.2.2.2.2.2 l h0 hσ3) (fgV tw_344 tw_276 tw_277 tw_69 tw_278) hd_X5_put ⟨rfl, rfl, Nat.le_of_ble_eq_true rfl, Nat.le_of_ble_eq_true rfl⟩ rfl hl.1 rfl (Nat.le_of_ble_eq_true rfl) (kd kX5_addRow_0 18 rfl)) (fun H locs hP hS => ?_)
    refine lv_aload_n C.1 C.2.1 (kd kX5_addRow_0 19 rfl) rfl (lv_at hl 1 rfl) ?_
    refine lv_iload C.1 C.2.1 (kd kX5_addRow_0 20 rfl) (lv_at hl 0 rfl) ?_
    refine lv_iconst (v := (1 : Int32)) C.1 C.2.1 (kd kX5_addRow_0 21 rfl) (by decide) ?_
    refine lv_iload_n C.1 C.2.1 (kd kX5_addRow_0 22 rfl) rfl (lv_at hl 3 rfl) ?_
    obtain ⟨σ4, hσ4, hf⟩ := fcallv_some hf
    refine fl_v hS (fl_runV (As := [.int (σ1 t0 3), .int (1 : Int32), .int x2]) (rest := []) C hP (fe_T h0) (fD_lt h0) rfl (m_X5_put C.2.2.2.2.2.2.2.2 l h0 hσ4) (fgV tw_344 tw_276 tw_277 tw_69 tw_278) hd_X5_put ⟨rfl, rfl, Nat.le_of_ble_eq_true rfl, Nat.le_of_ble_eq_true rfl⟩ rfl hl.1 rfl (Nat.le_of_ble_eq_true rfl) (kd kX5_addRow_0 23 rfl)) (fun H locs hP hS => ?_)
    refine lv_aload_n C.1 C.2.1 (kd kX5_addRow_0 24 rfl) rfl (lv_at hl 1 rfl) ?_
    refine lv_iload C.1 C.2.1 (kd kX5_addRow_0 25 rfl) (lv_at hl 0 rfl) ?_
    refine lv_iconst (v := (2 : Int32)) C.1 C.2.1 (kd kX5_addRow_0 26 rfl) (by decide) ?_
    refine lv_iload_n C.1 C.2.1 (kd kX5_addRow_0 27 rfl) rfl (lv_at hl 4 rfl) ?_
    obtain ⟨σ5, hσ5, hf⟩ := fcallv_some hf
    refine fl_v hS (fl_runV (As := [.int (σ1 t0 3), .int (2 : Int32), .int x3]) (rest := []) C hP (fe_T h0) (fD_lt h0) rfl (m_X5_put C.2.2.2.2.2.2.2.2 l h0 hσ5) (fgV tw_344 tw_276 tw_277 tw_69 tw_278) hd_X5_put ⟨rfl, rfl, Nat.le_of_ble_eq_true rfl, Nat.le_of_ble_eq_true rfl⟩ rfl hl.1 rfl (Nat.le_of_ble_eq_true rfl) (kd kX5_addRow_0 28 rfl)) (fun H locs hP hS => ?_)
    refine lv_aload_n C.1 C.2.1 (kd kX5_addRow_0 29 rfl) rfl (lv_at hl 1 rfl) ?_
    refine lv_iload C.1 C.2.1 (kd kX5_addRow_0 30 rfl) (lv_at hl 0 rfl) ?_
    refine lv_iconst (v := (3 : Int32)) C.1 C.2.1 (kd kX5_addRow_0 31 rfl) (by decide) ?_
    refine lv_iload C.1 C.2.1 (kd kX5_addRow_0 32 rfl) (lv_at hl 5 rfl) ?_
    obtain ⟨σ6, hσ6, hf⟩ := fcallv_some hf
    refine fl_v hS (fl_runV (As := [.int (σ1 t0 3), .int (3 : Int32), .int x4]) (rest := []) C hP (fe_T h0) (fD_lt h0) rfl (m_X5_put C.2.2.2.2.2.2.2.2 l h0 hσ6) (fgV tw_344 tw_276 tw_277 tw_69 tw_278) hd_X5_put ⟨rfl, rfl, Nat.le_of_ble_eq_true rfl, Nat.le_of_ble_eq_true rfl⟩ rfl hl.1 rfl (Nat.le_of_ble_eq_true rfl) (kd kX5_addRow_0 33 rfl)) (fun H locs hP hS => ?_)
    refine lv_iload C.1 C.2.1 (kd kX5_addRow_0 34 rfl) (lv_at hl 0 rfl) ?_
    exact fl_iret C hP hS hf (kd kX5_addRow_0 35 rfl)
  have hf := fif_neg q hf
  refine lv_sipush (v := (-10003 : Int32)) C.1 C.2.1 (kd kX5_addRow_0 3 rfl) (by decide) ?_
  exact fl_iret C hP hS hf (kd kX5_addRow_0 4 rfl)
def f_X5_has (t0 r0 w0 : Nat) (x1 : Int32) (σ : fS) : Option (Int32 × fS) := (if x1 < 0 then some ((0 : Int32), σ) else (if (σ t0 3) ≤ x1 then some ((0 : Int32), σ) else some ((1 : Int32), σ)))
set_option maxRecDepth 100000 in
set_option maxHeartbeats 4000000 in
theorem m_X5_has {Γ : fGm} (hI : fI Γ) (l : Launch) {t0 r0 w0 : Nat} {x1 : Int32} (h0 : fD t0 = (2, r0, w0)) {σ : fS} {r : Int32} {σ' : fS} (hf : f_X5_has t0 r0 w0 x1 σ = some (r, σ')) : Met l yX5_has (.code yX5_has cX5_has 2 (some .boolean) :: lw_g) ({ frames := 0, cells := 0, slots := 0, locals := 0 } : Room) (fPre Γ [.ref (Γ.1 t0), .int x1] σ) (fQi Γ r σ') 0 0 (fAd Γ) := by
  refine fl_enter (own := RX5) hI (by decide +kernel) rfl (Nat.le_of_ble_eq_true rfl) ?_
  intro p e s m args below meth c ls C hl hP hS
  have hl : lv_has ls 2 [(0, .ref (Γ.1 t0)), (1, .int x1)] := hl
  obtain ⟨H, hH⟩ : ∃ H, H = s.heap := ⟨_, rfl⟩
  obtain ⟨locs, hL⟩ : ∃ L : List Loc, L = [] := ⟨_, rfl⟩
  have hP : fH Γ σ H := by rw [hH]; exact hP
  have hS : va_S (fAd Γ) s.heap H locs := by rw [hH, hL]; exact hS
  suffices hw : W p l e ({ frames := 0, cells := 0, slots := 0, locals := 0 } : Room) s m args below meth c H locs 0 0 (MQ below (fQi Γ r σ') args s 0 0 (fAd Γ)) (F0 m 0 ls []) by rw [hH, hL] at hw; exact hw
  unfold f_X5_has at hf
  refine lv_iload_n C.1 C.2.1 (kd kX5_has_0 0 rfl) rfl (lv_at hl 1 rfl) ?_
  refine lv_if_lt (tgt := 16) C.1 C.2.1 (kd kX5_has_0 1 rfl) (by decide) (fun q => ?_) (fun q => ?_)
  · have hf := fif_pos q hf
    refine lv_iconst (v := (0 : Int32)) C.1 C.2.1 (kd kX5_has_0 8 rfl) (by decide) ?_
    exact fl_zret C hP hS rfl hf (kd kX5_has_0 9 rfl)
  have hf := fif_neg q hf
  refine lv_iload_n C.1 C.2.1 (kd kX5_has_0 2 rfl) rfl (lv_at hl 1 rfl) ?_
  refine lv_aload_n C.1 C.2.1 (kd kX5_has_0 3 rfl) rfl (lv_at hl 0 rfl) ?_
  refine fl_get (j := 3) (v := .int (σ t0 3)) C hP (fe_T h0) (fD_lt h0) rfl inX5 (Nat.le_of_ble_eq_true rfl) tw_102 rfl (kd kX5_has_0 4 rfl) ?_
  refine lv_icmp_ge (tgt := 16) C.1 C.2.1 (kd kX5_has_0 5 rfl) (by decide) (fun q => ?_) (fun q => ?_)
  · have hf := fif_pos q hf
    refine lv_iconst (v := (0 : Int32)) C.1 C.2.1 (kd kX5_has_0 8 rfl) (by decide) ?_
    exact fl_zret C hP hS rfl hf (kd kX5_has_0 9 rfl)
  have hf := fif_neg q hf
  refine lv_iconst (v := (1 : Int32)) C.1 C.2.1 (kd kX5_has_0 6 rfl) (by decide) ?_
  refine lv_goto (tgt := 17) C.1 C.2.1 (kd kX5_has_0 7 rfl) (by decide) ?_
  exact fl_zret C hP hS rfl hf (kd kX5_has_0 9 rfl)
def f_X5_removeRow_b16 (t0 r0 w0 : Nat) : Nat → Int32 → fS → Option (fS)
  | 0, _, _ => none
  | n_ + 1, v2, σ => (if (((σ t0 3) - (1 : Int32)) * (Int32.ofNat w0)) ≤ v2 then fL (fu σ t0 3 ((σ t0 3) - (1 : Int32))) (fun σ1 => some σ1) else fb (v2 + (Int32.ofNat w0)) (r0 * w0) (fb v2 (r0 * w0) (fL (fu σ (t0 + 1) v2.toNatClampNeg (σ (t0 + 1) (v2 + (Int32.ofNat w0)).toNatClampNeg)) (fun σ2 => (fun v2 σ => f_X5_removeRow_b16 t0 r0 w0 n_ v2 σ) ((v2 + (1 : Int32))) σ2))))
set_option maxRecDepth 100000 in
set_option maxHeartbeats 4000000 in
theorem w_X5_removeRow_b16 {t0 r0 w0 : Nat} {σ' : fS} (h0 : fD t0 = (2, r0, w0))  (C : fC Γ p s m args meth c cX5_removeRow none RX5 3) : ∀ (n_ : Nat) (v2 : Int32) (σ : fS) (H : Heap) (locs : List Loc) (ls : Array Slot), f_X5_removeRow_b16 t0 r0 w0 n_ v2 σ = some σ' → fH Γ σ H → va_S (fAd Γ) s.heap H locs → lv_has ls 3 [(0, .ref (Γ.1 t0)), (2, .int v2)] → W p l e ({ frames := 1, cells := 0, slots := 0, locals := 21 } : Room) s m args below meth c H locs 0 0 (MQ below (fQv Γ σ') args s 0 0 (fAd Γ)) (F0 m 16 ls []) := by
  intro n_
  induction n_ with
  | zero =>
    intro v2 σ H locs ls hf
    cases hf
  | succ n_ ih =>
    intro v2 σ H locs ls hf hP hS hl
    have hf : (if (((σ t0 3) - (1 : Int32)) * (Int32.ofNat w0)) ≤ v2 then fL (fu σ t0 3 ((σ t0 3) - (1 : Int32))) (fun σ1 => some σ1) else fb (v2 + (Int32.ofNat w0)) (r0 * w0) (fb v2 (r0 * w0) (fL (fu σ (t0 + 1) v2.toNatClampNeg (σ (t0 + 1) (v2 + (Int32.ofNat w0)).toNatClampNeg)) (fun σ2 => (fun v2 σ => f_X5_removeRow_b16 t0 r0 w0 n_ v2 σ) ((v2 + (1 : Int32))) σ2)))) = some σ' := hf
    have hK16 := ih
    refine lv_iload_n C.1 C.2.1 (kd kX5_removeRow_0 10 rfl) rfl (lv_at hl 1 rfl) ?_
    refine lv_aload_n C.1 C.2.1 (kd kX5_removeRow_0 11 rfl) rfl (lv_at hl 0 rfl) ?_
    refine fl_get (j := 3) (v := .int (σ t0 3)) C hP (fe_T h0) (fD_lt h0) rfl inX5 (Nat.le_of_ble_eq_true rfl) tw_102 rfl (kd kX5_removeRow_0 12 rfl) ?_
    refine lv_iconst (v := (1 : Int32)) C.1 C.2.1 (kd kX5_removeRow_0 13 rfl) (by decide) ?_
    refine lv_isub C.1 C.2.1 (kd kX5_removeRow_0 14 rfl) ?_
    refine lv_aload_n C.1 C.2.1 (kd kX5_removeRow_0 15 rfl) rfl (lv_at hl 0 rfl) ?_
    refine fl_get (j := 1) (v := .int (Int32.ofNat w0)) C hP (fe_T h0) (fD_lt h0) rfl inX5 (Nat.le_of_ble_eq_true rfl) tw_100 rfl (kd kX5_removeRow_0 16 rfl) ?_
    refine lv_imul C.1 C.2.1 (kd kX5_removeRow_0 17 rfl) ?_
    refine lv_icmp_ge (tgt := 54) C.1 C.2.1 (kd kX5_removeRow_0 18 rfl) (by decide) (fun q => ?_) (fun q => ?_)
    · have hf := fif_pos q hf
      refine lv_aload_n C.1 C.2.1 (kd kX5_removeRow_0 32 rfl) rfl (lv_at hl 0 rfl) ?_
      refine lv_dup C.1 C.2.1 (kd kX5_removeRow_0 33 rfl) rfl ?_
      refine fl_get (j := 3) (v := .int (σ t0 3)) C hP (fe_T h0) (fD_lt h0) rfl inX5 (Nat.le_of_ble_eq_true rfl) tw_102 rfl (kd kX5_removeRow_0 34 rfl) ?_
      refine lv_iconst (v := (1 : Int32)) C.1 C.2.1 (kd kX5_removeRow_0 35 rfl) (by decide) ?_
      refine lv_isub C.1 C.2.1 (kd kX5_removeRow_0 36 rfl) ?_
      obtain ⟨σ1, eσ1, hf⟩ := fL_some hf
      refine fl_put (j := 3) C hP hS (fe_T h0) (fe_T h0) (fD_lt h0) rfl inX5 tyX5 tyX5_ok nmX5 (Nat.le_of_ble_eq_true rfl) tw_102 rfl rfl rfl (Nat.le_of_ble_eq_true rfl) (kd kX5_removeRow_0 37 rfl) (fun H locs hP hS => ?_)
      have hP : fH Γ σ1 H := by rw [eσ1]; exact hP
      exact fl_vret C hP hS hf (kd kX5_removeRow_0 38 rfl)
    have hf := fif_neg q hf
    refine lv_aload_n C.1 C.2.1 (kd kX5_removeRow_0 19 rfl) rfl (lv_at hl 0 rfl) ?_
    refine fl_get (j := 2) (v := .ref (Γ.1 (t0 + 1))) C hP (fe_T h0) (fD_lt h0) rfl inX5 (Nat.le_of_ble_eq_true rfl) tw_101 rfl (kd kX5_removeRow_0 20 rfl) ?_
    refine lv_iload_n C.1 C.2.1 (kd kX5_removeRow_0 21 rfl) rfl (lv_at hl 1 rfl) ?_
    refine lv_aload_n C.1 C.2.1 (kd kX5_removeRow_0 22 rfl) rfl (lv_at hl 0 rfl) ?_
    refine fl_get (j := 2) (v := .ref (Γ.1 (t0 + 1))) C hP (fe_T h0) (fD_lt h0) rfl inX5 (Nat.le_of_ble_eq_true rfl) tw_101 rfl (kd kX5_removeRow_0 23 rfl) ?_
    refine lv_iload_n C.1 C.2.1 (kd kX5_removeRow_0 24 rfl) rfl (lv_at hl 1 rfl) ?_
    refine lv_aload_n C.1 C.2.1 (kd kX5_removeRow_0 25 rfl) rfl (lv_at hl 0 rfl) ?_
    refine fl_get (j := 1) (v := .int (Int32.ofNat w0)) C hP (fe_T h0) (fD_lt h0) rfl inX5 (Nat.le_of_ble_eq_true rfl) tw_100 rfl (kd kX5_removeRow_0 26 rfl) ?_
    refine lv_iadd C.1 C.2.1 (kd kX5_removeRow_0 27 rfl) ?_
    obtain ⟨hq, hf⟩ := fb_some hf
    refine fl_iald C hP (fD_tab h0) hq (kd kX5_removeRow_0 28 rfl) ?_
    obtain ⟨hq, hf⟩ := fb_some hf
    obtain ⟨σ2, eσ2, hf⟩ := fL_some hf
    refine fl_iast C hP hS (fD_tab h0) hq (kd kX5_removeRow_0 29 rfl) (fun H locs hP hS => ?_)
    have hP : fH Γ σ2 H := by rw [eσ2]; exact hP
    refine lv_iinc (v := (v2 + (1 : Int32))) (lv' := [(2, .int (v2 + (1 : Int32))), (0, .ref (Γ.1 t0))]) C.1 C.2.1 (kd kX5_removeRow_0 30 rfl) hl (k := 1) rfl rfl (Nat.le_of_ble_eq_true rfl) rfl (fun ls hl => ?_)
    refine lv_goto (tgt := 16) C.1 C.2.1 (kd kX5_removeRow_0 31 rfl) (by decide) ?_
    exact hK16 ((v2 + (1 : Int32))) σ2 H locs ls hf hP hS (lv_sub hl [1, 0] rfl)
def f_X5_removeRow (t0 r0 w0 : Nat) (x1 : Int32) (σ : fS) : Option (fS) := fcall (f_X5_has t0 r0 w0 x1 σ) (fun r1_ σ1 => (if r1_ = 0 then some σ1 else f_X5_removeRow_b16 t0 r0 w0 fN ((x1 * (Int32.ofNat w0))) σ1))
set_option maxRecDepth 100000 in
set_option maxHeartbeats 4000000 in
theorem m_X5_removeRow {Γ : fGm} (hI : fI Γ) (l : Launch) {t0 r0 w0 : Nat} {x1 : Int32} (h0 : fD t0 = (2, r0, w0)) {σ : fS} {σ' : fS} (hf : f_X5_removeRow t0 r0 w0 x1 σ = some σ') : Met l yX5_removeRow (.code yX5_removeRow cX5_removeRow 3 none :: lw_g) ({ frames := 1, cells := 0, slots := 0, locals := 21 } : Room) (fPre Γ [.ref (Γ.1 t0), .int x1] σ) (fQv Γ σ') 0 0 (fAd Γ) := by
  refine fl_enter (own := RX5) hI (by decide +kernel) rfl (Nat.le_of_ble_eq_true rfl) ?_
  intro p e s m args below meth c ls C hl hP hS
  have hl : lv_has ls 3 [(0, .ref (Γ.1 t0)), (1, .int x1)] := hl
  obtain ⟨H, hH⟩ : ∃ H, H = s.heap := ⟨_, rfl⟩
  obtain ⟨locs, hL⟩ : ∃ L : List Loc, L = [] := ⟨_, rfl⟩
  have hP : fH Γ σ H := by rw [hH]; exact hP
  have hS : va_S (fAd Γ) s.heap H locs := by rw [hH, hL]; exact hS
  suffices hw : W p l e ({ frames := 1, cells := 0, slots := 0, locals := 21 } : Room) s m args below meth c H locs 0 0 (MQ below (fQv Γ σ') args s 0 0 (fAd Γ)) (F0 m 0 ls []) by rw [hH, hL] at hw; exact hw
  unfold f_X5_removeRow at hf
  refine lv_aload_n C.1 C.2.1 (kd kX5_removeRow_0 0 rfl) rfl (lv_at hl 0 rfl) ?_
  refine lv_iload_n C.1 C.2.1 (kd kX5_removeRow_0 1 rfl) rfl (lv_at hl 1 rfl) ?_
  obtain ⟨r1_, σ1, hσ1, hf⟩ := fcall_some hf
  refine fl_i hS (fl_runV (As := [.int x1]) (rest := []) C hP (fe_T h0) (fD_lt h0) rfl (m_X5_has C.2.2.2.2.2.2.2.2 l h0 hσ1) (fgV tw_409 tw_378 tw_379 tw_69 tw_380) hd_X5_has ⟨rfl, rfl, Nat.le_of_ble_eq_true rfl, Nat.le_of_ble_eq_true rfl⟩ rfl hl.1 rfl (Nat.le_of_ble_eq_true rfl) (kd kX5_removeRow_0 2 rfl)) (fun H locs hP hS => ?_)
  refine lv_if_ne (tgt := 9) C.1 C.2.1 (kd kX5_removeRow_0 3 rfl) (by decide) (fun q => ?_) (fun q => ?_)
  · have hf := fif_neg q hf
    refine lv_iload_n C.1 C.2.1 (kd kX5_removeRow_0 5 rfl) rfl (lv_at hl 1 rfl) ?_
    refine lv_aload_n C.1 C.2.1 (kd kX5_removeRow_0 6 rfl) rfl (lv_at hl 0 rfl) ?_
    refine fl_get (j := 1) (v := .int (Int32.ofNat w0)) C hP (fe_T h0) (fD_lt h0) rfl inX5 (Nat.le_of_ble_eq_true rfl) tw_100 rfl (kd kX5_removeRow_0 7 rfl) ?_
    refine lv_imul C.1 C.2.1 (kd kX5_removeRow_0 8 rfl) ?_
    refine lv_istore_n (lv' := [(2, .int (x1 * (Int32.ofNat w0))), (0, .ref (Γ.1 t0)), (1, .int x1)]) C.1 C.2.1 (kd kX5_removeRow_0 9 rfl) rfl hl (Nat.le_of_ble_eq_true rfl) rfl (fun ls hl => ?_)
    exact w_X5_removeRow_b16 h0 C fN ((x1 * (Int32.ofNat w0))) σ1 H locs ls hf hP hS (lv_sub hl [1, 0] rfl)
  have hf := fif_pos q hf
  exact fl_vret C hP hS hf (kd kX5_removeRow_0 4 rfl)
def f_X5_clearRows (t0 r0 w0 : Nat) (σ : fS) : Option (fS) := fL (fu σ t0 3 (0 : Int32)) (fun σ1 => some σ1)
set_option maxRecDepth 100000 in
set_option maxHeartbeats 4000000 in
theorem m_X5_clearRows {Γ : fGm} (hI : fI Γ) (l : Launch) {t0 r0 w0 : Nat} (h0 : fD t0 = (2, r0, w0)) {σ : fS} {σ' : fS} (hf : f_X5_clearRows t0 r0 w0 σ = some σ') : Met l yX5_clearRows (.code yX5_clearRows cX5_clearRows 1 none :: lw_g) ({ frames := 0, cells := 0, slots := 0, locals := 0 } : Room) (fPre Γ [.ref (Γ.1 t0)] σ) (fQv Γ σ') 0 0 (fAd Γ) := by
  refine fl_enter (own := RX5) hI (by decide +kernel) rfl (Nat.le_of_ble_eq_true rfl) ?_
  intro p e s m args below meth c ls C hl hP hS
  have hl : lv_has ls 1 [(0, .ref (Γ.1 t0))] := hl
  obtain ⟨H, hH⟩ : ∃ H, H = s.heap := ⟨_, rfl⟩
  obtain ⟨locs, hL⟩ : ∃ L : List Loc, L = [] := ⟨_, rfl⟩
  have hP : fH Γ σ H := by rw [hH]; exact hP
  have hS : va_S (fAd Γ) s.heap H locs := by rw [hH, hL]; exact hS
  suffices hw : W p l e ({ frames := 0, cells := 0, slots := 0, locals := 0 } : Room) s m args below meth c H locs 0 0 (MQ below (fQv Γ σ') args s 0 0 (fAd Γ)) (F0 m 0 ls []) by rw [hH, hL] at hw; exact hw
  unfold f_X5_clearRows at hf
  refine lv_aload_n C.1 C.2.1 (kd kX5_clearRows_0 0 rfl) rfl (lv_at hl 0 rfl) ?_
  refine lv_iconst (v := (0 : Int32)) C.1 C.2.1 (kd kX5_clearRows_0 1 rfl) (by decide) ?_
  obtain ⟨σ1, eσ1, hf⟩ := fL_some hf
  refine fl_put (j := 3) C hP hS (fe_T h0) (fe_T h0) (fD_lt h0) rfl inX5 tyX5 tyX5_ok nmX5 (Nat.le_of_ble_eq_true rfl) tw_102 rfl rfl rfl (Nat.le_of_ble_eq_true rfl) (kd kX5_clearRows_0 2 rfl) (fun H locs hP hS => ?_)
  have hP : fH Γ σ1 H := by rw [eσ1]; exact hP
  exact fl_vret C hP hS hf (kd kX5_clearRows_0 3 rfl)
def f_X7_isError (x0 : Int32) (σ : fS) : Option (Int32 × fS) := (if x0 < (-10006 : Int32) then some ((0 : Int32), σ) else (if (-10001 : Int32) < x0 then some ((0 : Int32), σ) else some ((1 : Int32), σ)))
set_option maxRecDepth 100000 in
set_option maxHeartbeats 4000000 in
theorem m_X7_isError {Γ : fGm} (hI : fI Γ) (l : Launch) {x0 : Int32} {σ : fS} {r : Int32} {σ' : fS} (hf : f_X7_isError x0 σ = some (r, σ')) : Met l yX7_isError (.code yX7_isError cX7_isError 1 (some .boolean) :: lw_g) ({ frames := 0, cells := 0, slots := 0, locals := 0 } : Room) (fPre Γ [.int x0] σ) (fQi Γ r σ') 0 0 (fAd Γ) := by
  refine fl_enter (own := RX7) hI (by decide +kernel) rfl (Nat.le_of_ble_eq_true rfl) ?_
  intro p e s m args below meth c ls C hl hP hS
  have hl : lv_has ls 1 [(0, .int x0)] := hl
  obtain ⟨H, hH⟩ : ∃ H, H = s.heap := ⟨_, rfl⟩
  obtain ⟨locs, hL⟩ : ∃ L : List Loc, L = [] := ⟨_, rfl⟩
  have hP : fH Γ σ H := by rw [hH]; exact hP
  have hS : va_S (fAd Γ) s.heap H locs := by rw [hH, hL]; exact hS
  suffices hw : W p l e ({ frames := 0, cells := 0, slots := 0, locals := 0 } : Room) s m args below meth c H locs 0 0 (MQ below (fQi Γ r σ') args s 0 0 (fAd Γ)) (F0 m 0 ls []) by rw [hH, hL] at hw; exact hw
  unfold f_X7_isError at hf
  refine lv_iload_n C.1 C.2.1 (kd kX7_isError_0 0 rfl) rfl (lv_at hl 0 rfl) ?_
  refine lv_sipush (v := (-10006 : Int32)) C.1 C.2.1 (kd kX7_isError_0 1 rfl) (by decide) ?_
  refine lv_icmp_lt (tgt := 18) C.1 C.2.1 (kd kX7_isError_0 2 rfl) (by decide) (fun q => ?_) (fun q => ?_)
  · have hf := fif_pos q hf
    refine lv_iconst (v := (0 : Int32)) C.1 C.2.1 (kd kX7_isError_0 8 rfl) (by decide) ?_
    exact fl_zret C hP hS rfl hf (kd kX7_isError_0 9 rfl)
  have hf := fif_neg q hf
  refine lv_iload_n C.1 C.2.1 (kd kX7_isError_0 3 rfl) rfl (lv_at hl 0 rfl) ?_
  refine lv_sipush (v := (-10001 : Int32)) C.1 C.2.1 (kd kX7_isError_0 4 rfl) (by decide) ?_
  refine lv_icmp_gt (tgt := 18) C.1 C.2.1 (kd kX7_isError_0 5 rfl) (by decide) (fun q => ?_) (fun q => ?_)
  · have hf := fif_pos q hf
    refine lv_iconst (v := (0 : Int32)) C.1 C.2.1 (kd kX7_isError_0 8 rfl) (by decide) ?_
    exact fl_zret C hP hS rfl hf (kd kX7_isError_0 9 rfl)
  have hf := fif_neg q hf
  refine lv_iconst (v := (1 : Int32)) C.1 C.2.1 (kd kX7_isError_0 6 rfl) (by decide) ?_
  refine lv_goto (tgt := 19) C.1 C.2.1 (kd kX7_isError_0 7 rfl) (by decide) ?_
  exact fl_zret C hP hS rfl hf (kd kX7_isError_0 9 rfl)
def f_X7_bitsOf_b102 (v2 : Int32) (v3 : Int32) (s0 : Int32) (σ : fS) : Option (Int32 × fS) := some (((s0 ||| (v2 <<< ((23 : Int32) &&& 31))) ||| v3), σ)
set_option maxRecDepth 100000 in
set_option maxHeartbeats 4000000 in
theorem w_X7_bitsOf_b102 {r : Int32} {σ' : fS}  (C : fC Γ p s m args meth c cX7_bitsOf (some .int) RX7 5) : ∀ (v2 : Int32) (v3 : Int32) (s0 : Int32) (σ : fS) (H : Heap) (locs : List Loc) (ls : Array Slot), f_X7_bitsOf_b102 v2 v3 s0 σ = some (r, σ') → fH Γ σ H → va_S (fAd Γ) s.heap H locs → lv_has ls 5 [(2, .int v2), (3, .int v3)] → W p l e ({ frames := 0, cells := 0, slots := 0, locals := 0 } : Room) s m args below meth c H locs 0 0 (MQ below (fQi Γ r σ') args s 0 0 (fAd Γ)) (F0 m 102 ls [.int s0]) := by
  intro v2 v3 s0 σ H locs ls hf hP hS hl
  unfold f_X7_bitsOf_b102 at hf
  refine lv_istore (lv' := [(4, .int s0), (2, .int v2), (3, .int v3)]) C.1 C.2.1 (kd kX7_bitsOf_1 3 rfl) hl (Nat.le_of_ble_eq_true rfl) rfl (fun ls hl => ?_)
  refine lv_iload C.1 C.2.1 (kd kX7_bitsOf_1 4 rfl) (lv_at hl 0 rfl) ?_
  refine lv_iload_n C.1 C.2.1 (kd kX7_bitsOf_1 5 rfl) rfl (lv_at hl 1 rfl) ?_
  refine lv_bipush (v := (23 : Int32)) C.1 C.2.1 (kd kX7_bitsOf_1 6 rfl) (by decide) ?_
  refine lv_ishl C.1 C.2.1 (kd kX7_bitsOf_1 7 rfl) ?_
  refine lv_ior C.1 C.2.1 (kd kX7_bitsOf_1 8 rfl) ?_
  refine lv_iload_n C.1 C.2.1 (kd kX7_bitsOf_1 9 rfl) rfl (lv_at hl 2 rfl) ?_
  refine lv_ior C.1 C.2.1 (kd kX7_bitsOf_1 10 rfl) ?_
  exact fl_iret C hP hS hf (kd kX7_bitsOf_1 11 rfl)
def f_X7_bitsOf_b78 (v0 : UInt32) (v1 : UInt32) (v2 : Int32) (σ : fS) : Option (Int32 × fS) := fg ((FP.fmul v1 (1258291200 : UInt32)) &&& 0x7fffffff ≤ 0x7f800000) ((if 0 ≤ (Op.cmpValue (FP.fcmp v0 FP.fconst0) .g) then f_X7_bitsOf_b102 (v2) (((FP.f2i (FP.fmul v1 (1258291200 : UInt32))) - (8388608 : Int32))) ((0 : Int32)) σ else f_X7_bitsOf_b102 (v2) (((FP.f2i (FP.fmul v1 (1258291200 : UInt32))) - (8388608 : Int32))) ((-2147483648 : Int32)) σ))
set_option maxRecDepth 100000 in
set_option maxHeartbeats 4000000 in
theorem w_X7_bitsOf_b78 {r : Int32} {σ' : fS}  (C : fC Γ p s m args meth c cX7_bitsOf (some .int) RX7 5) : ∀ (v0 : UInt32) (v1 : UInt32) (v2 : Int32) (σ : fS) (H : Heap) (locs : List Loc) (ls : Array Slot), f_X7_bitsOf_b78 v0 v1 v2 σ = some (r, σ') → fH Γ σ H → va_S (fAd Γ) s.heap H locs → lv_has ls 5 [(0, .float v0), (1, .float v1), (2, .int v2)] → W p l e ({ frames := 0, cells := 0, slots := 0, locals := 0 } : Room) s m args below meth c H locs 0 0 (MQ below (fQi Γ r σ') args s 0 0 (fAd Γ)) (F0 m 78 ls []) := by
  intro v0 v1 v2 σ H locs ls hf hP hS hl
  unfold f_X7_bitsOf_b78 at hf
  refine lv_fload_n C.1 C.2.1 (kd kX7_bitsOf_0 49 rfl) rfl (lv_at hl 1 rfl) ?_
  refine lv_ldcfw (v := 1258291200) C.1 C.2.1 C.2.2.2.2.1 (C.2.2.2.2.2.1 _ tw_699) (kd kX7_bitsOf_0 50 rfl) ?_
  obtain ⟨hq, hf⟩ := fg_some hf
  refine lv_fmul C.1 C.2.1 (kd kX7_bitsOf_0 51 rfl) hq ?_
  refine lv_f2i C.1 C.2.1 (kd kX7_bitsOf_0 52 rfl) ?_
  refine lv_ldcw C.1 C.2.1 C.2.2.2.2.1 (C.2.2.2.2.2.1 _ tw_700) (kd kX7_bitsOf_0 53 rfl) ?_
  refine lv_isub C.1 C.2.1 (kd kX7_bitsOf_0 54 rfl) ?_
  refine lv_istore_n (lv' := [(3, .int ((FP.f2i (FP.fmul v1 (1258291200 : UInt32))) - (8388608 : Int32))), (0, .float v0), (1, .float v1), (2, .int v2)]) C.1 C.2.1 (kd kX7_bitsOf_0 55 rfl) rfl hl (Nat.le_of_ble_eq_true rfl) rfl (fun ls hl => ?_)
  refine lv_fload_n C.1 C.2.1 (kd kX7_bitsOf_0 56 rfl) rfl (lv_at hl 1 rfl) ?_
  refine lv_fconst0 C.1 C.2.1 (kd kX7_bitsOf_0 57 rfl) ?_
  refine lv_fcmp C.1 C.2.1 (kd kX7_bitsOf_0 58 rfl) ?_
  refine lv_if_ge (tgt := 101) C.1 C.2.1 (kd kX7_bitsOf_0 59 rfl) (by decide) (fun q => ?_) (fun q => ?_)
  · have hf := fif_pos q hf
    refine lv_iconst (v := (0 : Int32)) C.1 C.2.1 (kd kX7_bitsOf_1 2 rfl) (by decide) ?_
    exact w_X7_bitsOf_b102 C (v2) (((FP.f2i (FP.fmul v1 (1258291200 : UInt32))) - (8388608 : Int32))) ((0 : Int32)) σ H locs ls hf hP hS (lv_sub hl [3, 0] rfl)
  have hf := fif_neg q hf
  refine lv_ldcw C.1 C.2.1 C.2.2.2.2.1 (C.2.2.2.2.2.1 _ tw_701) (kd kX7_bitsOf_1 0 rfl) ?_
  refine lv_goto (tgt := 102) C.1 C.2.1 (kd kX7_bitsOf_1 1 rfl) (by decide) ?_
  exact w_X7_bitsOf_b102 C (v2) (((FP.f2i (FP.fmul v1 (1258291200 : UInt32))) - (8388608 : Int32))) ((-2147483648 : Int32)) σ H locs ls hf hP hS (lv_sub hl [3, 0] rfl)
def f_X7_bitsOf_b53 : Nat → UInt32 → UInt32 → Int32 → Int32 → fS → Option (Int32 × fS)
  | 0, _, _, _, _, _ => none
  | n_ + 1, v0, v1, v2, v3, σ => (if (126 : Int32) ≤ v3 then f_X7_bitsOf_b78 (v0) (v1) (v2) σ else (if 0 ≤ (Op.cmpValue (FP.fcmp v1 FP.fconst1) .g) then f_X7_bitsOf_b78 (v0) (v1) (v2) σ else fg ((FP.fmul v1 FP.fconst2) &&& 0x7fffffff ≤ 0x7f800000) ((fun v0 v1 v2 v3 σ => f_X7_bitsOf_b53 n_ v0 v1 v2 v3 σ) (v0) ((FP.fmul v1 FP.fconst2)) ((v2 + (-1 : Int32))) ((v3 + (1 : Int32))) σ)))
set_option maxRecDepth 100000 in
set_option maxHeartbeats 4000000 in
theorem w_X7_bitsOf_b53 {r : Int32} {σ' : fS}  (C : fC Γ p s m args meth c cX7_bitsOf (some .int) RX7 5) : ∀ (n_ : Nat) (v0 : UInt32) (v1 : UInt32) (v2 : Int32) (v3 : Int32) (σ : fS) (H : Heap) (locs : List Loc) (ls : Array Slot), f_X7_bitsOf_b53 n_ v0 v1 v2 v3 σ = some (r, σ') → fH Γ σ H → va_S (fAd Γ) s.heap H locs → lv_has ls 5 [(0, .float v0), (1, .float v1), (2, .int v2), (3, .int v3)] → W p l e ({ frames := 0, cells := 0, slots := 0, locals := 0 } : Room) s m args below meth c H locs 0 0 (MQ below (fQi Γ r σ') args s 0 0 (fAd Γ)) (F0 m 53 ls []) := by
  intro n_
  induction n_ with
  | zero =>
    intro v0 v1 v2 v3 σ H locs ls hf
    cases hf
  | succ n_ ih =>
    intro v0 v1 v2 v3 σ H locs ls hf hP hS hl
    have hf : (if (126 : Int32) ≤ v3 then f_X7_bitsOf_b78 (v0) (v1) (v2) σ else (if 0 ≤ (Op.cmpValue (FP.fcmp v1 FP.fconst1) .g) then f_X7_bitsOf_b78 (v0) (v1) (v2) σ else fg ((FP.fmul v1 FP.fconst2) &&& 0x7fffffff ≤ 0x7f800000) ((fun v0 v1 v2 v3 σ => f_X7_bitsOf_b53 n_ v0 v1 v2 v3 σ) (v0) ((FP.fmul v1 FP.fconst2)) ((v2 + (-1 : Int32))) ((v3 + (1 : Int32))) σ))) = some (r, σ') := hf
    have hK53 := ih
    refine lv_iload_n C.1 C.2.1 (kd kX7_bitsOf_0 35 rfl) rfl (lv_at hl 3 rfl) ?_
    refine lv_bipush (v := (126 : Int32)) C.1 C.2.1 (kd kX7_bitsOf_0 36 rfl) (by decide) ?_
    refine lv_icmp_ge (tgt := 78) C.1 C.2.1 (kd kX7_bitsOf_0 37 rfl) (by decide) (fun q => ?_) (fun q => ?_)
    · have hf := fif_pos q hf
      exact w_X7_bitsOf_b78 C (v0) (v1) (v2) σ H locs ls hf hP hS (lv_sub hl [0, 1, 2] rfl)
    have hf := fif_neg q hf
    refine lv_fload_n C.1 C.2.1 (kd kX7_bitsOf_0 38 rfl) rfl (lv_at hl 1 rfl) ?_
    refine lv_fconst1 C.1 C.2.1 (kd kX7_bitsOf_0 39 rfl) ?_
    refine lv_fcmp C.1 C.2.1 (kd kX7_bitsOf_0 40 rfl) ?_
    refine lv_if_ge (tgt := 78) C.1 C.2.1 (kd kX7_bitsOf_0 41 rfl) (by decide) (fun q => ?_) (fun q => ?_)
    · have hf := fif_pos q hf
      exact w_X7_bitsOf_b78 C (v0) (v1) (v2) σ H locs ls hf hP hS (lv_sub hl [0, 1, 2] rfl)
    have hf := fif_neg q hf
    refine lv_fload_n C.1 C.2.1 (kd kX7_bitsOf_0 42 rfl) rfl (lv_at hl 1 rfl) ?_
    refine lv_fconst2 C.1 C.2.1 (kd kX7_bitsOf_0 43 rfl) ?_
    obtain ⟨hq, hf⟩ := fg_some hf
    refine lv_fmul C.1 C.2.1 (kd kX7_bitsOf_0 44 rfl) hq ?_
    refine lv_fstore_n (lv' := [(1, .float (FP.fmul v1 FP.fconst2)), (0, .float v0), (2, .int v2), (3, .int v3)]) C.1 C.2.1 (kd kX7_bitsOf_0 45 rfl) rfl hl (Nat.le_of_ble_eq_true rfl) rfl (fun ls hl => ?_)
    refine lv_iinc (v := (v2 + (-1 : Int32))) (lv' := [(2, .int (v2 + (-1 : Int32))), (1, .float (FP.fmul v1 FP.fconst2)), (0, .float v0), (3, .int v3)]) C.1 C.2.1 (kd kX7_bitsOf_0 46 rfl) hl (k := 2) rfl rfl (Nat.le_of_ble_eq_true rfl) rfl (fun ls hl => ?_)
    refine lv_iinc (v := (v3 + (1 : Int32))) (lv' := [(3, .int (v3 + (1 : Int32))), (2, .int (v2 + (-1 : Int32))), (1, .float (FP.fmul v1 FP.fconst2)), (0, .float v0)]) C.1 C.2.1 (kd kX7_bitsOf_0 47 rfl) hl (k := 3) rfl rfl (Nat.le_of_ble_eq_true rfl) rfl (fun ls hl => ?_)
    refine lv_goto (tgt := 53) C.1 C.2.1 (kd kX7_bitsOf_0 48 rfl) (by decide) ?_
    exact hK53 (v0) ((FP.fmul v1 FP.fconst2)) ((v2 + (-1 : Int32))) ((v3 + (1 : Int32))) σ H locs ls hf hP hS (lv_sub hl [3, 2, 1, 0] rfl)
def f_X7_bitsOf_b51 (v0 : UInt32) (v1 : UInt32) (v2 : Int32) (σ : fS) : Option (Int32 × fS) := f_X7_bitsOf_b53 fN (v0) (v1) (v2) ((0 : Int32)) σ
set_option maxRecDepth 100000 in
set_option maxHeartbeats 4000000 in
theorem w_X7_bitsOf_b51 {r : Int32} {σ' : fS}  (C : fC Γ p s m args meth c cX7_bitsOf (some .int) RX7 5) : ∀ (v0 : UInt32) (v1 : UInt32) (v2 : Int32) (σ : fS) (H : Heap) (locs : List Loc) (ls : Array Slot), f_X7_bitsOf_b51 v0 v1 v2 σ = some (r, σ') → fH Γ σ H → va_S (fAd Γ) s.heap H locs → lv_has ls 5 [(0, .float v0), (1, .float v1), (2, .int v2)] → W p l e ({ frames := 0, cells := 0, slots := 0, locals := 0 } : Room) s m args below meth c H locs 0 0 (MQ below (fQi Γ r σ') args s 0 0 (fAd Γ)) (F0 m 51 ls []) := by
  intro v0 v1 v2 σ H locs ls hf hP hS hl
  unfold f_X7_bitsOf_b51 at hf
  refine lv_iconst (v := (0 : Int32)) C.1 C.2.1 (kd kX7_bitsOf_0 33 rfl) (by decide) ?_
  refine lv_istore_n (lv' := [(3, .int (0 : Int32)), (0, .float v0), (1, .float v1), (2, .int v2)]) C.1 C.2.1 (kd kX7_bitsOf_0 34 rfl) rfl hl (Nat.le_of_ble_eq_true rfl) rfl (fun ls hl => ?_)
  exact w_X7_bitsOf_b53 C fN (v0) (v1) (v2) ((0 : Int32)) σ H locs ls hf hP hS (lv_sub hl [1, 2, 3, 0] rfl)
def f_X7_bitsOf_b26 : Nat → UInt32 → UInt32 → Int32 → Int32 → fS → Option (Int32 × fS)
  | 0, _, _, _, _, _ => none
  | n_ + 1, v0, v1, v2, v3, σ => (if (127 : Int32) ≤ v3 then f_X7_bitsOf_b51 (v0) (v1) (v2) σ else (if (Op.cmpValue (FP.fcmp v1 FP.fconst2) .l) < 0 then f_X7_bitsOf_b51 (v0) (v1) (v2) σ else fg ((FP.fdiv v1 FP.fconst2) &&& 0x7fffffff ≤ 0x7f800000) ((fun v0 v1 v2 v3 σ => f_X7_bitsOf_b26 n_ v0 v1 v2 v3 σ) (v0) ((FP.fdiv v1 FP.fconst2)) ((v2 + (1 : Int32))) ((v3 + (1 : Int32))) σ)))
set_option maxRecDepth 100000 in
set_option maxHeartbeats 4000000 in
theorem w_X7_bitsOf_b26 {r : Int32} {σ' : fS}  (C : fC Γ p s m args meth c cX7_bitsOf (some .int) RX7 5) : ∀ (n_ : Nat) (v0 : UInt32) (v1 : UInt32) (v2 : Int32) (v3 : Int32) (σ : fS) (H : Heap) (locs : List Loc) (ls : Array Slot), f_X7_bitsOf_b26 n_ v0 v1 v2 v3 σ = some (r, σ') → fH Γ σ H → va_S (fAd Γ) s.heap H locs → lv_has ls 5 [(0, .float v0), (1, .float v1), (2, .int v2), (3, .int v3)] → W p l e ({ frames := 0, cells := 0, slots := 0, locals := 0 } : Room) s m args below meth c H locs 0 0 (MQ below (fQi Γ r σ') args s 0 0 (fAd Γ)) (F0 m 26 ls []) := by
  intro n_
  induction n_ with
  | zero =>
    intro v0 v1 v2 v3 σ H locs ls hf
    cases hf
  | succ n_ ih =>
    intro v0 v1 v2 v3 σ H locs ls hf hP hS hl
    have hf : (if (127 : Int32) ≤ v3 then f_X7_bitsOf_b51 (v0) (v1) (v2) σ else (if (Op.cmpValue (FP.fcmp v1 FP.fconst2) .l) < 0 then f_X7_bitsOf_b51 (v0) (v1) (v2) σ else fg ((FP.fdiv v1 FP.fconst2) &&& 0x7fffffff ≤ 0x7f800000) ((fun v0 v1 v2 v3 σ => f_X7_bitsOf_b26 n_ v0 v1 v2 v3 σ) (v0) ((FP.fdiv v1 FP.fconst2)) ((v2 + (1 : Int32))) ((v3 + (1 : Int32))) σ))) = some (r, σ') := hf
    have hK26 := ih
    refine lv_iload_n C.1 C.2.1 (kd kX7_bitsOf_0 19 rfl) rfl (lv_at hl 3 rfl) ?_
    refine lv_bipush (v := (127 : Int32)) C.1 C.2.1 (kd kX7_bitsOf_0 20 rfl) (by decide) ?_
    refine lv_icmp_ge (tgt := 51) C.1 C.2.1 (kd kX7_bitsOf_0 21 rfl) (by decide) (fun q => ?_) (fun q => ?_)
    · have hf := fif_pos q hf
      exact w_X7_bitsOf_b51 C (v0) (v1) (v2) σ H locs ls hf hP hS (lv_sub hl [0, 1, 2] rfl)
    have hf := fif_neg q hf
    refine lv_fload_n C.1 C.2.1 (kd kX7_bitsOf_0 22 rfl) rfl (lv_at hl 1 rfl) ?_
    refine lv_fconst2 C.1 C.2.1 (kd kX7_bitsOf_0 23 rfl) ?_
    refine lv_fcmp C.1 C.2.1 (kd kX7_bitsOf_0 24 rfl) ?_
    refine lv_if_lt (tgt := 51) C.1 C.2.1 (kd kX7_bitsOf_0 25 rfl) (by decide) (fun q => ?_) (fun q => ?_)
    · have hf := fif_pos q hf
      exact w_X7_bitsOf_b51 C (v0) (v1) (v2) σ H locs ls hf hP hS (lv_sub hl [0, 1, 2] rfl)
    have hf := fif_neg q hf
    refine lv_fload_n C.1 C.2.1 (kd kX7_bitsOf_0 26 rfl) rfl (lv_at hl 1 rfl) ?_
    refine lv_fconst2 C.1 C.2.1 (kd kX7_bitsOf_0 27 rfl) ?_
    obtain ⟨hq, hf⟩ := fg_some hf
    refine lv_fdiv C.1 C.2.1 (kd kX7_bitsOf_0 28 rfl) hq ?_
    refine lv_fstore_n (lv' := [(1, .float (FP.fdiv v1 FP.fconst2)), (0, .float v0), (2, .int v2), (3, .int v3)]) C.1 C.2.1 (kd kX7_bitsOf_0 29 rfl) rfl hl (Nat.le_of_ble_eq_true rfl) rfl (fun ls hl => ?_)
    refine lv_iinc (v := (v2 + (1 : Int32))) (lv' := [(2, .int (v2 + (1 : Int32))), (1, .float (FP.fdiv v1 FP.fconst2)), (0, .float v0), (3, .int v3)]) C.1 C.2.1 (kd kX7_bitsOf_0 30 rfl) hl (k := 2) rfl rfl (Nat.le_of_ble_eq_true rfl) rfl (fun ls hl => ?_)
    refine lv_iinc (v := (v3 + (1 : Int32))) (lv' := [(3, .int (v3 + (1 : Int32))), (2, .int (v2 + (1 : Int32))), (1, .float (FP.fdiv v1 FP.fconst2)), (0, .float v0)]) C.1 C.2.1 (kd kX7_bitsOf_0 31 rfl) hl (k := 3) rfl rfl (Nat.le_of_ble_eq_true rfl) rfl (fun ls hl => ?_)
    refine lv_goto (tgt := 26) C.1 C.2.1 (kd kX7_bitsOf_0 32 rfl) (by decide) ?_
    exact hK26 (v0) ((FP.fdiv v1 FP.fconst2)) ((v2 + (1 : Int32))) ((v3 + (1 : Int32))) σ H locs ls hf hP hS (lv_sub hl [3, 2, 1, 0] rfl)
def f_X7_bitsOf_b20 (v0 : UInt32) (s0 : UInt32) (σ : fS) : Option (Int32 × fS) := f_X7_bitsOf_b26 fN (v0) (s0) ((127 : Int32)) ((0 : Int32)) σ
set_option maxRecDepth 100000 in
set_option maxHeartbeats 4000000 in
theorem w_X7_bitsOf_b20 {r : Int32} {σ' : fS}  (C : fC Γ p s m args meth c cX7_bitsOf (some .int) RX7 5) : ∀ (v0 : UInt32) (s0 : UInt32) (σ : fS) (H : Heap) (locs : List Loc) (ls : Array Slot), f_X7_bitsOf_b20 v0 s0 σ = some (r, σ') → fH Γ σ H → va_S (fAd Γ) s.heap H locs → lv_has ls 5 [(0, .float v0)] → W p l e ({ frames := 0, cells := 0, slots := 0, locals := 0 } : Room) s m args below meth c H locs 0 0 (MQ below (fQi Γ r σ') args s 0 0 (fAd Γ)) (F0 m 20 ls [.float s0]) := by
  intro v0 s0 σ H locs ls hf hP hS hl
  unfold f_X7_bitsOf_b20 at hf
  refine lv_fstore_n (lv' := [(1, .float s0), (0, .float v0)]) C.1 C.2.1 (kd kX7_bitsOf_0 14 rfl) rfl hl (Nat.le_of_ble_eq_true rfl) rfl (fun ls hl => ?_)
  refine lv_bipush (v := (127 : Int32)) C.1 C.2.1 (kd kX7_bitsOf_0 15 rfl) (by decide) ?_
  refine lv_istore_n (lv' := [(2, .int (127 : Int32)), (1, .float s0), (0, .float v0)]) C.1 C.2.1 (kd kX7_bitsOf_0 16 rfl) rfl hl (Nat.le_of_ble_eq_true rfl) rfl (fun ls hl => ?_)
  refine lv_iconst (v := (0 : Int32)) C.1 C.2.1 (kd kX7_bitsOf_0 17 rfl) (by decide) ?_
  refine lv_istore_n (lv' := [(3, .int (0 : Int32)), (2, .int (127 : Int32)), (1, .float s0), (0, .float v0)]) C.1 C.2.1 (kd kX7_bitsOf_0 18 rfl) rfl hl (Nat.le_of_ble_eq_true rfl) rfl (fun ls hl => ?_)
  exact w_X7_bitsOf_b26 C fN (v0) (s0) ((127 : Int32)) ((0 : Int32)) σ H locs ls hf hP hS (lv_sub hl [3, 2, 1, 0] rfl)
def f_X7_bitsOf (y0 : UInt32) (σ : fS) : Option (Int32 × fS) := (if (Op.cmpValue (FP.fcmp y0 FP.fconst0) .l) = 0 then some ((0 : Int32), σ) else (if 0 ≤ (Op.cmpValue (FP.fcmp y0 FP.fconst0) .g) then f_X7_bitsOf_b20 (y0) (y0) σ else f_X7_bitsOf_b20 (y0) ((FP.fneg y0)) σ))
set_option maxRecDepth 100000 in
set_option maxHeartbeats 4000000 in
theorem m_X7_bitsOf {Γ : fGm} (hI : fI Γ) (l : Launch) {y0 : UInt32} {σ : fS} {r : Int32} {σ' : fS} (hf : f_X7_bitsOf y0 σ = some (r, σ')) : Met l yX7_bitsOf (.code yX7_bitsOf cX7_bitsOf 5 (some .int) :: lw_g) ({ frames := 0, cells := 0, slots := 0, locals := 0 } : Room) (fPre Γ [.float y0] σ) (fQi Γ r σ') 0 0 (fAd Γ) := by
  refine fl_enter (own := RX7) hI (by decide +kernel) rfl (Nat.le_of_ble_eq_true rfl) ?_
  intro p e s m args below meth c ls C hl hP hS
  have hl : lv_has ls 5 [(0, .float y0)] := hl
  obtain ⟨H, hH⟩ : ∃ H, H = s.heap := ⟨_, rfl⟩
  obtain ⟨locs, hL⟩ : ∃ L : List Loc, L = [] := ⟨_, rfl⟩
  have hP : fH Γ σ H := by rw [hH]; exact hP
  have hS : va_S (fAd Γ) s.heap H locs := by rw [hH, hL]; exact hS
  suffices hw : W p l e ({ frames := 0, cells := 0, slots := 0, locals := 0 } : Room) s m args below meth c H locs 0 0 (MQ below (fQi Γ r σ') args s 0 0 (fAd Γ)) (F0 m 0 ls []) by rw [hH, hL] at hw; exact hw
  unfold f_X7_bitsOf at hf
  refine lv_fload_n C.1 C.2.1 (kd kX7_bitsOf_0 0 rfl) rfl (lv_at hl 0 rfl) ?_
  refine lv_fconst0 C.1 C.2.1 (kd kX7_bitsOf_0 1 rfl) ?_
  refine lv_fcmp C.1 C.2.1 (kd kX7_bitsOf_0 2 rfl) ?_
  refine lv_if_ne (tgt := 8) C.1 C.2.1 (kd kX7_bitsOf_0 3 rfl) (by decide) (fun q => ?_) (fun q => ?_)
  · have hf := fif_neg q hf
    refine lv_fload_n C.1 C.2.1 (kd kX7_bitsOf_0 6 rfl) rfl (lv_at hl 0 rfl) ?_
    refine lv_fconst0 C.1 C.2.1 (kd kX7_bitsOf_0 7 rfl) ?_
    refine lv_fcmp C.1 C.2.1 (kd kX7_bitsOf_0 8 rfl) ?_
    refine lv_if_ge (tgt := 19) C.1 C.2.1 (kd kX7_bitsOf_0 9 rfl) (by decide) (fun q => ?_) (fun q => ?_)
    · have hf := fif_pos q hf
      refine lv_fload_n C.1 C.2.1 (kd kX7_bitsOf_0 13 rfl) rfl (lv_at hl 0 rfl) ?_
      exact w_X7_bitsOf_b20 C (y0) (y0) σ H locs ls hf hP hS (lv_sub hl [0] rfl)
    have hf := fif_neg q hf
    refine lv_fload_n C.1 C.2.1 (kd kX7_bitsOf_0 10 rfl) rfl (lv_at hl 0 rfl) ?_
    refine lv_fneg C.1 C.2.1 (kd kX7_bitsOf_0 11 rfl) ?_
    refine lv_goto (tgt := 20) C.1 C.2.1 (kd kX7_bitsOf_0 12 rfl) (by decide) ?_
    exact w_X7_bitsOf_b20 C (y0) ((FP.fneg y0)) σ H locs ls hf hP hS (lv_sub hl [0] rfl)
  have hf := fif_pos q hf
  refine lv_iconst (v := (0 : Int32)) C.1 C.2.1 (kd kX7_bitsOf_0 4 rfl) (by decide) ?_
  exact fl_iret C hP hS hf (kd kX7_bitsOf_0 5 rfl)
def f_Jxf58ca_isNaN_12338 (y0 : UInt32) (σ : fS) : Option (Int32 × fS) := (if (Op.cmpValue (FP.fcmp y0 y0) .l) = 0 then some ((0 : Int32), σ) else some ((1 : Int32), σ))
set_option maxRecDepth 100000 in
set_option maxHeartbeats 4000000 in
theorem m_Jxf58ca_isNaN_12338 {Γ : fGm} (hI : fI Γ) (l : Launch) {y0 : UInt32} {σ : fS} {r : Int32} {σ' : fS} (hf : f_Jxf58ca_isNaN_12338 y0 σ = some (r, σ')) : Met l yJxf58ca_isNaN_12338 (.code yJxf58ca_isNaN_12338 cJxf58ca_isNaN_12338 1 (some .boolean) :: lw_g) ({ frames := 0, cells := 0, slots := 0, locals := 0 } : Room) (fPre Γ [.float y0] σ) (fQi Γ r σ') 0 0 (fAd Γ) := by
  refine fl_enterF (own := RJxf58ca) hI (by decide +kernel) rfl (Nat.le_of_ble_eq_true rfl) ?_
  intro p e s m args below meth c ls C hl hP hS
  have hl : lv_has ls 1 [(0, .float y0)] := hl
  obtain ⟨H, hH⟩ : ∃ H, H = s.heap := ⟨_, rfl⟩
  obtain ⟨locs, hL⟩ : ∃ L : List Loc, L = [] := ⟨_, rfl⟩
  have hP : fH Γ σ H := by rw [hH]; exact hP
  have hS : va_S (fAd Γ) s.heap H locs := by rw [hH, hL]; exact hS
  suffices hw : W p l e ({ frames := 0, cells := 0, slots := 0, locals := 0 } : Room) s m args below meth c H locs 0 0 (MQ below (fQi Γ r σ') args s 0 0 (fAd Γ)) (F0 m 0 ls []) by rw [hH, hL] at hw; exact hw
  unfold f_Jxf58ca_isNaN_12338 at hf
  refine lv_fload_n C.1 C.2.1 (kd kJxf58ca_isNaN_12338_0 0 rfl) rfl (lv_at hl 0 rfl) ?_
  refine lv_fload_n C.1 C.2.1 (kd kJxf58ca_isNaN_12338_0 1 rfl) rfl (lv_at hl 0 rfl) ?_
  refine lv_fcmp C.1 C.2.1 (kd kJxf58ca_isNaN_12338_0 2 rfl) ?_
  refine lv_if_eq (tgt := 10) C.1 C.2.1 (kd kJxf58ca_isNaN_12338_0 3 rfl) (by decide) (fun q => ?_) (fun q => ?_)
  · have hf := fif_pos q hf
    refine lv_iconst (v := (0 : Int32)) C.1 C.2.1 (kd kJxf58ca_isNaN_12338_0 6 rfl) (by decide) ?_
    exact fl_zret C hP hS rfl hf (kd kJxf58ca_isNaN_12338_0 7 rfl)
  have hf := fif_neg q hf
  refine lv_iconst (v := (1 : Int32)) C.1 C.2.1 (kd kJxf58ca_isNaN_12338_0 4 rfl) (by decide) ?_
  refine lv_goto (tgt := 11) C.1 C.2.1 (kd kJxf58ca_isNaN_12338_0 5 rfl) (by decide) ?_
  exact fl_zret C hP hS rfl hf (kd kJxf58ca_isNaN_12338_0 7 rfl)
def f_Jxf58ca_floatToIntBits_5c35a (y0 : UInt32) (σ : fS) : Option (Int32 × fS) := fcall (f_Jxf58ca_isNaN_12338 y0 σ) (fun r1_ σ1 => (if r1_ = 0 then some ((y0.toInt32), σ1) else some ((2143289344 : Int32), σ1)))
set_option maxRecDepth 100000 in
set_option maxHeartbeats 4000000 in
theorem m_Jxf58ca_floatToIntBits_5c35a {Γ : fGm} (hI : fI Γ) (l : Launch) {y0 : UInt32} {σ : fS} {r : Int32} {σ' : fS} (hf : f_Jxf58ca_floatToIntBits_5c35a y0 σ = some (r, σ')) : Met l yJxf58ca_floatToIntBits_5c35a (.code yJxf58ca_floatToIntBits_5c35a cJxf58ca_floatToIntBits_5c35a 1 (some .int) :: lw_g) ({ frames := 1, cells := 0, slots := 0, locals := 40 } : Room) (fPre Γ [.float y0] σ) (fQi Γ r σ') 0 0 (fAd Γ) := by
  refine fl_enterF (own := RJxf58ca) hI (by decide +kernel) rfl (Nat.le_of_ble_eq_true rfl) ?_
  intro p e s m args below meth c ls C hl hP hS
  have hl : lv_has ls 1 [(0, .float y0)] := hl
  obtain ⟨H, hH⟩ : ∃ H, H = s.heap := ⟨_, rfl⟩
  obtain ⟨locs, hL⟩ : ∃ L : List Loc, L = [] := ⟨_, rfl⟩
  have hP : fH Γ σ H := by rw [hH]; exact hP
  have hS : va_S (fAd Γ) s.heap H locs := by rw [hH, hL]; exact hS
  suffices hw : W p l e ({ frames := 1, cells := 0, slots := 0, locals := 40 } : Room) s m args below meth c H locs 0 0 (MQ below (fQi Γ r σ') args s 0 0 (fAd Γ)) (F0 m 0 ls []) by rw [hH, hL] at hw; exact hw
  unfold f_Jxf58ca_floatToIntBits_5c35a at hf
  refine lv_fload_n C.1 C.2.1 (kd kJxf58ca_floatToIntBits_5c35a_0 0 rfl) rfl (lv_at hl 0 rfl) ?_
  obtain ⟨r1_, σ1, hσ1, hf⟩ := fcall_some hf
  refine fl_i hS (fl_runS (As := [.float y0]) (rest := []) C hP (m_Jxf58ca_isNaN_12338 C.2.2.2.2.2.2.2.2 l  hσ1) (fgS tw_1226 tw_1227 tw_78 tw_1228) hs_Jxf58ca_isNaN_12338 ⟨rfl, rfl, Nat.le_of_ble_eq_true rfl, Nat.le_of_ble_eq_true rfl⟩ rfl hl.1 rfl (Nat.le_of_ble_eq_true rfl) (kd kJxf58ca_floatToIntBits_5c35a_0 1 rfl)) (fun H locs hP hS => ?_)
  refine lv_if_ne (tgt := 12) C.1 C.2.1 (kd kJxf58ca_floatToIntBits_5c35a_0 2 rfl) (by decide) (fun q => ?_) (fun q => ?_)
  · have hf := fif_neg q hf
    refine lv_ldc C.1 C.2.1 C.2.2.2.2.1 (C.2.2.2.2.2.1 _ tw_1232) (kd kJxf58ca_floatToIntBits_5c35a_0 6 rfl) ?_
    exact fl_iret C hP hS hf (kd kJxf58ca_floatToIntBits_5c35a_0 7 rfl)
  have hf := fif_pos q hf
  refine lv_fload_n C.1 C.2.1 (kd kJxf58ca_floatToIntBits_5c35a_0 3 rfl) rfl (lv_at hl 0 rfl) ?_
  refine vn_f2i C.1 C.2.1 (C.2.2.2.1.trans hl.1.symm) C.2.2.2.2.1 (C.2.2.2.2.2.1 _ tw_1229) (C.2.2.2.2.2.1 _ tw_1231) (C.2.2.2.2.2.1 _ tw_1230) (C.2.2.2.2.2.1 _ tw_78) (Nat.le_of_ble_eq_true rfl) (Nat.le_of_ble_eq_true rfl) (kd kJxf58ca_floatToIntBits_5c35a_0 4 rfl) ?_
  exact fl_iret C hP hS hf (kd kJxf58ca_floatToIntBits_5c35a_0 5 rfl)
end GM

section GM
variable {p : Program} {l : Launch} {e : Env} {s : State} {m : MethodId} {args : Array Value} {below : List Frame} {meth : Method} {c : Code} {Γ : fGm}
def f_X1_keep (b1 : Nat) (σ : fS) : Option (fS) := fb (σ 46 1) 6 (fcallv (f_X3_copyFrom (48 + 15 * (σ 46 1).toNatClampNeg) b1 σ) (fun σ2 => fL (fu σ2 46 1 (((σ2 46 1) + (1 : Int32)) - ((σ2 46 1) + (1 : Int32)) / (6 : Int32) * (6 : Int32))) (fun σ3 => fL (fu σ3 46 2 (if (6 : Int32) < ((σ3 46 2) + (1 : Int32)) then (6 : Int32) else ((σ3 46 2) + (1 : Int32)))) (fun σ4 => some σ4))))
set_option maxRecDepth 100000 in
set_option maxHeartbeats 4000000 in
theorem m_X1_keep {Γ : fGm} (hI : fI Γ) (l : Launch) {b1 : Nat} (h1 : fD b1 = (3, 0, 0)) {σ : fS} {σ' : fS} (hf : f_X1_keep b1 σ = some σ') : Met l yX1_keep (.code yX1_keep cX1_keep 2 none :: lw_g) ({ frames := 3, cells := 0, slots := 0, locals := 82 } : Room) (fPre Γ [.ref (Γ.1 46), .ref (Γ.1 b1)] σ) (fQv Γ σ') 0 0 (fAd Γ) := by
  refine fl_enter (own := RX1) hI (by decide +kernel) rfl (Nat.le_of_ble_eq_true rfl) ?_
  intro p e s m args below meth c ls C hl hP hS
  have hl : lv_has ls 2 [(0, .ref (Γ.1 46)), (1, .ref (Γ.1 b1))] := hl
  obtain ⟨H, hH⟩ : ∃ H, H = s.heap := ⟨_, rfl⟩
  obtain ⟨locs, hL⟩ : ∃ L : List Loc, L = [] := ⟨_, rfl⟩
  have hP : fH Γ σ H := by rw [hH]; exact hP
  have hS : va_S (fAd Γ) s.heap H locs := by rw [hH, hL]; exact hS
  suffices hw : W p l e ({ frames := 3, cells := 0, slots := 0, locals := 82 } : Room) s m args below meth c H locs 0 0 (MQ below (fQv Γ σ') args s 0 0 (fAd Γ)) (F0 m 0 ls []) by rw [hH, hL] at hw; exact hw
  unfold f_X1_keep at hf
  refine lv_aload_n C.1 C.2.1 (kd kX1_keep_0 0 rfl) rfl (lv_at hl 0 rfl) ?_
  refine fl_get (j := 0) (v := .ref (Γ.1 47)) C hP rfl (Nat.le_of_ble_eq_true rfl) rfl inX1 (Nat.le_of_ble_eq_true rfl) tw_159 rfl (kd kX1_keep_0 1 rfl) ?_
  refine lv_aload_n C.1 C.2.1 (kd kX1_keep_0 2 rfl) rfl (lv_at hl 0 rfl) ?_
  refine fl_get (j := 1) (v := .int (σ 46 1)) C hP rfl (Nat.le_of_ble_eq_true rfl) rfl inX1 (Nat.le_of_ble_eq_true rfl) tw_160 rfl (kd kX1_keep_0 3 rfl) ?_
  obtain ⟨hq, hf⟩ := fb_some hf
  have hp1 : fD (48 + 15 * (σ 46 1).toNatClampNeg) = (3, 0, 0) := fD_ear hq
  refine fl_aald C hP hq (kd kX1_keep_0 4 rfl) ?_
  refine lv_aload_n C.1 C.2.1 (kd kX1_keep_0 5 rfl) rfl (lv_at hl 1 rfl) ?_
  obtain ⟨σ2, hσ2, hf⟩ := fcallv_some hf
  refine fl_v hS (fl_runV (As := [.ref (Γ.1 b1)]) (rest := []) C hP (fe_P hp1) (fD_lt hp1) rfl (m_X3_copyFrom C.2.2.2.2.2.2.2.2 l hp1 h1 hσ2) (fgV tw_356 tw_316 tw_317 tw_68 tw_318) hd_X3_copyFrom ⟨rfl, rfl, Nat.le_of_ble_eq_true rfl, Nat.le_of_ble_eq_true rfl⟩ rfl hl.1 rfl (Nat.le_of_ble_eq_true rfl) (kd kX1_keep_0 6 rfl)) (fun H locs hP hS => ?_)
  refine lv_aload_n C.1 C.2.1 (kd kX1_keep_0 7 rfl) rfl (lv_at hl 0 rfl) ?_
  refine lv_aload_n C.1 C.2.1 (kd kX1_keep_0 8 rfl) rfl (lv_at hl 0 rfl) ?_
  refine fl_get (j := 1) (v := .int (σ2 46 1)) C hP rfl (Nat.le_of_ble_eq_true rfl) rfl inX1 (Nat.le_of_ble_eq_true rfl) tw_160 rfl (kd kX1_keep_0 9 rfl) ?_
  refine lv_iconst (v := (1 : Int32)) C.1 C.2.1 (kd kX1_keep_0 10 rfl) (by decide) ?_
  refine lv_iadd C.1 C.2.1 (kd kX1_keep_0 11 rfl) ?_
  refine lv_bipush (v := (6 : Int32)) C.1 C.2.1 (kd kX1_keep_0 12 rfl) (by decide) ?_
  refine lv_irem C.1 C.2.1 (kd kX1_keep_0 13 rfl) (by decide) ?_
  obtain ⟨σ3, eσ3, hf⟩ := fL_some hf
  refine fl_put (j := 1) C hP hS rfl rfl (Nat.le_of_ble_eq_true rfl) rfl inX1 tyX1 tyX1_ok nmX1 (Nat.le_of_ble_eq_true rfl) tw_160 rfl rfl rfl (Nat.le_of_ble_eq_true rfl) (kd kX1_keep_0 14 rfl) (fun H locs hP hS => ?_)
  have hP : fH Γ σ3 H := by rw [eσ3]; exact hP
  refine lv_aload_n C.1 C.2.1 (kd kX1_keep_0 15 rfl) rfl (lv_at hl 0 rfl) ?_
  refine lv_aload_n C.1 C.2.1 (kd kX1_keep_0 16 rfl) rfl (lv_at hl 0 rfl) ?_
  refine fl_get (j := 2) (v := .int (σ3 46 2)) C hP rfl (Nat.le_of_ble_eq_true rfl) rfl inX1 (Nat.le_of_ble_eq_true rfl) tw_161 rfl (kd kX1_keep_0 17 rfl) ?_
  refine lv_iconst (v := (1 : Int32)) C.1 C.2.1 (kd kX1_keep_0 18 rfl) (by decide) ?_
  refine lv_iadd C.1 C.2.1 (kd kX1_keep_0 19 rfl) ?_
  refine lv_bipush (v := (6 : Int32)) C.1 C.2.1 (kd kX1_keep_0 20 rfl) (by decide) ?_
  refine fl_min C hl.1 tw_357 tw_324 tw_76 tw_325 (Nat.le_of_ble_eq_true rfl) (Nat.le_of_ble_eq_true rfl) (kd kX1_keep_0 21 rfl) ?_
  obtain ⟨σ4, eσ4, hf⟩ := fL_some hf
  refine fl_put (j := 2) C hP hS rfl rfl (Nat.le_of_ble_eq_true rfl) rfl inX1 tyX1 tyX1_ok nmX1 (Nat.le_of_ble_eq_true rfl) tw_161 rfl rfl rfl (Nat.le_of_ble_eq_true rfl) (kd kX1_keep_0 22 rfl) (fun H locs hP hS => ?_)
  have hP : fH Γ σ4 H := by rw [eσ4]; exact hP
  exact fl_vret C hP hS hf (kd kX1_keep_0 23 rfl)
def f_X1_takeBack (b1 : Nat) (σ : fS) : Option (Int32 × fS) := (if (σ 46 2) = 0 then some ((-10004 : Int32), σ) else fL (fu σ 46 2 ((σ 46 2) - (1 : Int32))) (fun σ1 => fL (fu σ1 46 1 ((((σ1 46 1) + (6 : Int32)) - (1 : Int32)) - (((σ1 46 1) + (6 : Int32)) - (1 : Int32)) / (6 : Int32) * (6 : Int32))) (fun σ2 => fb (σ2 46 1) 6 (fcallv (f_X3_copyFrom b1 (48 + 15 * (σ2 46 1).toNatClampNeg) σ2) (fun σ4 => some ((σ4 46 2), σ4))))))
set_option maxRecDepth 100000 in
set_option maxHeartbeats 4000000 in
theorem m_X1_takeBack {Γ : fGm} (hI : fI Γ) (l : Launch) {b1 : Nat} (h1 : fD b1 = (3, 0, 0)) {σ : fS} {r : Int32} {σ' : fS} (hf : f_X1_takeBack b1 σ = some (r, σ')) : Met l yX1_takeBack (.code yX1_takeBack cX1_takeBack 2 (some .int) :: lw_g) ({ frames := 3, cells := 0, slots := 0, locals := 82 } : Room) (fPre Γ [.ref (Γ.1 46), .ref (Γ.1 b1)] σ) (fQi Γ r σ') 0 0 (fAd Γ) := by
  refine fl_enter (own := RX1) hI (by decide +kernel) rfl (Nat.le_of_ble_eq_true rfl) ?_
  intro p e s m args below meth c ls C hl hP hS
  have hl : lv_has ls 2 [(0, .ref (Γ.1 46)), (1, .ref (Γ.1 b1))] := hl
  obtain ⟨H, hH⟩ : ∃ H, H = s.heap := ⟨_, rfl⟩
  obtain ⟨locs, hL⟩ : ∃ L : List Loc, L = [] := ⟨_, rfl⟩
  have hP : fH Γ σ H := by rw [hH]; exact hP
  have hS : va_S (fAd Γ) s.heap H locs := by rw [hH, hL]; exact hS
  suffices hw : W p l e ({ frames := 3, cells := 0, slots := 0, locals := 82 } : Room) s m args below meth c H locs 0 0 (MQ below (fQi Γ r σ') args s 0 0 (fAd Γ)) (F0 m 0 ls []) by rw [hH, hL] at hw; exact hw
  unfold f_X1_takeBack at hf
  refine lv_aload_n C.1 C.2.1 (kd kX1_takeBack_0 0 rfl) rfl (lv_at hl 0 rfl) ?_
  refine fl_get (j := 2) (v := .int (σ 46 2)) C hP rfl (Nat.le_of_ble_eq_true rfl) rfl inX1 (Nat.le_of_ble_eq_true rfl) tw_161 rfl (kd kX1_takeBack_0 1 rfl) ?_
  refine lv_if_ne (tgt := 11) C.1 C.2.1 (kd kX1_takeBack_0 2 rfl) (by decide) (fun q => ?_) (fun q => ?_)
  · have hf := fif_neg q hf
    refine lv_aload_n C.1 C.2.1 (kd kX1_takeBack_0 5 rfl) rfl (lv_at hl 0 rfl) ?_
    refine lv_dup C.1 C.2.1 (kd kX1_takeBack_0 6 rfl) rfl ?_
    refine fl_get (j := 2) (v := .int (σ 46 2)) C hP rfl (Nat.le_of_ble_eq_true rfl) rfl inX1 (Nat.le_of_ble_eq_true rfl) tw_161 rfl (kd kX1_takeBack_0 7 rfl) ?_
    refine lv_iconst (v := (1 : Int32)) C.1 C.2.1 (kd kX1_takeBack_0 8 rfl) (by decide) ?_
    refine lv_isub C.1 C.2.1 (kd kX1_takeBack_0 9 rfl) ?_
    obtain ⟨σ1, eσ1, hf⟩ := fL_some hf
    refine fl_put (j := 2) C hP hS rfl rfl (Nat.le_of_ble_eq_true rfl) rfl inX1 tyX1 tyX1_ok nmX1 (Nat.le_of_ble_eq_true rfl) tw_161 rfl rfl rfl (Nat.le_of_ble_eq_true rfl) (kd kX1_takeBack_0 10 rfl) (fun H locs hP hS => ?_)
    have hP : fH Γ σ1 H := by rw [eσ1]; exact hP
    refine lv_aload_n C.1 C.2.1 (kd kX1_takeBack_0 11 rfl) rfl (lv_at hl 0 rfl) ?_
    refine lv_aload_n C.1 C.2.1 (kd kX1_takeBack_0 12 rfl) rfl (lv_at hl 0 rfl) ?_
    refine fl_get (j := 1) (v := .int (σ1 46 1)) C hP rfl (Nat.le_of_ble_eq_true rfl) rfl inX1 (Nat.le_of_ble_eq_true rfl) tw_160 rfl (kd kX1_takeBack_0 13 rfl) ?_
    refine lv_bipush (v := (6 : Int32)) C.1 C.2.1 (kd kX1_takeBack_0 14 rfl) (by decide) ?_
    refine lv_iadd C.1 C.2.1 (kd kX1_takeBack_0 15 rfl) ?_
    refine lv_iconst (v := (1 : Int32)) C.1 C.2.1 (kd kX1_takeBack_0 16 rfl) (by decide) ?_
    refine lv_isub C.1 C.2.1 (kd kX1_takeBack_0 17 rfl) ?_
    refine lv_bipush (v := (6 : Int32)) C.1 C.2.1 (kd kX1_takeBack_0 18 rfl) (by decide) ?_
    refine lv_irem C.1 C.2.1 (kd kX1_takeBack_0 19 rfl) (by decide) ?_
    obtain ⟨σ2, eσ2, hf⟩ := fL_some hf
    refine fl_put (j := 1) C hP hS rfl rfl (Nat.le_of_ble_eq_true rfl) rfl inX1 tyX1 tyX1_ok nmX1 (Nat.le_of_ble_eq_true rfl) tw_160 rfl rfl rfl (Nat.le_of_ble_eq_true rfl) (kd kX1_takeBack_0 20 rfl) (fun H locs hP hS => ?_)
    have hP : fH Γ σ2 H := by rw [eσ2]; exact hP
    refine lv_aload_n C.1 C.2.1 (kd kX1_takeBack_0 21 rfl) rfl (lv_at hl 1 rfl) ?_
    refine lv_aload_n C.1 C.2.1 (kd kX1_takeBack_0 22 rfl) rfl (lv_at hl 0 rfl) ?_
    refine fl_get (j := 0) (v := .ref (Γ.1 47)) C hP rfl (Nat.le_of_ble_eq_true rfl) rfl inX1 (Nat.le_of_ble_eq_true rfl) tw_159 rfl (kd kX1_takeBack_0 23 rfl) ?_
    refine lv_aload_n C.1 C.2.1 (kd kX1_takeBack_0 24 rfl) rfl (lv_at hl 0 rfl) ?_
    refine fl_get (j := 1) (v := .int (σ2 46 1)) C hP rfl (Nat.le_of_ble_eq_true rfl) rfl inX1 (Nat.le_of_ble_eq_true rfl) tw_160 rfl (kd kX1_takeBack_0 25 rfl) ?_
    obtain ⟨hq, hf⟩ := fb_some hf
    have hp3 : fD (48 + 15 * (σ2 46 1).toNatClampNeg) = (3, 0, 0) := fD_ear hq
    refine fl_aald C hP hq (kd kX1_takeBack_0 26 rfl) ?_
    obtain ⟨σ4, hσ4, hf⟩ := fcallv_some hf
    refine fl_v hS (fl_runV (As := [.ref (Γ.1 (48 + 15 * (σ2 46 1).toNatClampNeg))]) (rest := []) C hP (fe_P h1) (fD_lt h1) rfl (m_X3_copyFrom C.2.2.2.2.2.2.2.2 l h1 hp3 hσ4) (fgV tw_356 tw_316 tw_317 tw_68 tw_318) hd_X3_copyFrom ⟨rfl, rfl, Nat.le_of_ble_eq_true rfl, Nat.le_of_ble_eq_true rfl⟩ rfl hl.1 rfl (Nat.le_of_ble_eq_true rfl) (kd kX1_takeBack_0 27 rfl)) (fun H locs hP hS => ?_)
    refine lv_aload_n C.1 C.2.1 (kd kX1_takeBack_0 28 rfl) rfl (lv_at hl 0 rfl) ?_
    refine fl_get (j := 2) (v := .int (σ4 46 2)) C hP rfl (Nat.le_of_ble_eq_true rfl) rfl inX1 (Nat.le_of_ble_eq_true rfl) tw_161 rfl (kd kX1_takeBack_0 29 rfl) ?_
    exact fl_iret C hP hS hf (kd kX1_takeBack_0 30 rfl)
  have hf := fif_pos q hf
  refine lv_sipush (v := (-10004 : Int32)) C.1 C.2.1 (kd kX1_takeBack_0 3 rfl) (by decide) ?_
  exact fl_iret C hP hS hf (kd kX1_takeBack_0 4 rfl)
def f_X1_forget (σ : fS) : Option (fS) := fL (fu σ 46 2 (0 : Int32)) (fun σ1 => some σ1)
set_option maxRecDepth 100000 in
set_option maxHeartbeats 4000000 in
theorem m_X1_forget {Γ : fGm} (hI : fI Γ) (l : Launch) {σ : fS} {σ' : fS} (hf : f_X1_forget  σ = some σ') : Met l yX1_forget (.code yX1_forget cX1_forget 1 none :: lw_g) ({ frames := 0, cells := 0, slots := 0, locals := 0 } : Room) (fPre Γ [.ref (Γ.1 46)] σ) (fQv Γ σ') 0 0 (fAd Γ) := by
  refine fl_enter (own := RX1) hI (by decide +kernel) rfl (Nat.le_of_ble_eq_true rfl) ?_
  intro p e s m args below meth c ls C hl hP hS
  have hl : lv_has ls 1 [(0, .ref (Γ.1 46))] := hl
  obtain ⟨H, hH⟩ : ∃ H, H = s.heap := ⟨_, rfl⟩
  obtain ⟨locs, hL⟩ : ∃ L : List Loc, L = [] := ⟨_, rfl⟩
  have hP : fH Γ σ H := by rw [hH]; exact hP
  have hS : va_S (fAd Γ) s.heap H locs := by rw [hH, hL]; exact hS
  suffices hw : W p l e ({ frames := 0, cells := 0, slots := 0, locals := 0 } : Room) s m args below meth c H locs 0 0 (MQ below (fQv Γ σ') args s 0 0 (fAd Γ)) (F0 m 0 ls []) by rw [hH, hL] at hw; exact hw
  unfold f_X1_forget at hf
  refine lv_aload_n C.1 C.2.1 (kd kX1_forget_0 0 rfl) rfl (lv_at hl 0 rfl) ?_
  refine lv_iconst (v := (0 : Int32)) C.1 C.2.1 (kd kX1_forget_0 1 rfl) (by decide) ?_
  obtain ⟨σ1, eσ1, hf⟩ := fL_some hf
  refine fl_put (j := 2) C hP hS rfl rfl (Nat.le_of_ble_eq_true rfl) rfl inX1 tyX1 tyX1_ok nmX1 (Nat.le_of_ble_eq_true rfl) tw_161 rfl rfl rfl (Nat.le_of_ble_eq_true rfl) (kd kX1_forget_0 2 rfl) (fun H locs hP hS => ?_)
  have hP : fH Γ σ1 H := by rw [eσ1]; exact hP
  exact fl_vret C hP hS hf (kd kX1_forget_0 3 rfl)
def f_X4_hasPlace (x1 : Int32) (x2 : Int32) (σ : fS) : Option (Int32 × fS) := (if x1 < 0 then some ((0 : Int32), σ) else (if (3 : Int32) ≤ x1 then some ((0 : Int32), σ) else (if x2 < 0 then some ((0 : Int32), σ) else (if (3 : Int32) ≤ x2 then some ((0 : Int32), σ) else some ((1 : Int32), σ)))))
set_option maxRecDepth 100000 in
set_option maxHeartbeats 4000000 in
theorem m_X4_hasPlace {Γ : fGm} (hI : fI Γ) (l : Launch) {x1 : Int32} {x2 : Int32} {σ : fS} {r : Int32} {σ' : fS} (hf : f_X4_hasPlace x1 x2 σ = some (r, σ')) : Met l yX4_hasPlace (.code yX4_hasPlace cX4_hasPlace 3 (some .boolean) :: lw_g) ({ frames := 0, cells := 0, slots := 0, locals := 0 } : Room) (fPre Γ [.ref (Γ.1 161), .int x1, .int x2] σ) (fQi Γ r σ') 0 0 (fAd Γ) := by
  refine fl_enter (own := RX4) hI (by decide +kernel) rfl (Nat.le_of_ble_eq_true rfl) ?_
  intro p e s m args below meth c ls C hl hP hS
  have hl : lv_has ls 3 [(0, .ref (Γ.1 161)), (1, .int x1), (2, .int x2)] := hl
  obtain ⟨H, hH⟩ : ∃ H, H = s.heap := ⟨_, rfl⟩
  obtain ⟨locs, hL⟩ : ∃ L : List Loc, L = [] := ⟨_, rfl⟩
  have hP : fH Γ σ H := by rw [hH]; exact hP
  have hS : va_S (fAd Γ) s.heap H locs := by rw [hH, hL]; exact hS
  suffices hw : W p l e ({ frames := 0, cells := 0, slots := 0, locals := 0 } : Room) s m args below meth c H locs 0 0 (MQ below (fQi Γ r σ') args s 0 0 (fAd Γ)) (F0 m 0 ls []) by rw [hH, hL] at hw; exact hw
  unfold f_X4_hasPlace at hf
  refine lv_iload_n C.1 C.2.1 (kd kX4_hasPlace_0 0 rfl) rfl (lv_at hl 1 rfl) ?_
  refine lv_if_lt (tgt := 22) C.1 C.2.1 (kd kX4_hasPlace_0 1 rfl) (by decide) (fun q => ?_) (fun q => ?_)
  · have hf := fif_pos q hf
    refine lv_iconst (v := (0 : Int32)) C.1 C.2.1 (kd kX4_hasPlace_0 12 rfl) (by decide) ?_
    exact fl_zret C hP hS rfl hf (kd kX4_hasPlace_0 13 rfl)
  have hf := fif_neg q hf
  refine lv_iload_n C.1 C.2.1 (kd kX4_hasPlace_0 2 rfl) rfl (lv_at hl 1 rfl) ?_
  refine lv_iconst (v := (3 : Int32)) C.1 C.2.1 (kd kX4_hasPlace_0 3 rfl) (by decide) ?_
  refine lv_icmp_ge (tgt := 22) C.1 C.2.1 (kd kX4_hasPlace_0 4 rfl) (by decide) (fun q => ?_) (fun q => ?_)
  · have hf := fif_pos q hf
    refine lv_iconst (v := (0 : Int32)) C.1 C.2.1 (kd kX4_hasPlace_0 12 rfl) (by decide) ?_
    exact fl_zret C hP hS rfl hf (kd kX4_hasPlace_0 13 rfl)
  have hf := fif_neg q hf
  refine lv_iload_n C.1 C.2.1 (kd kX4_hasPlace_0 5 rfl) rfl (lv_at hl 2 rfl) ?_
  refine lv_if_lt (tgt := 22) C.1 C.2.1 (kd kX4_hasPlace_0 6 rfl) (by decide) (fun q => ?_) (fun q => ?_)
  · have hf := fif_pos q hf
    refine lv_iconst (v := (0 : Int32)) C.1 C.2.1 (kd kX4_hasPlace_0 12 rfl) (by decide) ?_
    exact fl_zret C hP hS rfl hf (kd kX4_hasPlace_0 13 rfl)
  have hf := fif_neg q hf
  refine lv_iload_n C.1 C.2.1 (kd kX4_hasPlace_0 7 rfl) rfl (lv_at hl 2 rfl) ?_
  refine lv_iconst (v := (3 : Int32)) C.1 C.2.1 (kd kX4_hasPlace_0 8 rfl) (by decide) ?_
  refine lv_icmp_ge (tgt := 22) C.1 C.2.1 (kd kX4_hasPlace_0 9 rfl) (by decide) (fun q => ?_) (fun q => ?_)
  · have hf := fif_pos q hf
    refine lv_iconst (v := (0 : Int32)) C.1 C.2.1 (kd kX4_hasPlace_0 12 rfl) (by decide) ?_
    exact fl_zret C hP hS rfl hf (kd kX4_hasPlace_0 13 rfl)
  have hf := fif_neg q hf
  refine lv_iconst (v := (1 : Int32)) C.1 C.2.1 (kd kX4_hasPlace_0 10 rfl) (by decide) ?_
  refine lv_goto (tgt := 23) C.1 C.2.1 (kd kX4_hasPlace_0 11 rfl) (by decide) ?_
  exact fl_zret C hP hS rfl hf (kd kX4_hasPlace_0 13 rfl)
def f_X4_kindAt (x1 : Int32) (x2 : Int32) (σ : fS) : Option (Int32 × fS) := fcall (f_X5_at 162 9 5 ((x1 * (3 : Int32)) + x2) (4 : Int32) σ) (fun r1_ σ1 => some (r1_, σ1))
set_option maxRecDepth 100000 in
set_option maxHeartbeats 4000000 in
theorem m_X4_kindAt {Γ : fGm} (hI : fI Γ) (l : Launch) {x1 : Int32} {x2 : Int32} {σ : fS} {r : Int32} {σ' : fS} (hf : f_X4_kindAt x1 x2 σ = some (r, σ')) : Met l yX4_kindAt (.code yX4_kindAt cX4_kindAt 3 (some .int) :: lw_g) ({ frames := 1, cells := 0, slots := 0, locals := 22 } : Room) (fPre Γ [.ref (Γ.1 161), .int x1, .int x2] σ) (fQi Γ r σ') 0 0 (fAd Γ) := by
  refine fl_enter (own := RX4) hI (by decide +kernel) rfl (Nat.le_of_ble_eq_true rfl) ?_
  intro p e s m args below meth c ls C hl hP hS
  have hl : lv_has ls 3 [(0, .ref (Γ.1 161)), (1, .int x1), (2, .int x2)] := hl
  obtain ⟨H, hH⟩ : ∃ H, H = s.heap := ⟨_, rfl⟩
  obtain ⟨locs, hL⟩ : ∃ L : List Loc, L = [] := ⟨_, rfl⟩
  have hP : fH Γ σ H := by rw [hH]; exact hP
  have hS : va_S (fAd Γ) s.heap H locs := by rw [hH, hL]; exact hS
  suffices hw : W p l e ({ frames := 1, cells := 0, slots := 0, locals := 22 } : Room) s m args below meth c H locs 0 0 (MQ below (fQi Γ r σ') args s 0 0 (fAd Γ)) (F0 m 0 ls []) by rw [hH, hL] at hw; exact hw
  unfold f_X4_kindAt at hf
  refine lv_aload_n C.1 C.2.1 (kd kX4_kindAt_0 0 rfl) rfl (lv_at hl 0 rfl) ?_
  refine fl_get (j := 0) (v := .ref (Γ.1 162)) C hP rfl (Nat.le_of_ble_eq_true rfl) rfl inX4 (Nat.le_of_ble_eq_true rfl) tw_279 rfl (kd kX4_kindAt_0 1 rfl) ?_
  refine lv_iload_n C.1 C.2.1 (kd kX4_kindAt_0 2 rfl) rfl (lv_at hl 1 rfl) ?_
  refine lv_iconst (v := (3 : Int32)) C.1 C.2.1 (kd kX4_kindAt_0 3 rfl) (by decide) ?_
  refine lv_imul C.1 C.2.1 (kd kX4_kindAt_0 4 rfl) ?_
  refine lv_iload_n C.1 C.2.1 (kd kX4_kindAt_0 5 rfl) rfl (lv_at hl 2 rfl) ?_
  refine lv_iadd C.1 C.2.1 (kd kX4_kindAt_0 6 rfl) ?_
  refine lv_iconst (v := (4 : Int32)) C.1 C.2.1 (kd kX4_kindAt_0 7 rfl) (by decide) ?_
  obtain ⟨r1_, σ1, hσ1, hf⟩ := fcall_some hf
  refine fl_i hS (fl_runV (As := [.int ((x1 * (3 : Int32)) + x2), .int (4 : Int32)]) (rest := []) C hP rfl (Nat.le_of_ble_eq_true rfl) rfl (m_X5_at C.2.2.2.2.2.2.2.2 l rfl hσ1) (fgV tw_820 tw_418 tw_419 tw_69 tw_420) hd_X5_at ⟨rfl, rfl, Nat.le_of_ble_eq_true rfl, Nat.le_of_ble_eq_true rfl⟩ rfl hl.1 rfl (Nat.le_of_ble_eq_true rfl) (kd kX4_kindAt_0 8 rfl)) (fun H locs hP hS => ?_)
  exact fl_iret C hP hS hf (kd kX4_kindAt_0 9 rfl)
def f_X4_countFilled_b24 (K4 : Int32 → Int32 → Int32 → fS → Option (Int32 × fS)) (v1 : Int32) (v2 : Int32) (v3 : Int32) (σ : fS) : Option (Int32 × fS) := K4 (v1) (v2) ((v3 + (1 : Int32))) σ
set_option maxRecDepth 100000 in
set_option maxHeartbeats 4000000 in
theorem w_X4_countFilled_b24 {r : Int32} {σ' : fS} {K4 : Int32 → Int32 → Int32 → fS → Option (Int32 × fS)}  (C : fC Γ p s m args meth c cX4_countFilled (some .int) RX4 4) (hK4 : ∀ (v1 : Int32) (v2 : Int32) (v3 : Int32) (σ : fS) (H : Heap) (locs : List Loc) (ls : Array Slot), K4 v1 v2 v3 σ = some (r, σ') → fH Γ σ H → va_S (fAd Γ) s.heap H locs → lv_has ls 4 [(0, .ref (Γ.1 161)), (1, .int v1), (2, .int v2), (3, .int v3)] → W p l e ({ frames := 2, cells := 0, slots := 0, locals := 44 } : Room) s m args below meth c H locs 0 0 (MQ below (fQi Γ r σ') args s 0 0 (fAd Γ)) (F0 m 4 ls [])) : ∀ (v1 : Int32) (v2 : Int32) (v3 : Int32) (σ : fS) (H : Heap) (locs : List Loc) (ls : Array Slot), f_X4_countFilled_b24 K4 v1 v2 v3 σ = some (r, σ') → fH Γ σ H → va_S (fAd Γ) s.heap H locs → lv_has ls 4 [(0, .ref (Γ.1 161)), (1, .int v1), (2, .int v2), (3, .int v3)] → W p l e ({ frames := 2, cells := 0, slots := 0, locals := 44 } : Room) s m args below meth c H locs 0 0 (MQ below (fQi Γ r σ') args s 0 0 (fAd Γ)) (F0 m 24 ls []) := by
  intro v1 v2 v3 σ H locs ls hf hP hS hl
  unfold f_X4_countFilled_b24 at hf
  refine lv_iinc (v := (v3 + (1 : Int32))) (lv' := [(3, .int (v3 + (1 : Int32))), (0, .ref (Γ.1 161)), (1, .int v1), (2, .int v2)]) C.1 C.2.1 (kd kX4_countFilled_0 14 rfl) hl (k := 3) rfl rfl (Nat.le_of_ble_eq_true rfl) rfl (fun ls hl => ?_)
  refine lv_goto (tgt := 4) C.1 C.2.1 (kd kX4_countFilled_0 15 rfl) (by decide) ?_
  exact hK4 (v1) (v2) ((v3 + (1 : Int32))) σ H locs ls hf hP hS (lv_sub hl [1, 2, 3, 0] rfl)
def f_X4_countFilled_b4 : Nat → Int32 → Int32 → Int32 → fS → Option (Int32 × fS)
  | 0, _, _, _, _ => none
  | n_ + 1, v1, v2, v3, σ => (if (3 : Int32) ≤ v3 then some (v2, σ) else fcall (f_X4_kindAt v1 v3 σ) (fun r1_ σ1 => (if r1_ = (-10004 : Int32) then f_X4_countFilled_b24 (fun v1 v2 v3 σ => f_X4_countFilled_b4 n_ v1 v2 v3 σ) (v1) (v2) (v3) σ1 else f_X4_countFilled_b24 (fun v1 v2 v3 σ => f_X4_countFilled_b4 n_ v1 v2 v3 σ) (v1) ((v2 + (1 : Int32))) (v3) σ1)))
set_option maxRecDepth 100000 in
set_option maxHeartbeats 4000000 in
theorem w_X4_countFilled_b4 {r : Int32} {σ' : fS}  (C : fC Γ p s m args meth c cX4_countFilled (some .int) RX4 4) : ∀ (n_ : Nat) (v1 : Int32) (v2 : Int32) (v3 : Int32) (σ : fS) (H : Heap) (locs : List Loc) (ls : Array Slot), f_X4_countFilled_b4 n_ v1 v2 v3 σ = some (r, σ') → fH Γ σ H → va_S (fAd Γ) s.heap H locs → lv_has ls 4 [(0, .ref (Γ.1 161)), (1, .int v1), (2, .int v2), (3, .int v3)] → W p l e ({ frames := 2, cells := 0, slots := 0, locals := 44 } : Room) s m args below meth c H locs 0 0 (MQ below (fQi Γ r σ') args s 0 0 (fAd Γ)) (F0 m 4 ls []) := by
  intro n_
  induction n_ with
  | zero =>
    intro v1 v2 v3 σ H locs ls hf
    cases hf
  | succ n_ ih =>
    intro v1 v2 v3 σ H locs ls hf hP hS hl
    have hf : (if (3 : Int32) ≤ v3 then some (v2, σ) else fcall (f_X4_kindAt v1 v3 σ) (fun r1_ σ1 => (if r1_ = (-10004 : Int32) then f_X4_countFilled_b24 (fun v1 v2 v3 σ => f_X4_countFilled_b4 n_ v1 v2 v3 σ) (v1) (v2) (v3) σ1 else f_X4_countFilled_b24 (fun v1 v2 v3 σ => f_X4_countFilled_b4 n_ v1 v2 v3 σ) (v1) ((v2 + (1 : Int32))) (v3) σ1))) = some (r, σ') := hf
    have hK4 := ih
    refine lv_iload_n C.1 C.2.1 (kd kX4_countFilled_0 4 rfl) rfl (lv_at hl 3 rfl) ?_
    refine lv_iconst (v := (3 : Int32)) C.1 C.2.1 (kd kX4_countFilled_0 5 rfl) (by decide) ?_
    refine lv_icmp_ge (tgt := 30) C.1 C.2.1 (kd kX4_countFilled_0 6 rfl) (by decide) (fun q => ?_) (fun q => ?_)
    · have hf := fif_pos q hf
      refine lv_iload_n C.1 C.2.1 (kd kX4_countFilled_0 16 rfl) rfl (lv_at hl 2 rfl) ?_
      exact fl_iret C hP hS hf (kd kX4_countFilled_0 17 rfl)
    have hf := fif_neg q hf
    refine lv_aload_n C.1 C.2.1 (kd kX4_countFilled_0 7 rfl) rfl (lv_at hl 0 rfl) ?_
    refine lv_iload_n C.1 C.2.1 (kd kX4_countFilled_0 8 rfl) rfl (lv_at hl 1 rfl) ?_
    refine lv_iload_n C.1 C.2.1 (kd kX4_countFilled_0 9 rfl) rfl (lv_at hl 3 rfl) ?_
    obtain ⟨r1_, σ1, hσ1, hf⟩ := fcall_some hf
    refine fl_i hS (fl_runV (As := [.int v1, .int v3]) (rest := []) C hP rfl (Nat.le_of_ble_eq_true rfl) rfl (m_X4_kindAt C.2.2.2.2.2.2.2.2 l  hσ1) (fgV tw_825 tw_826 tw_827 tw_74 tw_828) hd_X4_kindAt ⟨rfl, rfl, Nat.le_of_ble_eq_true rfl, Nat.le_of_ble_eq_true rfl⟩ rfl hl.1 rfl (Nat.le_of_ble_eq_true rfl) (kd kX4_countFilled_0 10 rfl)) (fun H locs hP hS => ?_)
    refine lv_sipush (v := (-10004 : Int32)) C.1 C.2.1 (kd kX4_countFilled_0 11 rfl) (by decide) ?_
    refine lv_icmp_eq (tgt := 24) C.1 C.2.1 (kd kX4_countFilled_0 12 rfl) (by decide) (fun q => ?_) (fun q => ?_)
    · have hf := fif_pos q hf
      exact w_X4_countFilled_b24 C hK4 (v1) (v2) (v3) σ1 H locs ls hf hP hS (lv_sub hl [0, 1, 2, 3] rfl)
    have hf := fif_neg q hf
    refine lv_iinc (v := (v2 + (1 : Int32))) (lv' := [(2, .int (v2 + (1 : Int32))), (0, .ref (Γ.1 161)), (1, .int v1), (3, .int v3)]) C.1 C.2.1 (kd kX4_countFilled_0 13 rfl) hl (k := 2) rfl rfl (Nat.le_of_ble_eq_true rfl) rfl (fun ls hl => ?_)
    exact w_X4_countFilled_b24 C hK4 (v1) ((v2 + (1 : Int32))) (v3) σ1 H locs ls hf hP hS (lv_sub hl [1, 2, 0, 3] rfl)
def f_X4_countFilled (x1 : Int32) (σ : fS) : Option (Int32 × fS) := f_X4_countFilled_b4 fN (x1) ((0 : Int32)) ((0 : Int32)) σ
set_option maxRecDepth 100000 in
set_option maxHeartbeats 4000000 in
theorem m_X4_countFilled {Γ : fGm} (hI : fI Γ) (l : Launch) {x1 : Int32} {σ : fS} {r : Int32} {σ' : fS} (hf : f_X4_countFilled x1 σ = some (r, σ')) : Met l yX4_countFilled (.code yX4_countFilled cX4_countFilled 4 (some .int) :: lw_g) ({ frames := 2, cells := 0, slots := 0, locals := 44 } : Room) (fPre Γ [.ref (Γ.1 161), .int x1] σ) (fQi Γ r σ') 0 0 (fAd Γ) := by
  refine fl_enter (own := RX4) hI (by decide +kernel) rfl (Nat.le_of_ble_eq_true rfl) ?_
  intro p e s m args below meth c ls C hl hP hS
  have hl : lv_has ls 4 [(0, .ref (Γ.1 161)), (1, .int x1)] := hl
  obtain ⟨H, hH⟩ : ∃ H, H = s.heap := ⟨_, rfl⟩
  obtain ⟨locs, hL⟩ : ∃ L : List Loc, L = [] := ⟨_, rfl⟩
  have hP : fH Γ σ H := by rw [hH]; exact hP
  have hS : va_S (fAd Γ) s.heap H locs := by rw [hH, hL]; exact hS
  suffices hw : W p l e ({ frames := 2, cells := 0, slots := 0, locals := 44 } : Room) s m args below meth c H locs 0 0 (MQ below (fQi Γ r σ') args s 0 0 (fAd Γ)) (F0 m 0 ls []) by rw [hH, hL] at hw; exact hw
  unfold f_X4_countFilled at hf
  refine lv_iconst (v := (0 : Int32)) C.1 C.2.1 (kd kX4_countFilled_0 0 rfl) (by decide) ?_
  refine lv_istore_n (lv' := [(2, .int (0 : Int32)), (0, .ref (Γ.1 161)), (1, .int x1)]) C.1 C.2.1 (kd kX4_countFilled_0 1 rfl) rfl hl (Nat.le_of_ble_eq_true rfl) rfl (fun ls hl => ?_)
  refine lv_iconst (v := (0 : Int32)) C.1 C.2.1 (kd kX4_countFilled_0 2 rfl) (by decide) ?_
  refine lv_istore_n (lv' := [(3, .int (0 : Int32)), (2, .int (0 : Int32)), (0, .ref (Γ.1 161)), (1, .int x1)]) C.1 C.2.1 (kd kX4_countFilled_0 3 rfl) rfl hl (Nat.le_of_ble_eq_true rfl) rfl (fun ls hl => ?_)
  exact w_X4_countFilled_b4 C fN (x1) ((0 : Int32)) ((0 : Int32)) σ H locs ls hf hP hS (lv_sub hl [2, 3, 1, 0] rfl)
def f_X4_lay_b25 (t4 r4 w4 : Nat) : Nat → Int32 → Int32 → Int32 → Int32 → Int32 → fS → Option (Int32 × fS)
  | 0, _, _, _, _, _, _ => none
  | n_ + 1, v1, v2, v3, v5, v6, σ => (if (4 : Int32) ≤ v6 then fcallv (f_X5_put 162 9 5 ((v1 * (3 : Int32)) + v2) (4 : Int32) v3 σ) (fun σ1 => fcall (f_X4_countFilled v1 σ1) (fun r2_ σ2 => some (r2_, σ2))) else fcall (f_X5_at t4 r4 w4 v5 v6 σ) (fun r3_ σ3 => fcallv (f_X5_put 162 9 5 ((v1 * (3 : Int32)) + v2) v6 r3_ σ3) (fun σ4 => (fun v1 v2 v3 v5 v6 σ => f_X4_lay_b25 t4 r4 w4 n_ v1 v2 v3 v5 v6 σ) (v1) (v2) (v3) (v5) ((v6 + (1 : Int32))) σ4)))
set_option maxRecDepth 100000 in
set_option maxHeartbeats 4000000 in
theorem w_X4_lay_b25 {t4 r4 w4 : Nat} {r : Int32} {σ' : fS} (h4 : fD t4 = (2, r4, w4))  (C : fC Γ p s m args meth c cX4_lay (some .int) RX4 7) : ∀ (n_ : Nat) (v1 : Int32) (v2 : Int32) (v3 : Int32) (v5 : Int32) (v6 : Int32) (σ : fS) (H : Heap) (locs : List Loc) (ls : Array Slot), f_X4_lay_b25 t4 r4 w4 n_ v1 v2 v3 v5 v6 σ = some (r, σ') → fH Γ σ H → va_S (fAd Γ) s.heap H locs → lv_has ls 7 [(0, .ref (Γ.1 161)), (1, .int v1), (2, .int v2), (3, .int v3), (4, .ref (Γ.1 t4)), (5, .int v5), (6, .int v6)] → W p l e ({ frames := 3, cells := 0, slots := 0, locals := 67 } : Room) s m args below meth c H locs 0 0 (MQ below (fQi Γ r σ') args s 0 0 (fAd Γ)) (F0 m 25 ls []) := by
  intro n_
  induction n_ with
  | zero =>
    intro v1 v2 v3 v5 v6 σ H locs ls hf
    cases hf
  | succ n_ ih =>
    intro v1 v2 v3 v5 v6 σ H locs ls hf hP hS hl
    have hf : (if (4 : Int32) ≤ v6 then fcallv (f_X5_put 162 9 5 ((v1 * (3 : Int32)) + v2) (4 : Int32) v3 σ) (fun σ1 => fcall (f_X4_countFilled v1 σ1) (fun r2_ σ2 => some (r2_, σ2))) else fcall (f_X5_at t4 r4 w4 v5 v6 σ) (fun r3_ σ3 => fcallv (f_X5_put 162 9 5 ((v1 * (3 : Int32)) + v2) v6 r3_ σ3) (fun σ4 => (fun v1 v2 v3 v5 v6 σ => f_X4_lay_b25 t4 r4 w4 n_ v1 v2 v3 v5 v6 σ) (v1) (v2) (v3) (v5) ((v6 + (1 : Int32))) σ4))) = some (r, σ') := hf
    have hK25 := ih
    refine lv_iload C.1 C.2.1 (kd kX4_lay_0 14 rfl) (lv_at hl 6 rfl) ?_
    refine lv_iconst (v := (4 : Int32)) C.1 C.2.1 (kd kX4_lay_0 15 rfl) (by decide) ?_
    refine lv_icmp_ge (tgt := 60) C.1 C.2.1 (kd kX4_lay_0 16 rfl) (by decide) (fun q => ?_) (fun q => ?_)
    · have hf := fif_pos q hf
      refine lv_aload_n C.1 C.2.1 (kd kX4_lay_0 32 rfl) rfl (lv_at hl 0 rfl) ?_
      refine fl_get (j := 0) (v := .ref (Γ.1 162)) C hP rfl (Nat.le_of_ble_eq_true rfl) rfl inX4 (Nat.le_of_ble_eq_true rfl) tw_279 rfl (kd kX4_lay_0 33 rfl) ?_
      refine lv_iload_n C.1 C.2.1 (kd kX4_lay_0 34 rfl) rfl (lv_at hl 1 rfl) ?_
      refine lv_iconst (v := (3 : Int32)) C.1 C.2.1 (kd kX4_lay_0 35 rfl) (by decide) ?_
      refine lv_imul C.1 C.2.1 (kd kX4_lay_0 36 rfl) ?_
      refine lv_iload_n C.1 C.2.1 (kd kX4_lay_0 37 rfl) rfl (lv_at hl 2 rfl) ?_
      refine lv_iadd C.1 C.2.1 (kd kX4_lay_0 38 rfl) ?_
      refine lv_iconst (v := (4 : Int32)) C.1 C.2.1 (kd kX4_lay_0 39 rfl) (by decide) ?_
      refine lv_iload_n C.1 C.2.1 (kd kX4_lay_0 40 rfl) rfl (lv_at hl 3 rfl) ?_
      obtain ⟨σ1, hσ1, hf⟩ := fcallv_some hf
      refine fl_v hS (fl_runV (As := [.int ((v1 * (3 : Int32)) + v2), .int (4 : Int32), .int v3]) (rest := []) C hP rfl (Nat.le_of_ble_eq_true rfl) rfl (m_X5_put C.2.2.2.2.2.2.2.2 l rfl hσ1) (fgV tw_275 tw_276 tw_277 tw_69 tw_278) hd_X5_put ⟨rfl, rfl, Nat.le_of_ble_eq_true rfl, Nat.le_of_ble_eq_true rfl⟩ rfl hl.1 rfl (Nat.le_of_ble_eq_true rfl) (kd kX4_lay_0 41 rfl)) (fun H locs hP hS => ?_)
      refine lv_aload_n C.1 C.2.1 (kd kX4_lay_0 42 rfl) rfl (lv_at hl 0 rfl) ?_
      refine lv_iload_n C.1 C.2.1 (kd kX4_lay_0 43 rfl) rfl (lv_at hl 1 rfl) ?_
      obtain ⟨r2_, σ2, hσ2, hf⟩ := fcall_some hf
      refine fl_i hS (fl_runV (As := [.int v1]) (rest := []) C hP rfl (Nat.le_of_ble_eq_true rfl) rfl (m_X4_countFilled C.2.2.2.2.2.2.2.2 l  hσ2) (fgV tw_821 tw_823 tw_19 tw_74 tw_824) hd_X4_countFilled ⟨rfl, rfl, Nat.le_of_ble_eq_true rfl, Nat.le_of_ble_eq_true rfl⟩ rfl hl.1 rfl (Nat.le_of_ble_eq_true rfl) (kd kX4_lay_0 44 rfl)) (fun H locs hP hS => ?_)
      exact fl_iret C hP hS hf (kd kX4_lay_0 45 rfl)
    have hf := fif_neg q hf
    refine lv_aload_n C.1 C.2.1 (kd kX4_lay_0 17 rfl) rfl (lv_at hl 0 rfl) ?_
    refine fl_get (j := 0) (v := .ref (Γ.1 162)) C hP rfl (Nat.le_of_ble_eq_true rfl) rfl inX4 (Nat.le_of_ble_eq_true rfl) tw_279 rfl (kd kX4_lay_0 18 rfl) ?_
    refine lv_iload_n C.1 C.2.1 (kd kX4_lay_0 19 rfl) rfl (lv_at hl 1 rfl) ?_
    refine lv_iconst (v := (3 : Int32)) C.1 C.2.1 (kd kX4_lay_0 20 rfl) (by decide) ?_
    refine lv_imul C.1 C.2.1 (kd kX4_lay_0 21 rfl) ?_
    refine lv_iload_n C.1 C.2.1 (kd kX4_lay_0 22 rfl) rfl (lv_at hl 2 rfl) ?_
    refine lv_iadd C.1 C.2.1 (kd kX4_lay_0 23 rfl) ?_
    refine lv_iload C.1 C.2.1 (kd kX4_lay_0 24 rfl) (lv_at hl 6 rfl) ?_
    refine lv_aload C.1 C.2.1 (kd kX4_lay_0 25 rfl) (lv_at hl 4 rfl) ?_
    refine lv_iload C.1 C.2.1 (kd kX4_lay_0 26 rfl) (lv_at hl 5 rfl) ?_
    refine lv_iload C.1 C.2.1 (kd kX4_lay_0 27 rfl) (lv_at hl 6 rfl) ?_
    obtain ⟨r3_, σ3, hσ3, hf⟩ := fcall_some hf
    refine fl_i hS (fl_runV (As := [.int v5, .int v6]) (rest := [.int v6, .int ((v1 * (3 : Int32)) + v2), .ref (Γ.1 162)]) C hP (fe_T h4) (fD_lt h4) rfl (m_X5_at C.2.2.2.2.2.2.2.2 l h4 hσ3) (fgV tw_820 tw_418 tw_419 tw_69 tw_420) hd_X5_at ⟨rfl, rfl, Nat.le_of_ble_eq_true rfl, Nat.le_of_ble_eq_true rfl⟩ rfl hl.1 rfl (Nat.le_of_ble_eq_true rfl) (kd kX4_lay_0 28 rfl)) (fun H locs hP hS => ?_)
    obtain ⟨σ4, hσ4, hf⟩ := fcallv_some hf
    refine fl_v hS (fl_runV (As := [.int ((v1 * (3 : Int32)) + v2), .int v6, .int r3_]) (rest := []) C hP rfl (Nat.le_of_ble_eq_true rfl) rfl (m_X5_put C.2.2.2.2.2.2.2.2 l rfl hσ4) (fgV tw_275 tw_276 tw_277 tw_69 tw_278) hd_X5_put ⟨rfl, rfl, Nat.le_of_ble_eq_true rfl, Nat.le_of_ble_eq_true rfl⟩ rfl hl.1 rfl (Nat.le_of_ble_eq_true rfl) (kd kX4_lay_0 29 rfl)) (fun H locs hP hS => ?_)
    refine lv_iinc (v := (v6 + (1 : Int32))) (lv' := [(6, .int (v6 + (1 : Int32))), (0, .ref (Γ.1 161)), (1, .int v1), (2, .int v2), (3, .int v3), (4, .ref (Γ.1 t4)), (5, .int v5)]) C.1 C.2.1 (kd kX4_lay_0 30 rfl) hl (k := 6) rfl rfl (Nat.le_of_ble_eq_true rfl) rfl (fun ls hl => ?_)
    refine lv_goto (tgt := 25) C.1 C.2.1 (kd kX4_lay_0 31 rfl) (by decide) ?_
    exact hK25 (v1) (v2) (v3) (v5) ((v6 + (1 : Int32))) σ4 H locs ls hf hP hS (lv_sub hl [1, 2, 3, 4, 5, 6, 0] rfl)
def f_X4_lay_b22 (t4 r4 w4 : Nat) (v1 : Int32) (v2 : Int32) (v3 : Int32) (v5 : Int32) (σ : fS) : Option (Int32 × fS) := f_X4_lay_b25 t4 r4 w4 fN (v1) (v2) (v3) (v5) ((0 : Int32)) σ
set_option maxRecDepth 100000 in
set_option maxHeartbeats 4000000 in
theorem w_X4_lay_b22 {t4 r4 w4 : Nat} {r : Int32} {σ' : fS} (h4 : fD t4 = (2, r4, w4))  (C : fC Γ p s m args meth c cX4_lay (some .int) RX4 7) : ∀ (v1 : Int32) (v2 : Int32) (v3 : Int32) (v5 : Int32) (σ : fS) (H : Heap) (locs : List Loc) (ls : Array Slot), f_X4_lay_b22 t4 r4 w4 v1 v2 v3 v5 σ = some (r, σ') → fH Γ σ H → va_S (fAd Γ) s.heap H locs → lv_has ls 7 [(0, .ref (Γ.1 161)), (1, .int v1), (2, .int v2), (3, .int v3), (4, .ref (Γ.1 t4)), (5, .int v5)] → W p l e ({ frames := 3, cells := 0, slots := 0, locals := 67 } : Room) s m args below meth c H locs 0 0 (MQ below (fQi Γ r σ') args s 0 0 (fAd Γ)) (F0 m 22 ls []) := by
  intro v1 v2 v3 v5 σ H locs ls hf hP hS hl
  unfold f_X4_lay_b22 at hf
  refine lv_iconst (v := (0 : Int32)) C.1 C.2.1 (kd kX4_lay_0 12 rfl) (by decide) ?_
  refine lv_istore (lv' := [(6, .int (0 : Int32)), (0, .ref (Γ.1 161)), (1, .int v1), (2, .int v2), (3, .int v3), (4, .ref (Γ.1 t4)), (5, .int v5)]) C.1 C.2.1 (kd kX4_lay_0 13 rfl) hl (Nat.le_of_ble_eq_true rfl) rfl (fun ls hl => ?_)
  exact w_X4_lay_b25 h4 C fN (v1) (v2) (v3) (v5) ((0 : Int32)) σ H locs ls hf hP hS (lv_sub hl [1, 2, 3, 4, 5, 6, 0] rfl)
def f_X4_lay_b8 (t4 r4 w4 : Nat) (v1 : Int32) (v2 : Int32) (v3 : Int32) (v5 : Int32) (σ : fS) : Option (Int32 × fS) := (if v1 = (1 : Int32) then (if v3 = (1 : Int32) then f_X4_lay_b22 t4 r4 w4 (v1) (v2) (v3) (v5) σ else some ((-10006 : Int32), σ)) else f_X4_lay_b22 t4 r4 w4 (v1) (v2) (v3) (v5) σ)
set_option maxRecDepth 100000 in
set_option maxHeartbeats 4000000 in
theorem w_X4_lay_b8 {t4 r4 w4 : Nat} {r : Int32} {σ' : fS} (h4 : fD t4 = (2, r4, w4))  (C : fC Γ p s m args meth c cX4_lay (some .int) RX4 7) : ∀ (v1 : Int32) (v2 : Int32) (v3 : Int32) (v5 : Int32) (σ : fS) (H : Heap) (locs : List Loc) (ls : Array Slot), f_X4_lay_b8 t4 r4 w4 v1 v2 v3 v5 σ = some (r, σ') → fH Γ σ H → va_S (fAd Γ) s.heap H locs → lv_has ls 7 [(0, .ref (Γ.1 161)), (1, .int v1), (2, .int v2), (3, .int v3), (4, .ref (Γ.1 t4)), (5, .int v5)] → W p l e ({ frames := 3, cells := 0, slots := 0, locals := 67 } : Room) s m args below meth c H locs 0 0 (MQ below (fQi Γ r σ') args s 0 0 (fAd Γ)) (F0 m 8 ls []) := by
  intro v1 v2 v3 v5 σ H locs ls hf hP hS hl
  unfold f_X4_lay_b8 at hf
  refine lv_iload_n C.1 C.2.1 (kd kX4_lay_0 4 rfl) rfl (lv_at hl 1 rfl) ?_
  refine lv_iconst (v := (1 : Int32)) C.1 C.2.1 (kd kX4_lay_0 5 rfl) (by decide) ?_
  refine lv_icmp_ne (tgt := 22) C.1 C.2.1 (kd kX4_lay_0 6 rfl) (by decide) (fun q => ?_) (fun q => ?_)
  · have hf := fif_neg q hf
    exact w_X4_lay_b22 h4 C (v1) (v2) (v3) (v5) σ H locs ls hf hP hS (lv_sub hl [0, 1, 2, 3, 4, 5] rfl)
  have hf := fif_pos q hf
  refine lv_iload_n C.1 C.2.1 (kd kX4_lay_0 7 rfl) rfl (lv_at hl 3 rfl) ?_
  refine lv_iconst (v := (1 : Int32)) C.1 C.2.1 (kd kX4_lay_0 8 rfl) (by decide) ?_
  refine lv_icmp_eq (tgt := 22) C.1 C.2.1 (kd kX4_lay_0 9 rfl) (by decide) (fun q => ?_) (fun q => ?_)
  · have hf := fif_pos q hf
    exact w_X4_lay_b22 h4 C (v1) (v2) (v3) (v5) σ H locs ls hf hP hS (lv_sub hl [0, 1, 2, 3, 4, 5] rfl)
  have hf := fif_neg q hf
  refine lv_sipush (v := (-10006 : Int32)) C.1 C.2.1 (kd kX4_lay_0 10 rfl) (by decide) ?_
  exact fl_iret C hP hS hf (kd kX4_lay_0 11 rfl)
def f_X4_lay (x1 : Int32) (x2 : Int32) (x3 : Int32) (t4 r4 w4 : Nat) (x5 : Int32) (σ : fS) : Option (Int32 × fS) := (if x1 = 0 then (if x3 = 0 then f_X4_lay_b8 t4 r4 w4 (x1) (x2) (x3) (x5) σ else some ((-10006 : Int32), σ)) else f_X4_lay_b8 t4 r4 w4 (x1) (x2) (x3) (x5) σ)
set_option maxRecDepth 100000 in
set_option maxHeartbeats 4000000 in
theorem m_X4_lay {Γ : fGm} (hI : fI Γ) (l : Launch) {x1 : Int32} {x2 : Int32} {x3 : Int32} {t4 r4 w4 : Nat} {x5 : Int32} (h4 : fD t4 = (2, r4, w4)) {σ : fS} {r : Int32} {σ' : fS} (hf : f_X4_lay x1 x2 x3 t4 r4 w4 x5 σ = some (r, σ')) : Met l yX4_lay (.code yX4_lay cX4_lay 7 (some .int) :: lw_g) ({ frames := 3, cells := 0, slots := 0, locals := 67 } : Room) (fPre Γ [.ref (Γ.1 161), .int x1, .int x2, .int x3, .ref (Γ.1 t4), .int x5] σ) (fQi Γ r σ') 0 0 (fAd Γ) := by
  refine fl_enter (own := RX4) hI (by decide +kernel) rfl (Nat.le_of_ble_eq_true rfl) ?_
  intro p e s m args below meth c ls C hl hP hS
  have hl : lv_has ls 7 [(0, .ref (Γ.1 161)), (1, .int x1), (2, .int x2), (3, .int x3), (4, .ref (Γ.1 t4)), (5, .int x5)] := hl
  obtain ⟨H, hH⟩ : ∃ H, H = s.heap := ⟨_, rfl⟩
  obtain ⟨locs, hL⟩ : ∃ L : List Loc, L = [] := ⟨_, rfl⟩
  have hP : fH Γ σ H := by rw [hH]; exact hP
  have hS : va_S (fAd Γ) s.heap H locs := by rw [hH, hL]; exact hS
  suffices hw : W p l e ({ frames := 3, cells := 0, slots := 0, locals := 67 } : Room) s m args below meth c H locs 0 0 (MQ below (fQi Γ r σ') args s 0 0 (fAd Γ)) (F0 m 0 ls []) by rw [hH, hL] at hw; exact hw
  unfold f_X4_lay at hf
  refine lv_iload_n C.1 C.2.1 (kd kX4_lay_0 0 rfl) rfl (lv_at hl 1 rfl) ?_
  refine lv_if_ne (tgt := 8) C.1 C.2.1 (kd kX4_lay_0 1 rfl) (by decide) (fun q => ?_) (fun q => ?_)
  · have hf := fif_neg q hf
    exact w_X4_lay_b8 h4 C (x1) (x2) (x3) (x5) σ H locs ls hf hP hS (lv_sub hl [0, 1, 2, 3, 4, 5] rfl)
  have hf := fif_pos q hf
  refine lv_iload_n C.1 C.2.1 (kd kX4_lay_0 2 rfl) rfl (lv_at hl 3 rfl) ?_
  refine lv_if_ne (tgt := 18) C.1 C.2.1 (kd kX4_lay_0 3 rfl) (by decide) (fun q => ?_) (fun q => ?_)
  · have hf := fif_neg q hf
    refine lv_sipush (v := (-10006 : Int32)) C.1 C.2.1 (kd kX4_lay_0 10 rfl) (by decide) ?_
    exact fl_iret C hP hS hf (kd kX4_lay_0 11 rfl)
  have hf := fif_pos q hf
  exact w_X4_lay_b8 h4 C (x1) (x2) (x3) (x5) σ H locs ls hf hP hS (lv_sub hl [0, 1, 2, 3, 4, 5] rfl)
def f_X4_addCopyTo (b1 : Nat) (x2 : Int32) (x3 : Int32) (σ : fS) : Option (Int32 × fS) := fcall (f_X5_at 162 9 5 ((x2 * (3 : Int32)) + x3) (4 : Int32) σ) (fun r1_ σ1 => (if r1_ = (0 : Int32) then fcall (f_X5_at 162 9 5 ((x2 * (3 : Int32)) + x3) (0 : Int32) σ1) (fun r2_ σ2 => fcall (f_X5_at 162 9 5 ((x2 * (3 : Int32)) + x3) (1 : Int32) σ2) (fun r3_ σ3 => fcall (f_X5_at 162 9 5 ((x2 * (3 : Int32)) + x3) (2 : Int32) σ3) (fun r4_ σ4 => fcall (f_X5_at 162 9 5 ((x2 * (3 : Int32)) + x3) (3 : Int32) σ4) (fun r5_ σ5 => fcall (f_X3_enterShip b1 r2_ r3_ r4_ r5_ σ5) (fun r6_ σ6 => some (r6_, σ6)))))) else if r1_ = (1 : Int32) then fcall (f_X5_at 162 9 5 ((x2 * (3 : Int32)) + x3) (0 : Int32) σ1) (fun r7_ σ7 => fcall (f_X5_at 162 9 5 ((x2 * (3 : Int32)) + x3) (1 : Int32) σ7) (fun r8_ σ8 => fcall (f_X3_enterBerth b1 r7_ r8_ σ8) (fun r9_ σ9 => some (r9_, σ9)))) else some ((-10004 : Int32), σ1)))
set_option maxRecDepth 100000 in
set_option maxHeartbeats 4000000 in
theorem m_X4_addCopyTo {Γ : fGm} (hI : fI Γ) (l : Launch) {b1 : Nat} {x2 : Int32} {x3 : Int32} (h1 : fD b1 = (3, 0, 0)) {σ : fS} {r : Int32} {σ' : fS} (hf : f_X4_addCopyTo b1 x2 x3 σ = some (r, σ')) : Met l yX4_addCopyTo (.code yX4_addCopyTo cX4_addCopyTo 5 (some .int) :: lw_g) ({ frames := 3, cells := 0, slots := 0, locals := 72 } : Room) (fPre Γ [.ref (Γ.1 161), .ref (Γ.1 b1), .int x2, .int x3] σ) (fQi Γ r σ') 0 0 (fAd Γ) := by
  refine fl_enter (own := RX4) hI (by decide +kernel) rfl (Nat.le_of_ble_eq_true rfl) ?_
  intro p e s m args below meth c ls C hl hP hS
  have hl : lv_has ls 5 [(0, .ref (Γ.1 161)), (1, .ref (Γ.1 b1)), (2, .int x2), (3, .int x3)] := hl
  obtain ⟨H, hH⟩ : ∃ H, H = s.heap := ⟨_, rfl⟩
  obtain ⟨locs, hL⟩ : ∃ L : List Loc, L = [] := ⟨_, rfl⟩
  have hP : fH Γ σ H := by rw [hH]; exact hP
  have hS : va_S (fAd Γ) s.heap H locs := by rw [hH, hL]; exact hS
  suffices hw : W p l e ({ frames := 3, cells := 0, slots := 0, locals := 72 } : Room) s m args below meth c H locs 0 0 (MQ below (fQi Γ r σ') args s 0 0 (fAd Γ)) (F0 m 0 ls []) by rw [hH, hL] at hw; exact hw
  unfold f_X4_addCopyTo at hf
  refine lv_iload_n C.1 C.2.1 (kd kX4_addCopyTo_0 0 rfl) rfl (lv_at hl 2 rfl) ?_
  refine lv_iconst (v := (3 : Int32)) C.1 C.2.1 (kd kX4_addCopyTo_0 1 rfl) (by decide) ?_
  refine lv_imul C.1 C.2.1 (kd kX4_addCopyTo_0 2 rfl) ?_
  refine lv_iload_n C.1 C.2.1 (kd kX4_addCopyTo_0 3 rfl) rfl (lv_at hl 3 rfl) ?_
  refine lv_iadd C.1 C.2.1 (kd kX4_addCopyTo_0 4 rfl) ?_
  refine lv_istore (lv' := [(4, .int ((x2 * (3 : Int32)) + x3)), (0, .ref (Γ.1 161)), (1, .ref (Γ.1 b1)), (2, .int x2), (3, .int x3)]) C.1 C.2.1 (kd kX4_addCopyTo_0 5 rfl) hl (Nat.le_of_ble_eq_true rfl) rfl (fun ls hl => ?_)
  refine lv_aload_n C.1 C.2.1 (kd kX4_addCopyTo_0 6 rfl) rfl (lv_at hl 1 rfl) ?_
  refine fl_get (j := 0) (v := .ref (Γ.1 162)) C hP rfl (Nat.le_of_ble_eq_true rfl) rfl inX4 (Nat.le_of_ble_eq_true rfl) tw_279 rfl (kd kX4_addCopyTo_0 7 rfl) ?_
  refine lv_iload C.1 C.2.1 (kd kX4_addCopyTo_0 8 rfl) (lv_at hl 0 rfl) ?_
  refine lv_iconst (v := (4 : Int32)) C.1 C.2.1 (kd kX4_addCopyTo_0 9 rfl) (by decide) ?_
  obtain ⟨r1_, σ1, hσ1, hf⟩ := fcall_some hf
  refine fl_i hS (fl_runV (As := [.int ((x2 * (3 : Int32)) + x3), .int (4 : Int32)]) (rest := []) C hP rfl (Nat.le_of_ble_eq_true rfl) rfl (m_X5_at C.2.2.2.2.2.2.2.2 l rfl hσ1) (fgV tw_820 tw_418 tw_419 tw_69 tw_420) hd_X5_at ⟨rfl, rfl, Nat.le_of_ble_eq_true rfl, Nat.le_of_ble_eq_true rfl⟩ rfl hl.1 rfl (Nat.le_of_ble_eq_true rfl) (kd kX4_addCopyTo_0 10 rfl)) (fun H locs hP hS => ?_)
  by_cases q0 : r1_ = (0 : Int32)
  · have hf := fif_pos q0 hf
    refine lv_lookup (tgt := 44) C.1 C.2.1 (kd kX4_addCopyTo_0 11 rfl) (by decide) (by rw [q0] <;> rfl) (by decide) ?_
    refine lv_aload_n C.1 C.2.1 (kd kX4_addCopyTo_0 12 rfl) rfl (lv_at hl 2 rfl) ?_
    refine lv_aload_n C.1 C.2.1 (kd kX4_addCopyTo_0 13 rfl) rfl (lv_at hl 1 rfl) ?_
    refine fl_get (j := 0) (v := .ref (Γ.1 162)) C hP rfl (Nat.le_of_ble_eq_true rfl) rfl inX4 (Nat.le_of_ble_eq_true rfl) tw_279 rfl (kd kX4_addCopyTo_0 14 rfl) ?_
    refine lv_iload C.1 C.2.1 (kd kX4_addCopyTo_0 15 rfl) (lv_at hl 0 rfl) ?_
    refine lv_iconst (v := (0 : Int32)) C.1 C.2.1 (kd kX4_addCopyTo_0 16 rfl) (by decide) ?_
    obtain ⟨r2_, σ2, hσ2, hf⟩ := fcall_some hf
    refine fl_i hS (fl_runV (As := [.int ((x2 * (3 : Int32)) + x3), .int (0 : Int32)]) (rest := [.ref (Γ.1 b1)]) C hP rfl (Nat.le_of_ble_eq_true rfl) rfl (m_X5_at C.2.2.2.2.2.2.2.2 l rfl hσ2) (fgV tw_820 tw_418 tw_419 tw_69 tw_420) hd_X5_at ⟨rfl, rfl, Nat.le_of_ble_eq_true rfl, Nat.le_of_ble_eq_true rfl⟩ rfl hl.1 rfl (Nat.le_of_ble_eq_true rfl) (kd kX4_addCopyTo_0 17 rfl)) (fun H locs hP hS => ?_)
    refine lv_aload_n C.1 C.2.1 (kd kX4_addCopyTo_0 18 rfl) rfl (lv_at hl 1 rfl) ?_
    refine fl_get (j := 0) (v := .ref (Γ.1 162)) C hP rfl (Nat.le_of_ble_eq_true rfl) rfl inX4 (Nat.le_of_ble_eq_true rfl) tw_279 rfl (kd kX4_addCopyTo_0 19 rfl) ?_
    refine lv_iload C.1 C.2.1 (kd kX4_addCopyTo_0 20 rfl) (lv_at hl 0 rfl) ?_
    refine lv_iconst (v := (1 : Int32)) C.1 C.2.1 (kd kX4_addCopyTo_0 21 rfl) (by decide) ?_
    obtain ⟨r3_, σ3, hσ3, hf⟩ := fcall_some hf
    refine fl_i hS (fl_runV (As := [.int ((x2 * (3 : Int32)) + x3), .int (1 : Int32)]) (rest := [.int r2_, .ref (Γ.1 b1)]) C hP rfl (Nat.le_of_ble_eq_true rfl) rfl (m_X5_at C.2.2.2.2.2.2.2.2 l rfl hσ3) (fgV tw_820 tw_418 tw_419 tw_69 tw_420) hd_X5_at ⟨rfl, rfl, Nat.le_of_ble_eq_true rfl, Nat.le_of_ble_eq_true rfl⟩ rfl hl.1 rfl (Nat.le_of_ble_eq_true rfl) (kd kX4_addCopyTo_0 22 rfl)) (fun H locs hP hS => ?_)
    refine lv_aload_n C.1 C.2.1 (kd kX4_addCopyTo_0 23 rfl) rfl (lv_at hl 1 rfl) ?_
    refine fl_get (j := 0) (v := .ref (Γ.1 162)) C hP rfl (Nat.le_of_ble_eq_true rfl) rfl inX4 (Nat.le_of_ble_eq_true rfl) tw_279 rfl (kd kX4_addCopyTo_0 24 rfl) ?_
    refine lv_iload C.1 C.2.1 (kd kX4_addCopyTo_0 25 rfl) (lv_at hl 0 rfl) ?_
    refine lv_iconst (v := (2 : Int32)) C.1 C.2.1 (kd kX4_addCopyTo_0 26 rfl) (by decide) ?_
    obtain ⟨r4_, σ4, hσ4, hf⟩ := fcall_some hf
    refine fl_i hS (fl_runV (As := [.int ((x2 * (3 : Int32)) + x3), .int (2 : Int32)]) (rest := [.int r3_, .int r2_, .ref (Γ.1 b1)]) C hP rfl (Nat.le_of_ble_eq_true rfl) rfl (m_X5_at C.2.2.2.2.2.2.2.2 l rfl hσ4) (fgV tw_820 tw_418 tw_419 tw_69 tw_420) hd_X5_at ⟨rfl, rfl, Nat.le_of_ble_eq_true rfl, Nat.le_of_ble_eq_true rfl⟩ rfl hl.1 rfl (Nat.le_of_ble_eq_true rfl) (kd kX4_addCopyTo_0 27 rfl)) (fun H locs hP hS => ?_)
    refine lv_aload_n C.1 C.2.1 (kd kX4_addCopyTo_0 28 rfl) rfl (lv_at hl 1 rfl) ?_
    refine fl_get (j := 0) (v := .ref (Γ.1 162)) C hP rfl (Nat.le_of_ble_eq_true rfl) rfl inX4 (Nat.le_of_ble_eq_true rfl) tw_279 rfl (kd kX4_addCopyTo_0 29 rfl) ?_
    refine lv_iload C.1 C.2.1 (kd kX4_addCopyTo_0 30 rfl) (lv_at hl 0 rfl) ?_
    refine lv_iconst (v := (3 : Int32)) C.1 C.2.1 (kd kX4_addCopyTo_0 31 rfl) (by decide) ?_
    obtain ⟨r5_, σ5, hσ5, hf⟩ := fcall_some hf
    refine fl_i hS (fl_runV (As := [.int ((x2 * (3 : Int32)) + x3), .int (3 : Int32)]) (rest := [.int r4_, .int r3_, .int r2_, .ref (Γ.1 b1)]) C hP rfl (Nat.le_of_ble_eq_true rfl) rfl (m_X5_at C.2.2.2.2.2.2.2.2 l rfl hσ5) (fgV tw_820 tw_418 tw_419 tw_69 tw_420) hd_X5_at ⟨rfl, rfl, Nat.le_of_ble_eq_true rfl, Nat.le_of_ble_eq_true rfl⟩ rfl hl.1 rfl (Nat.le_of_ble_eq_true rfl) (kd kX4_addCopyTo_0 32 rfl)) (fun H locs hP hS => ?_)
    obtain ⟨r6_, σ6, hσ6, hf⟩ := fcall_some hf
    refine fl_i hS (fl_runV (As := [.int r2_, .int r3_, .int r4_, .int r5_]) (rest := []) C hP (fe_P h1) (fD_lt h1) rfl (m_X3_enterShip C.2.2.2.2.2.2.2.2 l h1 hσ6) (fgV tw_837 tw_330 tw_331 tw_68 tw_332) hd_X3_enterShip ⟨rfl, rfl, Nat.le_of_ble_eq_true rfl, Nat.le_of_ble_eq_true rfl⟩ rfl hl.1 rfl (Nat.le_of_ble_eq_true rfl) (kd kX4_addCopyTo_0 33 rfl)) (fun H locs hP hS => ?_)
    exact fl_iret C hP hS hf (kd kX4_addCopyTo_0 34 rfl)
  have hf := fif_neg q0 hf
  have z0 : ¬ r1_.toInt = 0 := fi_ne q0 (by decide)
  by_cases q1 : r1_ = (1 : Int32)
  · have hf := fif_pos q1 hf
    refine lv_lookup (tgt := 89) C.1 C.2.1 (kd kX4_addCopyTo_0 11 rfl) (by decide) (by rw [q1] <;> rfl) (by decide) ?_
    refine lv_aload_n C.1 C.2.1 (kd kX4_addCopyTo_0 35 rfl) rfl (lv_at hl 2 rfl) ?_
    refine lv_aload_n C.1 C.2.1 (kd kX4_addCopyTo_0 36 rfl) rfl (lv_at hl 1 rfl) ?_
    refine fl_get (j := 0) (v := .ref (Γ.1 162)) C hP rfl (Nat.le_of_ble_eq_true rfl) rfl inX4 (Nat.le_of_ble_eq_true rfl) tw_279 rfl (kd kX4_addCopyTo_0 37 rfl) ?_
    refine lv_iload C.1 C.2.1 (kd kX4_addCopyTo_0 38 rfl) (lv_at hl 0 rfl) ?_
    refine lv_iconst (v := (0 : Int32)) C.1 C.2.1 (kd kX4_addCopyTo_0 39 rfl) (by decide) ?_
    obtain ⟨r7_, σ7, hσ7, hf⟩ := fcall_some hf
    refine fl_i hS (fl_runV (As := [.int ((x2 * (3 : Int32)) + x3), .int (0 : Int32)]) (rest := [.ref (Γ.1 b1)]) C hP rfl (Nat.le_of_ble_eq_true rfl) rfl (m_X5_at C.2.2.2.2.2.2.2.2 l rfl hσ7) (fgV tw_820 tw_418 tw_419 tw_69 tw_420) hd_X5_at ⟨rfl, rfl, Nat.le_of_ble_eq_true rfl, Nat.le_of_ble_eq_true rfl⟩ rfl hl.1 rfl (Nat.le_of_ble_eq_true rfl) (kd kX4_addCopyTo_0 40 rfl)) (fun H locs hP hS => ?_)
    refine lv_aload_n C.1 C.2.1 (kd kX4_addCopyTo_0 41 rfl) rfl (lv_at hl 1 rfl) ?_
    refine fl_get (j := 0) (v := .ref (Γ.1 162)) C hP rfl (Nat.le_of_ble_eq_true rfl) rfl inX4 (Nat.le_of_ble_eq_true rfl) tw_279 rfl (kd kX4_addCopyTo_0 42 rfl) ?_
    refine lv_iload C.1 C.2.1 (kd kX4_addCopyTo_0 43 rfl) (lv_at hl 0 rfl) ?_
    refine lv_iconst (v := (1 : Int32)) C.1 C.2.1 (kd kX4_addCopyTo_0 44 rfl) (by decide) ?_
    obtain ⟨r8_, σ8, hσ8, hf⟩ := fcall_some hf
    refine fl_i hS (fl_runV (As := [.int ((x2 * (3 : Int32)) + x3), .int (1 : Int32)]) (rest := [.int r7_, .ref (Γ.1 b1)]) C hP rfl (Nat.le_of_ble_eq_true rfl) rfl (m_X5_at C.2.2.2.2.2.2.2.2 l rfl hσ8) (fgV tw_820 tw_418 tw_419 tw_69 tw_420) hd_X5_at ⟨rfl, rfl, Nat.le_of_ble_eq_true rfl, Nat.le_of_ble_eq_true rfl⟩ rfl hl.1 rfl (Nat.le_of_ble_eq_true rfl) (kd kX4_addCopyTo_0 45 rfl)) (fun H locs hP hS => ?_)
    obtain ⟨r9_, σ9, hσ9, hf⟩ := fcall_some hf
    refine fl_i hS (fl_runV (As := [.int r7_, .int r8_]) (rest := []) C hP (fe_P h1) (fD_lt h1) rfl (m_X3_enterBerth C.2.2.2.2.2.2.2.2 l h1 hσ9) (fgV tw_838 tw_363 tw_364 tw_68 tw_365) hd_X3_enterBerth ⟨rfl, rfl, Nat.le_of_ble_eq_true rfl, Nat.le_of_ble_eq_true rfl⟩ rfl hl.1 rfl (Nat.le_of_ble_eq_true rfl) (kd kX4_addCopyTo_0 46 rfl)) (fun H locs hP hS => ?_)
    exact fl_iret C hP hS hf (kd kX4_addCopyTo_0 47 rfl)
  have hf := fif_neg q1 hf
  have z1 : ¬ r1_.toInt = 1 := fi_ne q1 (by decide)
  refine lv_lookup (tgt := 114) C.1 C.2.1 (kd kX4_addCopyTo_0 11 rfl) (by decide) (by show Op.lookupswitch.offset [(0, 27), (1, 72)] 97 _ = 97; rw [Op.lookupswitch.offset_cons, if_neg (fun z => z0 z.symm), Op.lookupswitch.offset_cons, if_neg (fun z => z1 z.symm), Op.lookupswitch.offset_nil]) (by decide) ?_
  refine lv_sipush (v := (-10004 : Int32)) C.1 C.2.1 (kd kX4_addCopyTo_0 48 rfl) (by decide) ?_
  exact fl_iret C hP hS hf (kd kX4_addCopyTo_0 49 rfl)
end GM

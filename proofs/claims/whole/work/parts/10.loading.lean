section GM
variable {p : Program} {l : Launch} {e : Env} {s : State} {m : MethodId} {args : Array Value} {below : List Frame} {meth : Method} {c : Code} {Γ : fGm}
def f_X2_emptyLanes_b2 (b1 : Nat) : Nat → Int32 → Int32 → fS → Option (fS)
  | 0, _, _, _ => none
  | n_ + 1, v2, v3, σ => (if (4 : Int32) ≤ v3 then some σ else fcall (f_X3_laneLengthOf b1 v2 σ) (fun r1_ σ1 => fb ((v2 * (4 : Int32)) + v3) 48 (fL (fu σ1 147 ((v2 * (4 : Int32)) + v3).toNatClampNeg r1_) (fun σ2 => fb ((v2 * (4 : Int32)) + v3) 48 (fL (fu σ2 150 ((v2 * (4 : Int32)) + v3).toNatClampNeg (0 : Int32)) (fun σ3 => (fun v2 v3 σ => f_X2_emptyLanes_b2 b1 n_ v2 v3 σ) (v2) ((v3 + (1 : Int32))) σ3))))))
set_option maxRecDepth 100000 in
set_option maxHeartbeats 4000000 in
theorem w_X2_emptyLanes_b2 {b1 : Nat} {σ' : fS} (h1 : fD b1 = (3, 0, 0))  (C : fC Γ p s m args meth c cX2_emptyLanes none RX2 4) : ∀ (n_ : Nat) (v2 : Int32) (v3 : Int32) (σ : fS) (H : Heap) (locs : List Loc) (ls : Array Slot), f_X2_emptyLanes_b2 b1 n_ v2 v3 σ = some σ' → fH Γ σ H → va_S (fAd Γ) s.heap H locs → lv_has ls 4 [(0, .ref (Γ.1 145)), (1, .ref (Γ.1 b1)), (2, .int v2), (3, .int v3)] → W p l e ({ frames := 2, cells := 0, slots := 0, locals := 43 } : Room) s m args below meth c H locs 0 0 (MQ below (fQv Γ σ') args s 0 0 (fAd Γ)) (F0 m 2 ls []) := by
  intro n_
  induction n_ with
  | zero =>
    intro v2 v3 σ H locs ls hf
    cases hf
  | succ n_ ih =>
    intro v2 v3 σ H locs ls hf hP hS hl
    have hf : (if (4 : Int32) ≤ v3 then some σ else fcall (f_X3_laneLengthOf b1 v2 σ) (fun r1_ σ1 => fb ((v2 * (4 : Int32)) + v3) 48 (fL (fu σ1 147 ((v2 * (4 : Int32)) + v3).toNatClampNeg r1_) (fun σ2 => fb ((v2 * (4 : Int32)) + v3) 48 (fL (fu σ2 150 ((v2 * (4 : Int32)) + v3).toNatClampNeg (0 : Int32)) (fun σ3 => (fun v2 v3 σ => f_X2_emptyLanes_b2 b1 n_ v2 v3 σ) (v2) ((v3 + (1 : Int32))) σ3)))))) = some σ' := hf
    have hK2 := ih
    refine lv_iload_n C.1 C.2.1 (kd kX2_emptyLanes_0 2 rfl) rfl (lv_at hl 3 rfl) ?_
    refine lv_iconst (v := (4 : Int32)) C.1 C.2.1 (kd kX2_emptyLanes_0 3 rfl) (by decide) ?_
    refine lv_icmp_ge (tgt := 39) C.1 C.2.1 (kd kX2_emptyLanes_0 4 rfl) (by decide) (fun q => ?_) (fun q => ?_)
    · have hf := fif_pos q hf
      exact fl_vret C hP hS hf (kd kX2_emptyLanes_0 27 rfl)
    have hf := fif_neg q hf
    refine lv_aload_n C.1 C.2.1 (kd kX2_emptyLanes_0 5 rfl) rfl (lv_at hl 0 rfl) ?_
    refine fl_get (j := 1) (v := .ref (Γ.1 147)) C hP rfl (Nat.le_of_ble_eq_true rfl) rfl inX2 (Nat.le_of_ble_eq_true rfl) tw_205 rfl (kd kX2_emptyLanes_0 6 rfl) ?_
    refine lv_iload_n C.1 C.2.1 (kd kX2_emptyLanes_0 7 rfl) rfl (lv_at hl 2 rfl) ?_
    refine lv_iconst (v := (4 : Int32)) C.1 C.2.1 (kd kX2_emptyLanes_0 8 rfl) (by decide) ?_
    refine lv_imul C.1 C.2.1 (kd kX2_emptyLanes_0 9 rfl) ?_
    refine lv_iload_n C.1 C.2.1 (kd kX2_emptyLanes_0 10 rfl) rfl (lv_at hl 3 rfl) ?_
    refine lv_iadd C.1 C.2.1 (kd kX2_emptyLanes_0 11 rfl) ?_
    refine lv_aload_n C.1 C.2.1 (kd kX2_emptyLanes_0 12 rfl) rfl (lv_at hl 1 rfl) ?_
    refine lv_iload_n C.1 C.2.1 (kd kX2_emptyLanes_0 13 rfl) rfl (lv_at hl 2 rfl) ?_
    obtain ⟨r1_, σ1, hσ1, hf⟩ := fcall_some hf
    refine fl_i hS (fl_runV (As := [.int v2]) (rest := [.int ((v2 * (4 : Int32)) + v3), .ref (Γ.1 147)]) C hP (fe_P h1) (fD_lt h1) rfl (m_X3_laneLengthOf C.2.2.2.2.2.2.2.2 l h1 hσ1) (fgV tw_621 tw_622 tw_623 tw_68 tw_624) hd_X3_laneLengthOf ⟨rfl, rfl, Nat.le_of_ble_eq_true rfl, Nat.le_of_ble_eq_true rfl⟩ rfl hl.1 rfl (Nat.le_of_ble_eq_true rfl) (kd kX2_emptyLanes_0 14 rfl)) (fun H locs hP hS => ?_)
    obtain ⟨hq, hf⟩ := fb_some hf
    obtain ⟨σ2, eσ2, hf⟩ := fL_some hf
    refine fl_iast C hP hS rfl hq (kd kX2_emptyLanes_0 15 rfl) (fun H locs hP hS => ?_)
    have hP : fH Γ σ2 H := by rw [eσ2]; exact hP
    refine lv_aload_n C.1 C.2.1 (kd kX2_emptyLanes_0 16 rfl) rfl (lv_at hl 0 rfl) ?_
    refine fl_get (j := 4) (v := .ref (Γ.1 150)) C hP rfl (Nat.le_of_ble_eq_true rfl) rfl inX2 (Nat.le_of_ble_eq_true rfl) tw_210 rfl (kd kX2_emptyLanes_0 17 rfl) ?_
    refine lv_iload_n C.1 C.2.1 (kd kX2_emptyLanes_0 18 rfl) rfl (lv_at hl 2 rfl) ?_
    refine lv_iconst (v := (4 : Int32)) C.1 C.2.1 (kd kX2_emptyLanes_0 19 rfl) (by decide) ?_
    refine lv_imul C.1 C.2.1 (kd kX2_emptyLanes_0 20 rfl) ?_
    refine lv_iload_n C.1 C.2.1 (kd kX2_emptyLanes_0 21 rfl) rfl (lv_at hl 3 rfl) ?_
    refine lv_iadd C.1 C.2.1 (kd kX2_emptyLanes_0 22 rfl) ?_
    refine lv_iconst (v := (0 : Int32)) C.1 C.2.1 (kd kX2_emptyLanes_0 23 rfl) (by decide) ?_
    obtain ⟨hq, hf⟩ := fb_some hf
    obtain ⟨σ3, eσ3, hf⟩ := fL_some hf
    refine fl_iast C hP hS rfl hq (kd kX2_emptyLanes_0 24 rfl) (fun H locs hP hS => ?_)
    have hP : fH Γ σ3 H := by rw [eσ3]; exact hP
    refine lv_iinc (v := (v3 + (1 : Int32))) (lv' := [(3, .int (v3 + (1 : Int32))), (0, .ref (Γ.1 145)), (1, .ref (Γ.1 b1)), (2, .int v2)]) C.1 C.2.1 (kd kX2_emptyLanes_0 25 rfl) hl (k := 3) rfl rfl (Nat.le_of_ble_eq_true rfl) rfl (fun ls hl => ?_)
    refine lv_goto (tgt := 2) C.1 C.2.1 (kd kX2_emptyLanes_0 26 rfl) (by decide) ?_
    exact hK2 (v2) ((v3 + (1 : Int32))) σ3 H locs ls hf hP hS (lv_sub hl [1, 2, 3, 0] rfl)
def f_X2_emptyLanes (b1 : Nat) (x2 : Int32) (σ : fS) : Option (fS) := f_X2_emptyLanes_b2 b1 fN (x2) ((0 : Int32)) σ
set_option maxRecDepth 100000 in
set_option maxHeartbeats 4000000 in
theorem m_X2_emptyLanes {Γ : fGm} (hI : fI Γ) (l : Launch) {b1 : Nat} {x2 : Int32} (h1 : fD b1 = (3, 0, 0)) {σ : fS} {σ' : fS} (hf : f_X2_emptyLanes b1 x2 σ = some σ') : Met l yX2_emptyLanes (.code yX2_emptyLanes cX2_emptyLanes 4 none :: lw_g) ({ frames := 2, cells := 0, slots := 0, locals := 43 } : Room) (fPre Γ [.ref (Γ.1 145), .ref (Γ.1 b1), .int x2] σ) (fQv Γ σ') 0 0 (fAd Γ) := by
  refine fl_enter (own := RX2) hI (by decide +kernel) rfl (Nat.le_of_ble_eq_true rfl) ?_
  intro p e s m args below meth c ls C hl hP hS
  have hl : lv_has ls 4 [(0, .ref (Γ.1 145)), (1, .ref (Γ.1 b1)), (2, .int x2)] := hl
  obtain ⟨H, hH⟩ : ∃ H, H = s.heap := ⟨_, rfl⟩
  obtain ⟨locs, hL⟩ : ∃ L : List Loc, L = [] := ⟨_, rfl⟩
  have hP : fH Γ σ H := by rw [hH]; exact hP
  have hS : va_S (fAd Γ) s.heap H locs := by rw [hH, hL]; exact hS
  suffices hw : W p l e ({ frames := 2, cells := 0, slots := 0, locals := 43 } : Room) s m args below meth c H locs 0 0 (MQ below (fQv Γ σ') args s 0 0 (fAd Γ)) (F0 m 0 ls []) by rw [hH, hL] at hw; exact hw
  unfold f_X2_emptyLanes at hf
  refine lv_iconst (v := (0 : Int32)) C.1 C.2.1 (kd kX2_emptyLanes_0 0 rfl) (by decide) ?_
  refine lv_istore_n (lv' := [(3, .int (0 : Int32)), (0, .ref (Γ.1 145)), (1, .ref (Γ.1 b1)), (2, .int x2)]) C.1 C.2.1 (kd kX2_emptyLanes_0 1 rfl) rfl hl (Nat.le_of_ble_eq_true rfl) rfl (fun ls hl => ?_)
  exact w_X2_emptyLanes_b2 h1 C fN (x2) ((0 : Int32)) σ H locs ls hf hP hS (lv_sub hl [1, 2, 3, 0] rfl)
def f_X2_lineUp (x1 : Int32) (x2 : Int32) (σ : fS) : Option (fS) := fb x1 12 ((if (24 : Int32) ≤ (σ 146 x1.toNatClampNeg) then some σ else fb ((x1 * (24 : Int32)) + (σ 146 x1.toNatClampNeg)) 288 (fL (fu σ 149 ((x1 * (24 : Int32)) + (σ 146 x1.toNatClampNeg)).toNatClampNeg x2) (fun σ1 => fb x1 12 (fL (fu σ1 146 x1.toNatClampNeg ((σ 146 x1.toNatClampNeg) + (1 : Int32))) (fun σ2 => some σ2))))))
set_option maxRecDepth 100000 in
set_option maxHeartbeats 4000000 in
theorem m_X2_lineUp {Γ : fGm} (hI : fI Γ) (l : Launch) {x1 : Int32} {x2 : Int32} {σ : fS} {σ' : fS} (hf : f_X2_lineUp x1 x2 σ = some σ') : Met l yX2_lineUp (.code yX2_lineUp cX2_lineUp 4 none :: lw_g) ({ frames := 0, cells := 0, slots := 0, locals := 0 } : Room) (fPre Γ [.ref (Γ.1 145), .int x1, .int x2] σ) (fQv Γ σ') 0 0 (fAd Γ) := by
  refine fl_enter (own := RX2) hI (by decide +kernel) rfl (Nat.le_of_ble_eq_true rfl) ?_
  intro p e s m args below meth c ls C hl hP hS
  have hl : lv_has ls 4 [(0, .ref (Γ.1 145)), (1, .int x1), (2, .int x2)] := hl
  obtain ⟨H, hH⟩ : ∃ H, H = s.heap := ⟨_, rfl⟩
  obtain ⟨locs, hL⟩ : ∃ L : List Loc, L = [] := ⟨_, rfl⟩
  have hP : fH Γ σ H := by rw [hH]; exact hP
  have hS : va_S (fAd Γ) s.heap H locs := by rw [hH, hL]; exact hS
  suffices hw : W p l e ({ frames := 0, cells := 0, slots := 0, locals := 0 } : Room) s m args below meth c H locs 0 0 (MQ below (fQv Γ σ') args s 0 0 (fAd Γ)) (F0 m 0 ls []) by rw [hH, hL] at hw; exact hw
  unfold f_X2_lineUp at hf
  refine lv_aload_n C.1 C.2.1 (kd kX2_lineUp_0 0 rfl) rfl (lv_at hl 0 rfl) ?_
  refine fl_get (j := 0) (v := .ref (Γ.1 146)) C hP rfl (Nat.le_of_ble_eq_true rfl) rfl inX2 (Nat.le_of_ble_eq_true rfl) tw_203 rfl (kd kX2_lineUp_0 1 rfl) ?_
  refine lv_iload_n C.1 C.2.1 (kd kX2_lineUp_0 2 rfl) rfl (lv_at hl 1 rfl) ?_
  obtain ⟨hq, hf⟩ := fb_some hf
  refine fl_iald C hP rfl hq (kd kX2_lineUp_0 3 rfl) ?_
  refine lv_istore_n (lv' := [(3, .int (σ 146 x1.toNatClampNeg)), (0, .ref (Γ.1 145)), (1, .int x1), (2, .int x2)]) C.1 C.2.1 (kd kX2_lineUp_0 4 rfl) rfl hl (Nat.le_of_ble_eq_true rfl) rfl (fun ls hl => ?_)
  refine lv_iload_n C.1 C.2.1 (kd kX2_lineUp_0 5 rfl) rfl (lv_at hl 0 rfl) ?_
  refine lv_bipush (v := (24 : Int32)) C.1 C.2.1 (kd kX2_lineUp_0 6 rfl) (by decide) ?_
  refine lv_icmp_ge (tgt := 34) C.1 C.2.1 (kd kX2_lineUp_0 7 rfl) (by decide) (fun q => ?_) (fun q => ?_)
  · have hf := fif_pos q hf
    exact fl_vret C hP hS hf (kd kX2_lineUp_0 24 rfl)
  have hf := fif_neg q hf
  refine lv_aload_n C.1 C.2.1 (kd kX2_lineUp_0 8 rfl) rfl (lv_at hl 1 rfl) ?_
  refine fl_get (j := 3) (v := .ref (Γ.1 149)) C hP rfl (Nat.le_of_ble_eq_true rfl) rfl inX2 (Nat.le_of_ble_eq_true rfl) tw_209 rfl (kd kX2_lineUp_0 9 rfl) ?_
  refine lv_iload_n C.1 C.2.1 (kd kX2_lineUp_0 10 rfl) rfl (lv_at hl 2 rfl) ?_
  refine lv_bipush (v := (24 : Int32)) C.1 C.2.1 (kd kX2_lineUp_0 11 rfl) (by decide) ?_
  refine lv_imul C.1 C.2.1 (kd kX2_lineUp_0 12 rfl) ?_
  refine lv_iload_n C.1 C.2.1 (kd kX2_lineUp_0 13 rfl) rfl (lv_at hl 0 rfl) ?_
  refine lv_iadd C.1 C.2.1 (kd kX2_lineUp_0 14 rfl) ?_
  refine lv_iload_n C.1 C.2.1 (kd kX2_lineUp_0 15 rfl) rfl (lv_at hl 3 rfl) ?_
  obtain ⟨hq, hf⟩ := fb_some hf
  obtain ⟨σ1, eσ1, hf⟩ := fL_some hf
  refine fl_iast C hP hS rfl hq (kd kX2_lineUp_0 16 rfl) (fun H locs hP hS => ?_)
  have hP : fH Γ σ1 H := by rw [eσ1]; exact hP
  refine lv_aload_n C.1 C.2.1 (kd kX2_lineUp_0 17 rfl) rfl (lv_at hl 1 rfl) ?_
  refine fl_get (j := 0) (v := .ref (Γ.1 146)) C hP rfl (Nat.le_of_ble_eq_true rfl) rfl inX2 (Nat.le_of_ble_eq_true rfl) tw_203 rfl (kd kX2_lineUp_0 18 rfl) ?_
  refine lv_iload_n C.1 C.2.1 (kd kX2_lineUp_0 19 rfl) rfl (lv_at hl 2 rfl) ?_
  refine lv_iload_n C.1 C.2.1 (kd kX2_lineUp_0 20 rfl) rfl (lv_at hl 0 rfl) ?_
  refine lv_iconst (v := (1 : Int32)) C.1 C.2.1 (kd kX2_lineUp_0 21 rfl) (by decide) ?_
  refine lv_iadd C.1 C.2.1 (kd kX2_lineUp_0 22 rfl) ?_
  obtain ⟨hq, hf⟩ := fb_some hf
  obtain ⟨σ2, eσ2, hf⟩ := fL_some hf
  refine fl_iast C hP hS rfl hq (kd kX2_lineUp_0 23 rfl) (fun H locs hP hS => ?_)
  have hP : fH Γ σ2 H := by rw [eσ2]; exact hP
  exact fl_vret C hP hS hf (kd kX2_lineUp_0 24 rfl)
def f_X2_mayStand (b1 : Nat) (x2 : Int32) (x3 : Int32) (x4 : Int32) (σ : fS) : Option (Int32 × fS) := fcall (f_X5_at (b1 + 7) 24 3 x4 (2 : Int32) σ) (fun r1_ σ1 => fb ((x2 * (4 : Int32)) + x3) 48 ((if (σ1 150 ((x2 * (4 : Int32)) + x3).toNatClampNeg) = 0 then some ((1 : Int32), σ1) else fcall (f_X3_rampsOf b1 x2 σ1) (fun r2_ σ2 => (if r2_ = (1 : Int32) then fb ((x2 * (4 : Int32)) + x3) 48 ((if (σ2 151 ((x2 * (4 : Int32)) + x3).toNatClampNeg) < r1_ then some ((0 : Int32), σ2) else some ((1 : Int32), σ2))) else fb ((x2 * (4 : Int32)) + x3) 48 ((if r1_ < (σ2 151 ((x2 * (4 : Int32)) + x3).toNatClampNeg) then some ((0 : Int32), σ2) else some ((1 : Int32), σ2))))))))
set_option maxRecDepth 100000 in
set_option maxHeartbeats 4000000 in
theorem m_X2_mayStand {Γ : fGm} (hI : fI Γ) (l : Launch) {b1 : Nat} {x2 : Int32} {x3 : Int32} {x4 : Int32} (h1 : fD b1 = (3, 0, 0)) {σ : fS} {r : Int32} {σ' : fS} (hf : f_X2_mayStand b1 x2 x3 x4 σ = some (r, σ')) : Met l yX2_mayStand (.code yX2_mayStand cX2_mayStand 7 (some .boolean) :: lw_g) ({ frames := 2, cells := 0, slots := 0, locals := 43 } : Room) (fPre Γ [.ref (Γ.1 145), .ref (Γ.1 b1), .int x2, .int x3, .int x4] σ) (fQi Γ r σ') 0 0 (fAd Γ) := by
  refine fl_enter (own := RX2) hI (by decide +kernel) rfl (Nat.le_of_ble_eq_true rfl) ?_
  intro p e s m args below meth c ls C hl hP hS
  have hl : lv_has ls 7 [(0, .ref (Γ.1 145)), (1, .ref (Γ.1 b1)), (2, .int x2), (3, .int x3), (4, .int x4)] := hl
  obtain ⟨H, hH⟩ : ∃ H, H = s.heap := ⟨_, rfl⟩
  obtain ⟨locs, hL⟩ : ∃ L : List Loc, L = [] := ⟨_, rfl⟩
  have hP : fH Γ σ H := by rw [hH]; exact hP
  have hS : va_S (fAd Γ) s.heap H locs := by rw [hH, hL]; exact hS
  suffices hw : W p l e ({ frames := 2, cells := 0, slots := 0, locals := 43 } : Room) s m args below meth c H locs 0 0 (MQ below (fQi Γ r σ') args s 0 0 (fAd Γ)) (F0 m 0 ls []) by rw [hH, hL] at hw; exact hw
  unfold f_X2_mayStand at hf
  refine lv_iload_n C.1 C.2.1 (kd kX2_mayStand_0 0 rfl) rfl (lv_at hl 2 rfl) ?_
  refine lv_iconst (v := (4 : Int32)) C.1 C.2.1 (kd kX2_mayStand_0 1 rfl) (by decide) ?_
  refine lv_imul C.1 C.2.1 (kd kX2_mayStand_0 2 rfl) ?_
  refine lv_iload_n C.1 C.2.1 (kd kX2_mayStand_0 3 rfl) rfl (lv_at hl 3 rfl) ?_
  refine lv_iadd C.1 C.2.1 (kd kX2_mayStand_0 4 rfl) ?_
  refine lv_istore (lv' := [(5, .int ((x2 * (4 : Int32)) + x3)), (0, .ref (Γ.1 145)), (1, .ref (Γ.1 b1)), (2, .int x2), (3, .int x3), (4, .int x4)]) C.1 C.2.1 (kd kX2_mayStand_0 5 rfl) hl (Nat.le_of_ble_eq_true rfl) rfl (fun ls hl => ?_)
  refine lv_aload_n C.1 C.2.1 (kd kX2_mayStand_0 6 rfl) rfl (lv_at hl 2 rfl) ?_
  refine fl_get (j := 3) (v := .ref (Γ.1 (b1 + 7))) C hP (fe_P h1) (fD_lt h1) rfl inX3 (Nat.le_of_ble_eq_true rfl) tw_122 rfl (kd kX2_mayStand_0 7 rfl) ?_
  refine lv_iload C.1 C.2.1 (kd kX2_mayStand_0 8 rfl) (lv_at hl 5 rfl) ?_
  refine lv_iconst (v := (2 : Int32)) C.1 C.2.1 (kd kX2_mayStand_0 9 rfl) (by decide) ?_
  obtain ⟨r1_, σ1, hσ1, hf⟩ := fcall_some hf
  refine fl_i hS (fl_runV (As := [.int x4, .int (2 : Int32)]) (rest := []) C hP (fe_T (fD_prt h1).2.2.2.1) (fD_lt (fD_prt h1).2.2.2.1) rfl (m_X5_at C.2.2.2.2.2.2.2.2 l (fD_prt h1).2.2.2.1 hσ1) (fgV tw_625 tw_418 tw_419 tw_69 tw_420) hd_X5_at ⟨rfl, rfl, Nat.le_of_ble_eq_true rfl, Nat.le_of_ble_eq_true rfl⟩ rfl hl.1 rfl (Nat.le_of_ble_eq_true rfl) (kd kX2_mayStand_0 10 rfl)) (fun H locs hP hS => ?_)
  refine lv_istore (lv' := [(6, .int r1_), (5, .int ((x2 * (4 : Int32)) + x3)), (0, .ref (Γ.1 145)), (1, .ref (Γ.1 b1)), (2, .int x2), (3, .int x3), (4, .int x4)]) C.1 C.2.1 (kd kX2_mayStand_0 11 rfl) hl (Nat.le_of_ble_eq_true rfl) rfl (fun ls hl => ?_)
  refine lv_aload_n C.1 C.2.1 (kd kX2_mayStand_0 12 rfl) rfl (lv_at hl 2 rfl) ?_
  refine fl_get (j := 4) (v := .ref (Γ.1 150)) C hP rfl (Nat.le_of_ble_eq_true rfl) rfl inX2 (Nat.le_of_ble_eq_true rfl) tw_210 rfl (kd kX2_mayStand_0 13 rfl) ?_
  refine lv_iload C.1 C.2.1 (kd kX2_mayStand_0 14 rfl) (lv_at hl 1 rfl) ?_
  obtain ⟨hq, hf⟩ := fb_some hf
  refine fl_iald C hP rfl hq (kd kX2_mayStand_0 15 rfl) ?_
  refine lv_if_ne (tgt := 31) C.1 C.2.1 (kd kX2_mayStand_0 16 rfl) (by decide) (fun q => ?_) (fun q => ?_)
  · have hf := fif_neg q hf
    refine lv_aload_n C.1 C.2.1 (kd kX2_mayStand_0 19 rfl) rfl (lv_at hl 3 rfl) ?_
    refine lv_iload_n C.1 C.2.1 (kd kX2_mayStand_0 20 rfl) rfl (lv_at hl 4 rfl) ?_
    obtain ⟨r2_, σ2, hσ2, hf⟩ := fcall_some hf
    refine fl_i hS (fl_runV (As := [.int x2]) (rest := []) C hP (fe_P h1) (fD_lt h1) rfl (m_X3_rampsOf C.2.2.2.2.2.2.2.2 l h1 hσ2) (fgV tw_651 tw_652 tw_653 tw_68 tw_654) hd_X3_rampsOf ⟨rfl, rfl, Nat.le_of_ble_eq_true rfl, Nat.le_of_ble_eq_true rfl⟩ rfl hl.1 rfl (Nat.le_of_ble_eq_true rfl) (kd kX2_mayStand_0 21 rfl)) (fun H locs hP hS => ?_)
    refine lv_iconst (v := (1 : Int32)) C.1 C.2.1 (kd kX2_mayStand_0 22 rfl) (by decide) ?_
    refine lv_icmp_ne (tgt := 60) C.1 C.2.1 (kd kX2_mayStand_0 23 rfl) (by decide) (fun q => ?_) (fun q => ?_)
    · have hf := fif_neg q hf
      refine lv_iload C.1 C.2.1 (kd kX2_mayStand_0 34 rfl) (lv_at hl 0 rfl) ?_
      refine lv_aload_n C.1 C.2.1 (kd kX2_mayStand_0 35 rfl) rfl (lv_at hl 2 rfl) ?_
      refine fl_get (j := 5) (v := .ref (Γ.1 151)) C hP rfl (Nat.le_of_ble_eq_true rfl) rfl inX2 (Nat.le_of_ble_eq_true rfl) tw_211 rfl (kd kX2_mayStand_0 36 rfl) ?_
      refine lv_iload C.1 C.2.1 (kd kX2_mayStand_0 37 rfl) (lv_at hl 1 rfl) ?_
      obtain ⟨hq, hf⟩ := fb_some hf
      refine fl_iald C hP rfl hq (kd kX2_mayStand_0 38 rfl) ?_
      refine lv_icmp_lt (tgt := 76) C.1 C.2.1 (kd kX2_mayStand_0 39 rfl) (by decide) (fun q => ?_) (fun q => ?_)
      · have hf := fif_pos q hf
        refine lv_iconst (v := (0 : Int32)) C.1 C.2.1 (kd kX2_mayStand_0 42 rfl) (by decide) ?_
        exact fl_zret C hP hS rfl hf (kd kX2_mayStand_0 43 rfl)
      have hf := fif_neg q hf
      refine lv_iconst (v := (1 : Int32)) C.1 C.2.1 (kd kX2_mayStand_0 40 rfl) (by decide) ?_
      refine lv_goto (tgt := 77) C.1 C.2.1 (kd kX2_mayStand_0 41 rfl) (by decide) ?_
      exact fl_zret C hP hS rfl hf (kd kX2_mayStand_0 43 rfl)
    have hf := fif_pos q hf
    refine lv_iload C.1 C.2.1 (kd kX2_mayStand_0 24 rfl) (lv_at hl 0 rfl) ?_
    refine lv_aload_n C.1 C.2.1 (kd kX2_mayStand_0 25 rfl) rfl (lv_at hl 2 rfl) ?_
    refine fl_get (j := 5) (v := .ref (Γ.1 151)) C hP rfl (Nat.le_of_ble_eq_true rfl) rfl inX2 (Nat.le_of_ble_eq_true rfl) tw_211 rfl (kd kX2_mayStand_0 26 rfl) ?_
    refine lv_iload C.1 C.2.1 (kd kX2_mayStand_0 27 rfl) (lv_at hl 1 rfl) ?_
    obtain ⟨hq, hf⟩ := fb_some hf
    refine fl_iald C hP rfl hq (kd kX2_mayStand_0 28 rfl) ?_
    refine lv_icmp_gt (tgt := 56) C.1 C.2.1 (kd kX2_mayStand_0 29 rfl) (by decide) (fun q => ?_) (fun q => ?_)
    · have hf := fif_pos q hf
      refine lv_iconst (v := (0 : Int32)) C.1 C.2.1 (kd kX2_mayStand_0 32 rfl) (by decide) ?_
      refine lv_goto (tgt := 77) C.1 C.2.1 (kd kX2_mayStand_0 33 rfl) (by decide) ?_
      exact fl_zret C hP hS rfl hf (kd kX2_mayStand_0 43 rfl)
    have hf := fif_neg q hf
    refine lv_iconst (v := (1 : Int32)) C.1 C.2.1 (kd kX2_mayStand_0 30 rfl) (by decide) ?_
    refine lv_goto (tgt := 77) C.1 C.2.1 (kd kX2_mayStand_0 31 rfl) (by decide) ?_
    exact fl_zret C hP hS rfl hf (kd kX2_mayStand_0 43 rfl)
  have hf := fif_pos q hf
  refine lv_iconst (v := (1 : Int32)) C.1 C.2.1 (kd kX2_mayStand_0 17 rfl) (by decide) ?_
  exact fl_zret C hP hS rfl hf (kd kX2_mayStand_0 18 rfl)
def f_X2_findLane_b87 (b1 : Nat) (K22 : Int32 → Int32 → Int32 → Int32 → Int32 → Int32 → fS → Option (Int32 × fS)) (v2 : Int32) (v3 : Int32) (v4 : Int32) (v5 : Int32) (v6 : Int32) (v7 : Int32) (σ : fS) : Option (Int32 × fS) := K22 (v2) (v3) (v4) (v5) (v6) ((v7 + (1 : Int32))) σ
set_option maxRecDepth 100000 in
set_option maxHeartbeats 4000000 in
theorem w_X2_findLane_b87 {b1 : Nat} {r : Int32} {σ' : fS} {K22 : Int32 → Int32 → Int32 → Int32 → Int32 → Int32 → fS → Option (Int32 × fS)} (h1 : fD b1 = (3, 0, 0))  (C : fC Γ p s m args meth c cX2_findLane (some .int) RX2 9) (hK22 : ∀ (v2 : Int32) (v3 : Int32) (v4 : Int32) (v5 : Int32) (v6 : Int32) (v7 : Int32) (σ : fS) (H : Heap) (locs : List Loc) (ls : Array Slot), K22 v2 v3 v4 v5 v6 v7 σ = some (r, σ') → fH Γ σ H → va_S (fAd Γ) s.heap H locs → lv_has ls 9 [(0, .ref (Γ.1 145)), (1, .ref (Γ.1 b1)), (2, .int v2), (3, .int v3), (4, .int v4), (5, .int v5), (6, .int v6), (7, .int v7)] → W p l e ({ frames := 3, cells := 0, slots := 0, locals := 69 } : Room) s m args below meth c H locs 0 0 (MQ below (fQi Γ r σ') args s 0 0 (fAd Γ)) (F0 m 22 ls [])) : ∀ (v2 : Int32) (v3 : Int32) (v4 : Int32) (v5 : Int32) (v6 : Int32) (v7 : Int32) (σ : fS) (H : Heap) (locs : List Loc) (ls : Array Slot), f_X2_findLane_b87 b1 K22 v2 v3 v4 v5 v6 v7 σ = some (r, σ') → fH Γ σ H → va_S (fAd Γ) s.heap H locs → lv_has ls 9 [(0, .ref (Γ.1 145)), (1, .ref (Γ.1 b1)), (2, .int v2), (3, .int v3), (4, .int v4), (5, .int v5), (6, .int v6), (7, .int v7)] → W p l e ({ frames := 3, cells := 0, slots := 0, locals := 69 } : Room) s m args below meth c H locs 0 0 (MQ below (fQi Γ r σ') args s 0 0 (fAd Γ)) (F0 m 87 ls []) := by
  intro v2 v3 v4 v5 v6 v7 σ H locs ls hf hP hS hl
  unfold f_X2_findLane_b87 at hf
  refine lv_iinc (v := (v7 + (1 : Int32))) (lv' := [(7, .int (v7 + (1 : Int32))), (0, .ref (Γ.1 145)), (1, .ref (Γ.1 b1)), (2, .int v2), (3, .int v3), (4, .int v4), (5, .int v5), (6, .int v6)]) C.1 C.2.1 (kd kX2_findLane_0 46 rfl) hl (k := 7) rfl rfl (Nat.le_of_ble_eq_true rfl) rfl (fun ls hl => ?_)
  refine lv_goto (tgt := 22) C.1 C.2.1 (kd kX2_findLane_0 47 rfl) (by decide) ?_
  exact hK22 (v2) (v3) (v4) (v5) (v6) ((v7 + (1 : Int32))) σ H locs ls hf hP hS (lv_sub hl [1, 2, 3, 4, 5, 6, 7, 0] rfl)
def f_X2_findLane_b67 (b1 : Nat) (K22 : Int32 → Int32 → Int32 → Int32 → Int32 → Int32 → fS → Option (Int32 × fS)) (v2 : Int32) (v3 : Int32) (v4 : Int32) (v5 : Int32) (v6 : Int32) (v7 : Int32) (v8 : Int32) (σ : fS) : Option (Int32 × fS) := fcall (f_X2_mayStand b1 v2 v7 v3 σ) (fun r1_ σ1 => (if r1_ = 0 then f_X2_findLane_b87 b1 K22 (v2) (v3) (v4) (v5) (v6) (v7) σ1 else f_X2_findLane_b87 b1 K22 (v2) (v3) (v4) (v7) (v8) (v7) σ1))
set_option maxRecDepth 100000 in
set_option maxHeartbeats 4000000 in
theorem w_X2_findLane_b67 {b1 : Nat} {r : Int32} {σ' : fS} {K22 : Int32 → Int32 → Int32 → Int32 → Int32 → Int32 → fS → Option (Int32 × fS)} (h1 : fD b1 = (3, 0, 0))  (C : fC Γ p s m args meth c cX2_findLane (some .int) RX2 9) (hK22 : ∀ (v2 : Int32) (v3 : Int32) (v4 : Int32) (v5 : Int32) (v6 : Int32) (v7 : Int32) (σ : fS) (H : Heap) (locs : List Loc) (ls : Array Slot), K22 v2 v3 v4 v5 v6 v7 σ = some (r, σ') → fH Γ σ H → va_S (fAd Γ) s.heap H locs → lv_has ls 9 [(0, .ref (Γ.1 145)), (1, .ref (Γ.1 b1)), (2, .int v2), (3, .int v3), (4, .int v4), (5, .int v5), (6, .int v6), (7, .int v7)] → W p l e ({ frames := 3, cells := 0, slots := 0, locals := 69 } : Room) s m args below meth c H locs 0 0 (MQ below (fQi Γ r σ') args s 0 0 (fAd Γ)) (F0 m 22 ls [])) : ∀ (v2 : Int32) (v3 : Int32) (v4 : Int32) (v5 : Int32) (v6 : Int32) (v7 : Int32) (v8 : Int32) (σ : fS) (H : Heap) (locs : List Loc) (ls : Array Slot), f_X2_findLane_b67 b1 K22 v2 v3 v4 v5 v6 v7 v8 σ = some (r, σ') → fH Γ σ H → va_S (fAd Γ) s.heap H locs → lv_has ls 9 [(0, .ref (Γ.1 145)), (1, .ref (Γ.1 b1)), (2, .int v2), (3, .int v3), (4, .int v4), (5, .int v5), (6, .int v6), (7, .int v7), (8, .int v8)] → W p l e ({ frames := 3, cells := 0, slots := 0, locals := 69 } : Room) s m args below meth c H locs 0 0 (MQ below (fQi Γ r σ') args s 0 0 (fAd Γ)) (F0 m 67 ls []) := by
  intro v2 v3 v4 v5 v6 v7 v8 σ H locs ls hf hP hS hl
  unfold f_X2_findLane_b67 at hf
  refine lv_aload_n C.1 C.2.1 (kd kX2_findLane_0 35 rfl) rfl (lv_at hl 0 rfl) ?_
  refine lv_aload_n C.1 C.2.1 (kd kX2_findLane_0 36 rfl) rfl (lv_at hl 1 rfl) ?_
  refine lv_iload_n C.1 C.2.1 (kd kX2_findLane_0 37 rfl) rfl (lv_at hl 2 rfl) ?_
  refine lv_iload C.1 C.2.1 (kd kX2_findLane_0 38 rfl) (lv_at hl 7 rfl) ?_
  refine lv_iload_n C.1 C.2.1 (kd kX2_findLane_0 39 rfl) rfl (lv_at hl 3 rfl) ?_
  obtain ⟨r1_, σ1, hσ1, hf⟩ := fcall_some hf
  refine fl_i hS (fl_runV (As := [.ref (Γ.1 b1), .int v2, .int v7, .int v3]) (rest := []) C hP rfl (Nat.le_of_ble_eq_true rfl) rfl (m_X2_mayStand C.2.2.2.2.2.2.2.2 l h1 hσ1) (fgV tw_647 tw_649 tw_14 tw_72 tw_650) hd_X2_mayStand ⟨rfl, rfl, Nat.le_of_ble_eq_true rfl, Nat.le_of_ble_eq_true rfl⟩ rfl hl.1 rfl (Nat.le_of_ble_eq_true rfl) (kd kX2_findLane_0 40 rfl)) (fun H locs hP hS => ?_)
  refine lv_if_eq (tgt := 87) C.1 C.2.1 (kd kX2_findLane_0 41 rfl) (by decide) (fun q => ?_) (fun q => ?_)
  · have hf := fif_pos q hf
    exact w_X2_findLane_b87 h1 C hK22 (v2) (v3) (v4) (v5) (v6) (v7) σ1 H locs ls hf hP hS (lv_sub hl [0, 1, 2, 3, 4, 5, 6, 7] rfl)
  have hf := fif_neg q hf
  refine lv_iload C.1 C.2.1 (kd kX2_findLane_0 42 rfl) (lv_at hl 7 rfl) ?_
  refine lv_istore (lv' := [(5, .int v7), (0, .ref (Γ.1 145)), (1, .ref (Γ.1 b1)), (2, .int v2), (3, .int v3), (4, .int v4), (6, .int v6), (7, .int v7), (8, .int v8)]) C.1 C.2.1 (kd kX2_findLane_0 43 rfl) hl (Nat.le_of_ble_eq_true rfl) rfl (fun ls hl => ?_)
  refine lv_iload C.1 C.2.1 (kd kX2_findLane_0 44 rfl) (lv_at hl 8 rfl) ?_
  refine lv_istore (lv' := [(6, .int v8), (5, .int v7), (0, .ref (Γ.1 145)), (1, .ref (Γ.1 b1)), (2, .int v2), (3, .int v3), (4, .int v4), (7, .int v7), (8, .int v8)]) C.1 C.2.1 (kd kX2_findLane_0 45 rfl) hl (Nat.le_of_ble_eq_true rfl) rfl (fun ls hl => ?_)
  exact w_X2_findLane_b87 h1 C hK22 (v2) (v3) (v4) (v7) (v8) (v7) σ1 H locs ls hf hP hS (lv_sub hl [2, 3, 4, 5, 6, 1, 0, 7] rfl)
def f_X2_findLane_b22 (b1 : Nat) : Nat → Int32 → Int32 → Int32 → Int32 → Int32 → Int32 → fS → Option (Int32 × fS)
  | 0, _, _, _, _, _, _, _ => none
  | n_ + 1, v2, v3, v4, v5, v6, v7, σ => fcall (f_X3_lanesOf b1 v2 σ) (fun r1_ σ1 => (if r1_ ≤ v7 then some (v5, σ1) else fb ((v2 * (4 : Int32)) + v7) 48 ((if (σ1 147 ((v2 * (4 : Int32)) + v7).toNatClampNeg) < v4 then f_X2_findLane_b87 b1 (fun v2 v3 v4 v5 v6 v7 σ => f_X2_findLane_b22 b1 n_ v2 v3 v4 v5 v6 v7 σ) (v2) (v3) (v4) (v5) (v6) (v7) σ1 else (if v5 = (-10004 : Int32) then f_X2_findLane_b67 b1 (fun v2 v3 v4 v5 v6 v7 σ => f_X2_findLane_b22 b1 n_ v2 v3 v4 v5 v6 v7 σ) (v2) (v3) (v4) (v5) (v6) (v7) ((σ1 147 ((v2 * (4 : Int32)) + v7).toNatClampNeg)) σ1 else (if v6 ≤ (σ1 147 ((v2 * (4 : Int32)) + v7).toNatClampNeg) then f_X2_findLane_b87 b1 (fun v2 v3 v4 v5 v6 v7 σ => f_X2_findLane_b22 b1 n_ v2 v3 v4 v5 v6 v7 σ) (v2) (v3) (v4) (v5) (v6) (v7) σ1 else f_X2_findLane_b67 b1 (fun v2 v3 v4 v5 v6 v7 σ => f_X2_findLane_b22 b1 n_ v2 v3 v4 v5 v6 v7 σ) (v2) (v3) (v4) (v5) (v6) (v7) ((σ1 147 ((v2 * (4 : Int32)) + v7).toNatClampNeg)) σ1))))))
set_option maxRecDepth 100000 in
set_option maxHeartbeats 4000000 in
theorem w_X2_findLane_b22 {b1 : Nat} {r : Int32} {σ' : fS} (h1 : fD b1 = (3, 0, 0))  (C : fC Γ p s m args meth c cX2_findLane (some .int) RX2 9) : ∀ (n_ : Nat) (v2 : Int32) (v3 : Int32) (v4 : Int32) (v5 : Int32) (v6 : Int32) (v7 : Int32) (σ : fS) (H : Heap) (locs : List Loc) (ls : Array Slot), f_X2_findLane_b22 b1 n_ v2 v3 v4 v5 v6 v7 σ = some (r, σ') → fH Γ σ H → va_S (fAd Γ) s.heap H locs → lv_has ls 9 [(0, .ref (Γ.1 145)), (1, .ref (Γ.1 b1)), (2, .int v2), (3, .int v3), (4, .int v4), (5, .int v5), (6, .int v6), (7, .int v7)] → W p l e ({ frames := 3, cells := 0, slots := 0, locals := 69 } : Room) s m args below meth c H locs 0 0 (MQ below (fQi Γ r σ') args s 0 0 (fAd Γ)) (F0 m 22 ls []) := by
  intro n_
  induction n_ with
  | zero =>
    intro v2 v3 v4 v5 v6 v7 σ H locs ls hf
    cases hf
  | succ n_ ih =>
    intro v2 v3 v4 v5 v6 v7 σ H locs ls hf hP hS hl
    have hf : fcall (f_X3_lanesOf b1 v2 σ) (fun r1_ σ1 => (if r1_ ≤ v7 then some (v5, σ1) else fb ((v2 * (4 : Int32)) + v7) 48 ((if (σ1 147 ((v2 * (4 : Int32)) + v7).toNatClampNeg) < v4 then f_X2_findLane_b87 b1 (fun v2 v3 v4 v5 v6 v7 σ => f_X2_findLane_b22 b1 n_ v2 v3 v4 v5 v6 v7 σ) (v2) (v3) (v4) (v5) (v6) (v7) σ1 else (if v5 = (-10004 : Int32) then f_X2_findLane_b67 b1 (fun v2 v3 v4 v5 v6 v7 σ => f_X2_findLane_b22 b1 n_ v2 v3 v4 v5 v6 v7 σ) (v2) (v3) (v4) (v5) (v6) (v7) ((σ1 147 ((v2 * (4 : Int32)) + v7).toNatClampNeg)) σ1 else (if v6 ≤ (σ1 147 ((v2 * (4 : Int32)) + v7).toNatClampNeg) then f_X2_findLane_b87 b1 (fun v2 v3 v4 v5 v6 v7 σ => f_X2_findLane_b22 b1 n_ v2 v3 v4 v5 v6 v7 σ) (v2) (v3) (v4) (v5) (v6) (v7) σ1 else f_X2_findLane_b67 b1 (fun v2 v3 v4 v5 v6 v7 σ => f_X2_findLane_b22 b1 n_ v2 v3 v4 v5 v6 v7 σ) (v2) (v3) (v4) (v5) (v6) (v7) ((σ1 147 ((v2 * (4 : Int32)) + v7).toNatClampNeg)) σ1)))))) = some (r, σ') := hf
    have hK22 := ih
    refine lv_iload C.1 C.2.1 (kd kX2_findLane_0 12 rfl) (lv_at hl 7 rfl) ?_
    refine lv_aload_n C.1 C.2.1 (kd kX2_findLane_0 13 rfl) rfl (lv_at hl 1 rfl) ?_
    refine lv_iload_n C.1 C.2.1 (kd kX2_findLane_0 14 rfl) rfl (lv_at hl 2 rfl) ?_
    obtain ⟨r1_, σ1, hσ1, hf⟩ := fcall_some hf
    refine fl_i hS (fl_runV (As := [.int v2]) (rest := [.int v7]) C hP (fe_P h1) (fD_lt h1) rfl (m_X3_lanesOf C.2.2.2.2.2.2.2.2 l h1 hσ1) (fgV tw_643 tw_644 tw_645 tw_68 tw_646) hd_X3_lanesOf ⟨rfl, rfl, Nat.le_of_ble_eq_true rfl, Nat.le_of_ble_eq_true rfl⟩ rfl hl.1 rfl (Nat.le_of_ble_eq_true rfl) (kd kX2_findLane_0 15 rfl)) (fun H locs hP hS => ?_)
    refine lv_icmp_ge (tgt := 93) C.1 C.2.1 (kd kX2_findLane_0 16 rfl) (by decide) (fun q => ?_) (fun q => ?_)
    · have hf := fif_pos q hf
      refine lv_iload C.1 C.2.1 (kd kX2_findLane_0 48 rfl) (lv_at hl 5 rfl) ?_
      exact fl_iret C hP hS hf (kd kX2_findLane_0 49 rfl)
    have hf := fif_neg q hf
    refine lv_aload_n C.1 C.2.1 (kd kX2_findLane_0 17 rfl) rfl (lv_at hl 0 rfl) ?_
    refine fl_get (j := 1) (v := .ref (Γ.1 147)) C hP rfl (Nat.le_of_ble_eq_true rfl) rfl inX2 (Nat.le_of_ble_eq_true rfl) tw_205 rfl (kd kX2_findLane_0 18 rfl) ?_
    refine lv_iload_n C.1 C.2.1 (kd kX2_findLane_0 19 rfl) rfl (lv_at hl 2 rfl) ?_
    refine lv_iconst (v := (4 : Int32)) C.1 C.2.1 (kd kX2_findLane_0 20 rfl) (by decide) ?_
    refine lv_imul C.1 C.2.1 (kd kX2_findLane_0 21 rfl) ?_
    refine lv_iload C.1 C.2.1 (kd kX2_findLane_0 22 rfl) (lv_at hl 7 rfl) ?_
    refine lv_iadd C.1 C.2.1 (kd kX2_findLane_0 23 rfl) ?_
    obtain ⟨hq, hf⟩ := fb_some hf
    refine fl_iald C hP rfl hq (kd kX2_findLane_0 24 rfl) ?_
    refine lv_istore (lv' := [(8, .int (σ1 147 ((v2 * (4 : Int32)) + v7).toNatClampNeg)), (0, .ref (Γ.1 145)), (1, .ref (Γ.1 b1)), (2, .int v2), (3, .int v3), (4, .int v4), (5, .int v5), (6, .int v6), (7, .int v7)]) C.1 C.2.1 (kd kX2_findLane_0 25 rfl) hl (Nat.le_of_ble_eq_true rfl) rfl (fun ls hl => ?_)
    refine lv_iload C.1 C.2.1 (kd kX2_findLane_0 26 rfl) (lv_at hl 0 rfl) ?_
    refine lv_iload C.1 C.2.1 (kd kX2_findLane_0 27 rfl) (lv_at hl 5 rfl) ?_
    refine lv_icmp_lt (tgt := 87) C.1 C.2.1 (kd kX2_findLane_0 28 rfl) (by decide) (fun q => ?_) (fun q => ?_)
    · have hf := fif_pos q hf
      exact w_X2_findLane_b87 h1 C hK22 (v2) (v3) (v4) (v5) (v6) (v7) σ1 H locs ls hf hP hS (lv_sub hl [1, 2, 3, 4, 5, 6, 7, 8] rfl)
    have hf := fif_neg q hf
    refine lv_iload C.1 C.2.1 (kd kX2_findLane_0 29 rfl) (lv_at hl 6 rfl) ?_
    refine lv_sipush (v := (-10004 : Int32)) C.1 C.2.1 (kd kX2_findLane_0 30 rfl) (by decide) ?_
    refine lv_icmp_eq (tgt := 67) C.1 C.2.1 (kd kX2_findLane_0 31 rfl) (by decide) (fun q => ?_) (fun q => ?_)
    · have hf := fif_pos q hf
      exact w_X2_findLane_b67 h1 C hK22 (v2) (v3) (v4) (v5) (v6) (v7) ((σ1 147 ((v2 * (4 : Int32)) + v7).toNatClampNeg)) σ1 H locs ls hf hP hS (lv_sub hl [1, 2, 3, 4, 5, 6, 7, 8, 0] rfl)
    have hf := fif_neg q hf
    refine lv_iload C.1 C.2.1 (kd kX2_findLane_0 32 rfl) (lv_at hl 0 rfl) ?_
    refine lv_iload C.1 C.2.1 (kd kX2_findLane_0 33 rfl) (lv_at hl 7 rfl) ?_
    refine lv_icmp_ge (tgt := 87) C.1 C.2.1 (kd kX2_findLane_0 34 rfl) (by decide) (fun q => ?_) (fun q => ?_)
    · have hf := fif_pos q hf
      exact w_X2_findLane_b87 h1 C hK22 (v2) (v3) (v4) (v5) (v6) (v7) σ1 H locs ls hf hP hS (lv_sub hl [1, 2, 3, 4, 5, 6, 7, 8] rfl)
    have hf := fif_neg q hf
    exact w_X2_findLane_b67 h1 C hK22 (v2) (v3) (v4) (v5) (v6) (v7) ((σ1 147 ((v2 * (4 : Int32)) + v7).toNatClampNeg)) σ1 H locs ls hf hP hS (lv_sub hl [1, 2, 3, 4, 5, 6, 7, 8, 0] rfl)
def f_X2_findLane (b1 : Nat) (x2 : Int32) (x3 : Int32) (σ : fS) : Option (Int32 × fS) := fcall (f_X5_at (b1 + 7) 24 3 x3 (1 : Int32) σ) (fun r1_ σ1 => f_X2_findLane_b22 b1 fN (x2) (x3) (r1_) ((-10004 : Int32)) ((0 : Int32)) ((0 : Int32)) σ1)
set_option maxRecDepth 100000 in
set_option maxHeartbeats 4000000 in
theorem m_X2_findLane {Γ : fGm} (hI : fI Γ) (l : Launch) {b1 : Nat} {x2 : Int32} {x3 : Int32} (h1 : fD b1 = (3, 0, 0)) {σ : fS} {r : Int32} {σ' : fS} (hf : f_X2_findLane b1 x2 x3 σ = some (r, σ')) : Met l yX2_findLane (.code yX2_findLane cX2_findLane 9 (some .int) :: lw_g) ({ frames := 3, cells := 0, slots := 0, locals := 69 } : Room) (fPre Γ [.ref (Γ.1 145), .ref (Γ.1 b1), .int x2, .int x3] σ) (fQi Γ r σ') 0 0 (fAd Γ) := by
  refine fl_enter (own := RX2) hI (by decide +kernel) rfl (Nat.le_of_ble_eq_true rfl) ?_
  intro p e s m args below meth c ls C hl hP hS
  have hl : lv_has ls 9 [(0, .ref (Γ.1 145)), (1, .ref (Γ.1 b1)), (2, .int x2), (3, .int x3)] := hl
  obtain ⟨H, hH⟩ : ∃ H, H = s.heap := ⟨_, rfl⟩
  obtain ⟨locs, hL⟩ : ∃ L : List Loc, L = [] := ⟨_, rfl⟩
  have hP : fH Γ σ H := by rw [hH]; exact hP
  have hS : va_S (fAd Γ) s.heap H locs := by rw [hH, hL]; exact hS
  suffices hw : W p l e ({ frames := 3, cells := 0, slots := 0, locals := 69 } : Room) s m args below meth c H locs 0 0 (MQ below (fQi Γ r σ') args s 0 0 (fAd Γ)) (F0 m 0 ls []) by rw [hH, hL] at hw; exact hw
  unfold f_X2_findLane at hf
  refine lv_aload_n C.1 C.2.1 (kd kX2_findLane_0 0 rfl) rfl (lv_at hl 1 rfl) ?_
  refine fl_get (j := 3) (v := .ref (Γ.1 (b1 + 7))) C hP (fe_P h1) (fD_lt h1) rfl inX3 (Nat.le_of_ble_eq_true rfl) tw_122 rfl (kd kX2_findLane_0 1 rfl) ?_
  refine lv_iload_n C.1 C.2.1 (kd kX2_findLane_0 2 rfl) rfl (lv_at hl 3 rfl) ?_
  refine lv_iconst (v := (1 : Int32)) C.1 C.2.1 (kd kX2_findLane_0 3 rfl) (by decide) ?_
  obtain ⟨r1_, σ1, hσ1, hf⟩ := fcall_some hf
  refine fl_i hS (fl_runV (As := [.int x3, .int (1 : Int32)]) (rest := []) C hP (fe_T (fD_prt h1).2.2.2.1) (fD_lt (fD_prt h1).2.2.2.1) rfl (m_X5_at C.2.2.2.2.2.2.2.2 l (fD_prt h1).2.2.2.1 hσ1) (fgV tw_625 tw_418 tw_419 tw_69 tw_420) hd_X5_at ⟨rfl, rfl, Nat.le_of_ble_eq_true rfl, Nat.le_of_ble_eq_true rfl⟩ rfl hl.1 rfl (Nat.le_of_ble_eq_true rfl) (kd kX2_findLane_0 4 rfl)) (fun H locs hP hS => ?_)
  refine lv_istore (lv' := [(4, .int r1_), (0, .ref (Γ.1 145)), (1, .ref (Γ.1 b1)), (2, .int x2), (3, .int x3)]) C.1 C.2.1 (kd kX2_findLane_0 5 rfl) hl (Nat.le_of_ble_eq_true rfl) rfl (fun ls hl => ?_)
  refine lv_sipush (v := (-10004 : Int32)) C.1 C.2.1 (kd kX2_findLane_0 6 rfl) (by decide) ?_
  refine lv_istore (lv' := [(5, .int (-10004 : Int32)), (4, .int r1_), (0, .ref (Γ.1 145)), (1, .ref (Γ.1 b1)), (2, .int x2), (3, .int x3)]) C.1 C.2.1 (kd kX2_findLane_0 7 rfl) hl (Nat.le_of_ble_eq_true rfl) rfl (fun ls hl => ?_)
  refine lv_iconst (v := (0 : Int32)) C.1 C.2.1 (kd kX2_findLane_0 8 rfl) (by decide) ?_
  refine lv_istore (lv' := [(6, .int (0 : Int32)), (5, .int (-10004 : Int32)), (4, .int r1_), (0, .ref (Γ.1 145)), (1, .ref (Γ.1 b1)), (2, .int x2), (3, .int x3)]) C.1 C.2.1 (kd kX2_findLane_0 9 rfl) hl (Nat.le_of_ble_eq_true rfl) rfl (fun ls hl => ?_)
  refine lv_iconst (v := (0 : Int32)) C.1 C.2.1 (kd kX2_findLane_0 10 rfl) (by decide) ?_
  refine lv_istore (lv' := [(7, .int (0 : Int32)), (6, .int (0 : Int32)), (5, .int (-10004 : Int32)), (4, .int r1_), (0, .ref (Γ.1 145)), (1, .ref (Γ.1 b1)), (2, .int x2), (3, .int x3)]) C.1 C.2.1 (kd kX2_findLane_0 11 rfl) hl (Nat.le_of_ble_eq_true rfl) rfl (fun ls hl => ?_)
  exact w_X2_findLane_b22 h1 C fN (x2) (x3) (r1_) ((-10004 : Int32)) ((0 : Int32)) ((0 : Int32)) σ1 H locs ls hf hP hS (lv_sub hl [4, 5, 6, 7, 3, 2, 1, 0] rfl)
def f_X2_board (b1 : Nat) (x2 : Int32) (x3 : Int32) (x4 : Int32) (σ : fS) : Option (fS) := fb x4 24 (fL (fu σ 152 x4.toNatClampNeg x2) (fun σ1 => fb x4 24 (fL (fu σ1 153 x4.toNatClampNeg x3) (fun σ2 => fb ((x2 * (4 : Int32)) + x3) 48 (fb x4 24 (fL (fu σ2 154 x4.toNatClampNeg (σ2 150 ((x2 * (4 : Int32)) + x3).toNatClampNeg)) (fun σ3 => fb ((x2 * (4 : Int32)) + x3) 48 (fb ((x2 * (4 : Int32)) + x3) 48 (fL (fu σ3 150 ((x2 * (4 : Int32)) + x3).toNatClampNeg ((σ3 150 ((x2 * (4 : Int32)) + x3).toNatClampNeg) + (1 : Int32))) (fun σ4 => fb ((x2 * (4 : Int32)) + x3) 48 (fcall (f_X5_at (b1 + 7) 24 3 x4 (1 : Int32) σ4) (fun r5_ σ5 => fb ((x2 * (4 : Int32)) + x3) 48 (fL (fu σ5 147 ((x2 * (4 : Int32)) + x3).toNatClampNeg ((σ4 147 ((x2 * (4 : Int32)) + x3).toNatClampNeg) - r5_)) (fun σ6 => fcall (f_X5_at (b1 + 7) 24 3 x4 (2 : Int32) σ6) (fun r7_ σ7 => fb ((x2 * (4 : Int32)) + x3) 48 (fL (fu σ7 151 ((x2 * (4 : Int32)) + x3).toNatClampNeg r7_) (fun σ8 => some σ8)))))))))))))))))
set_option maxRecDepth 100000 in
set_option maxHeartbeats 4000000 in
theorem m_X2_board {Γ : fGm} (hI : fI Γ) (l : Launch) {b1 : Nat} {x2 : Int32} {x3 : Int32} {x4 : Int32} (h1 : fD b1 = (3, 0, 0)) {σ : fS} {σ' : fS} (hf : f_X2_board b1 x2 x3 x4 σ = some σ') : Met l yX2_board (.code yX2_board cX2_board 6 none :: lw_g) ({ frames := 1, cells := 0, slots := 0, locals := 22 } : Room) (fPre Γ [.ref (Γ.1 145), .ref (Γ.1 b1), .int x2, .int x3, .int x4] σ) (fQv Γ σ') 0 0 (fAd Γ) := by
  refine fl_enter (own := RX2) hI (by decide +kernel) rfl (Nat.le_of_ble_eq_true rfl) ?_
  intro p e s m args below meth c ls C hl hP hS
  have hl : lv_has ls 6 [(0, .ref (Γ.1 145)), (1, .ref (Γ.1 b1)), (2, .int x2), (3, .int x3), (4, .int x4)] := hl
  obtain ⟨H, hH⟩ : ∃ H, H = s.heap := ⟨_, rfl⟩
  obtain ⟨locs, hL⟩ : ∃ L : List Loc, L = [] := ⟨_, rfl⟩
  have hP : fH Γ σ H := by rw [hH]; exact hP
  have hS : va_S (fAd Γ) s.heap H locs := by rw [hH, hL]; exact hS
  suffices hw : W p l e ({ frames := 1, cells := 0, slots := 0, locals := 22 } : Room) s m args below meth c H locs 0 0 (MQ below (fQv Γ σ') args s 0 0 (fAd Γ)) (F0 m 0 ls []) by rw [hH, hL] at hw; exact hw
  unfold f_X2_board at hf
  refine lv_iload_n C.1 C.2.1 (kd kX2_board_0 0 rfl) rfl (lv_at hl 2 rfl) ?_
  refine lv_iconst (v := (4 : Int32)) C.1 C.2.1 (kd kX2_board_0 1 rfl) (by decide) ?_
  refine lv_imul C.1 C.2.1 (kd kX2_board_0 2 rfl) ?_
  refine lv_iload_n C.1 C.2.1 (kd kX2_board_0 3 rfl) rfl (lv_at hl 3 rfl) ?_
  refine lv_iadd C.1 C.2.1 (kd kX2_board_0 4 rfl) ?_
  refine lv_istore (lv' := [(5, .int ((x2 * (4 : Int32)) + x3)), (0, .ref (Γ.1 145)), (1, .ref (Γ.1 b1)), (2, .int x2), (3, .int x3), (4, .int x4)]) C.1 C.2.1 (kd kX2_board_0 5 rfl) hl (Nat.le_of_ble_eq_true rfl) rfl (fun ls hl => ?_)
  refine lv_aload_n C.1 C.2.1 (kd kX2_board_0 6 rfl) rfl (lv_at hl 1 rfl) ?_
  refine fl_get (j := 6) (v := .ref (Γ.1 152)) C hP rfl (Nat.le_of_ble_eq_true rfl) rfl inX2 (Nat.le_of_ble_eq_true rfl) tw_212 rfl (kd kX2_board_0 7 rfl) ?_
  refine lv_iload C.1 C.2.1 (kd kX2_board_0 8 rfl) (lv_at hl 5 rfl) ?_
  refine lv_iload_n C.1 C.2.1 (kd kX2_board_0 9 rfl) rfl (lv_at hl 3 rfl) ?_
  obtain ⟨hq, hf⟩ := fb_some hf
  obtain ⟨σ1, eσ1, hf⟩ := fL_some hf
  refine fl_iast C hP hS rfl hq (kd kX2_board_0 10 rfl) (fun H locs hP hS => ?_)
  have hP : fH Γ σ1 H := by rw [eσ1]; exact hP
  refine lv_aload_n C.1 C.2.1 (kd kX2_board_0 11 rfl) rfl (lv_at hl 1 rfl) ?_
  refine fl_get (j := 7) (v := .ref (Γ.1 153)) C hP rfl (Nat.le_of_ble_eq_true rfl) rfl inX2 (Nat.le_of_ble_eq_true rfl) tw_213 rfl (kd kX2_board_0 12 rfl) ?_
  refine lv_iload C.1 C.2.1 (kd kX2_board_0 13 rfl) (lv_at hl 5 rfl) ?_
  refine lv_iload_n C.1 C.2.1 (kd kX2_board_0 14 rfl) rfl (lv_at hl 4 rfl) ?_
  obtain ⟨hq, hf⟩ := fb_some hf
  obtain ⟨σ2, eσ2, hf⟩ := fL_some hf
  refine fl_iast C hP hS rfl hq (kd kX2_board_0 15 rfl) (fun H locs hP hS => ?_)
  have hP : fH Γ σ2 H := by rw [eσ2]; exact hP
  refine lv_aload_n C.1 C.2.1 (kd kX2_board_0 16 rfl) rfl (lv_at hl 1 rfl) ?_
  refine fl_get (j := 8) (v := .ref (Γ.1 154)) C hP rfl (Nat.le_of_ble_eq_true rfl) rfl inX2 (Nat.le_of_ble_eq_true rfl) tw_214 rfl (kd kX2_board_0 17 rfl) ?_
  refine lv_iload C.1 C.2.1 (kd kX2_board_0 18 rfl) (lv_at hl 5 rfl) ?_
  refine lv_aload_n C.1 C.2.1 (kd kX2_board_0 19 rfl) rfl (lv_at hl 1 rfl) ?_
  refine fl_get (j := 4) (v := .ref (Γ.1 150)) C hP rfl (Nat.le_of_ble_eq_true rfl) rfl inX2 (Nat.le_of_ble_eq_true rfl) tw_210 rfl (kd kX2_board_0 20 rfl) ?_
  refine lv_iload C.1 C.2.1 (kd kX2_board_0 21 rfl) (lv_at hl 0 rfl) ?_
  obtain ⟨hq, hf⟩ := fb_some hf
  refine fl_iald C hP rfl hq (kd kX2_board_0 22 rfl) ?_
  obtain ⟨hq, hf⟩ := fb_some hf
  obtain ⟨σ3, eσ3, hf⟩ := fL_some hf
  refine fl_iast C hP hS rfl hq (kd kX2_board_0 23 rfl) (fun H locs hP hS => ?_)
  have hP : fH Γ σ3 H := by rw [eσ3]; exact hP
  refine lv_aload_n C.1 C.2.1 (kd kX2_board_0 24 rfl) rfl (lv_at hl 1 rfl) ?_
  refine fl_get (j := 4) (v := .ref (Γ.1 150)) C hP rfl (Nat.le_of_ble_eq_true rfl) rfl inX2 (Nat.le_of_ble_eq_true rfl) tw_210 rfl (kd kX2_board_0 25 rfl) ?_
  refine lv_iload C.1 C.2.1 (kd kX2_board_0 26 rfl) (lv_at hl 0 rfl) ?_
  refine lv_dup2_11 C.1 C.2.1 (kd kX2_board_0 27 rfl) rfl rfl ?_
  obtain ⟨hq, hf⟩ := fb_some hf
  refine fl_iald C hP rfl hq (kd kX2_board_0 28 rfl) ?_
  refine lv_iconst (v := (1 : Int32)) C.1 C.2.1 (kd kX2_board_0 29 rfl) (by decide) ?_
  refine lv_iadd C.1 C.2.1 (kd kX2_board_0 30 rfl) ?_
  obtain ⟨hq, hf⟩ := fb_some hf
  obtain ⟨σ4, eσ4, hf⟩ := fL_some hf
  refine fl_iast C hP hS rfl hq (kd kX2_board_0 31 rfl) (fun H locs hP hS => ?_)
  have hP : fH Γ σ4 H := by rw [eσ4]; exact hP
  refine lv_aload_n C.1 C.2.1 (kd kX2_board_0 32 rfl) rfl (lv_at hl 1 rfl) ?_
  refine fl_get (j := 1) (v := .ref (Γ.1 147)) C hP rfl (Nat.le_of_ble_eq_true rfl) rfl inX2 (Nat.le_of_ble_eq_true rfl) tw_205 rfl (kd kX2_board_0 33 rfl) ?_
  refine lv_iload C.1 C.2.1 (kd kX2_board_0 34 rfl) (lv_at hl 0 rfl) ?_
  refine lv_dup2_11 C.1 C.2.1 (kd kX2_board_0 35 rfl) rfl rfl ?_
  obtain ⟨hq, hf⟩ := fb_some hf
  refine fl_iald C hP rfl hq (kd kX2_board_0 36 rfl) ?_
  refine lv_aload_n C.1 C.2.1 (kd kX2_board_0 37 rfl) rfl (lv_at hl 2 rfl) ?_
  refine fl_get (j := 3) (v := .ref (Γ.1 (b1 + 7))) C hP (fe_P h1) (fD_lt h1) rfl inX3 (Nat.le_of_ble_eq_true rfl) tw_122 rfl (kd kX2_board_0 38 rfl) ?_
  refine lv_iload C.1 C.2.1 (kd kX2_board_0 39 rfl) (lv_at hl 5 rfl) ?_
  refine lv_iconst (v := (1 : Int32)) C.1 C.2.1 (kd kX2_board_0 40 rfl) (by decide) ?_
  obtain ⟨r5_, σ5, hσ5, hf⟩ := fcall_some hf
  refine fl_i hS (fl_runV (As := [.int x4, .int (1 : Int32)]) (rest := [.int (σ4 147 ((x2 * (4 : Int32)) + x3).toNatClampNeg), .int ((x2 * (4 : Int32)) + x3), .ref (Γ.1 147)]) C hP (fe_T (fD_prt h1).2.2.2.1) (fD_lt (fD_prt h1).2.2.2.1) rfl (m_X5_at C.2.2.2.2.2.2.2.2 l (fD_prt h1).2.2.2.1 hσ5) (fgV tw_625 tw_418 tw_419 tw_69 tw_420) hd_X5_at ⟨rfl, rfl, Nat.le_of_ble_eq_true rfl, Nat.le_of_ble_eq_true rfl⟩ rfl hl.1 rfl (Nat.le_of_ble_eq_true rfl) (kd kX2_board_0 41 rfl)) (fun H locs hP hS => ?_)
  refine lv_isub C.1 C.2.1 (kd kX2_board_0 42 rfl) ?_
  obtain ⟨hq, hf⟩ := fb_some hf
  obtain ⟨σ6, eσ6, hf⟩ := fL_some hf
  refine fl_iast C hP hS rfl hq (kd kX2_board_0 43 rfl) (fun H locs hP hS => ?_)
  have hP : fH Γ σ6 H := by rw [eσ6]; exact hP
  refine lv_aload_n C.1 C.2.1 (kd kX2_board_0 44 rfl) rfl (lv_at hl 1 rfl) ?_
  refine fl_get (j := 5) (v := .ref (Γ.1 151)) C hP rfl (Nat.le_of_ble_eq_true rfl) rfl inX2 (Nat.le_of_ble_eq_true rfl) tw_211 rfl (kd kX2_board_0 45 rfl) ?_
  refine lv_iload C.1 C.2.1 (kd kX2_board_0 46 rfl) (lv_at hl 0 rfl) ?_
  refine lv_aload_n C.1 C.2.1 (kd kX2_board_0 47 rfl) rfl (lv_at hl 2 rfl) ?_
  refine fl_get (j := 3) (v := .ref (Γ.1 (b1 + 7))) C hP (fe_P h1) (fD_lt h1) rfl inX3 (Nat.le_of_ble_eq_true rfl) tw_122 rfl (kd kX2_board_0 48 rfl) ?_
  refine lv_iload C.1 C.2.1 (kd kX2_board_0 49 rfl) (lv_at hl 5 rfl) ?_
  refine lv_iconst (v := (2 : Int32)) C.1 C.2.1 (kd kX2_board_0 50 rfl) (by decide) ?_
  obtain ⟨r7_, σ7, hσ7, hf⟩ := fcall_some hf
  refine fl_i hS (fl_runV (As := [.int x4, .int (2 : Int32)]) (rest := [.int ((x2 * (4 : Int32)) + x3), .ref (Γ.1 151)]) C hP (fe_T (fD_prt h1).2.2.2.1) (fD_lt (fD_prt h1).2.2.2.1) rfl (m_X5_at C.2.2.2.2.2.2.2.2 l (fD_prt h1).2.2.2.1 hσ7) (fgV tw_625 tw_418 tw_419 tw_69 tw_420) hd_X5_at ⟨rfl, rfl, Nat.le_of_ble_eq_true rfl, Nat.le_of_ble_eq_true rfl⟩ rfl hl.1 rfl (Nat.le_of_ble_eq_true rfl) (kd kX2_board_0 51 rfl)) (fun H locs hP hS => ?_)
  obtain ⟨hq, hf⟩ := fb_some hf
  obtain ⟨σ8, eσ8, hf⟩ := fL_some hf
  refine fl_iast C hP hS rfl hq (kd kX2_board_0 52 rfl) (fun H locs hP hS => ?_)
  have hP : fH Γ σ8 H := by rw [eσ8]; exact hP
  exact fl_vret C hP hS hf (kd kX2_board_0 53 rfl)
def f_X2_loadOrShift_b125 (b1 : Nat) (K28 : Int32 → Int32 → Int32 → Int32 → fS → Option (fS)) (v4 : Int32) (v5 : Int32) (v6 : Int32) (v7 : Int32) (σ : fS) : Option (fS) := K28 (v4) (v5) (v6) ((v7 + (1 : Int32))) σ
set_option maxRecDepth 100000 in
set_option maxHeartbeats 4000000 in
theorem w_X2_loadOrShift_b125 {b1 : Nat} {σ' : fS} {K28 : Int32 → Int32 → Int32 → Int32 → fS → Option (fS)} (h1 : fD b1 = (3, 0, 0))  (C : fC Γ p s m args meth c cX2_loadOrShift none RX2 10) (hK28 : ∀ (v4 : Int32) (v5 : Int32) (v6 : Int32) (v7 : Int32) (σ : fS) (H : Heap) (locs : List Loc) (ls : Array Slot), K28 v4 v5 v6 v7 σ = some σ' → fH Γ σ H → va_S (fAd Γ) s.heap H locs → lv_has ls 10 [(0, .ref (Γ.1 145)), (1, .ref (Γ.1 b1)), (2, .ref (Γ.1 138)), (4, .int v4), (5, .int v5), (6, .int v6), (7, .int v7)] → W p l e ({ frames := 4, cells := 0, slots := 0, locals := 97 } : Room) s m args below meth c H locs 0 0 (MQ below (fQv Γ σ') args s 0 0 (fAd Γ)) (F0 m 28 ls [])) : ∀ (v4 : Int32) (v5 : Int32) (v6 : Int32) (v7 : Int32) (σ : fS) (H : Heap) (locs : List Loc) (ls : Array Slot), f_X2_loadOrShift_b125 b1 K28 v4 v5 v6 v7 σ = some σ' → fH Γ σ H → va_S (fAd Γ) s.heap H locs → lv_has ls 10 [(0, .ref (Γ.1 145)), (1, .ref (Γ.1 b1)), (2, .ref (Γ.1 138)), (4, .int v4), (5, .int v5), (6, .int v6), (7, .int v7)] → W p l e ({ frames := 4, cells := 0, slots := 0, locals := 97 } : Room) s m args below meth c H locs 0 0 (MQ below (fQv Γ σ') args s 0 0 (fAd Γ)) (F0 m 125 ls []) := by
  intro v4 v5 v6 v7 σ H locs ls hf hP hS hl
  unfold f_X2_loadOrShift_b125 at hf
  refine lv_iinc (v := (v7 + (1 : Int32))) (lv' := [(7, .int (v7 + (1 : Int32))), (0, .ref (Γ.1 145)), (1, .ref (Γ.1 b1)), (2, .ref (Γ.1 138)), (4, .int v4), (5, .int v5), (6, .int v6)]) C.1 C.2.1 (kd kX2_loadOrShift_1 6 rfl) hl (k := 6) rfl rfl (Nat.le_of_ble_eq_true rfl) rfl (fun ls hl => ?_)
  refine lv_goto (tgt := 28) C.1 C.2.1 (kd kX2_loadOrShift_1 7 rfl) (by decide) ?_
  exact hK28 (v4) (v5) (v6) ((v7 + (1 : Int32))) σ H locs ls hf hP hS (lv_sub hl [1, 2, 3, 4, 5, 6, 0] rfl)
def f_X2_loadOrShift_b74 (b1 : Nat) (K28 : Int32 → Int32 → Int32 → Int32 → fS → Option (fS)) (v4 : Int32) (v5 : Int32) (v6 : Int32) (v7 : Int32) (v8 : Int32) (s0 : Int32) (σ : fS) : Option (fS) := (if s0 = (-10004 : Int32) then (if v5 = (-10004 : Int32) then f_X2_loadOrShift_b125 b1 K28 (v4) (v5) (v6) (v7) σ else fb v8 24 (fb v8 24 (fL (fu σ 155 v8.toNatClampNeg ((σ 155 v8.toNatClampNeg) + (1 : Int32))) (fun σ1 => fcallv (f_X2_lineUp v5 v8 σ1) (fun σ2 => f_X2_loadOrShift_b125 b1 K28 (v4) (v5) (v6) (v7) σ2))))) else fcallv (f_X2_board b1 v4 s0 v8 σ) (fun σ3 => f_X2_loadOrShift_b125 b1 K28 (v4) (v5) (v6) (v7) σ3))
set_option maxRecDepth 100000 in
set_option maxHeartbeats 4000000 in
theorem w_X2_loadOrShift_b74 {b1 : Nat} {σ' : fS} {K28 : Int32 → Int32 → Int32 → Int32 → fS → Option (fS)} (h1 : fD b1 = (3, 0, 0))  (C : fC Γ p s m args meth c cX2_loadOrShift none RX2 10) (hK28 : ∀ (v4 : Int32) (v5 : Int32) (v6 : Int32) (v7 : Int32) (σ : fS) (H : Heap) (locs : List Loc) (ls : Array Slot), K28 v4 v5 v6 v7 σ = some σ' → fH Γ σ H → va_S (fAd Γ) s.heap H locs → lv_has ls 10 [(0, .ref (Γ.1 145)), (1, .ref (Γ.1 b1)), (2, .ref (Γ.1 138)), (4, .int v4), (5, .int v5), (6, .int v6), (7, .int v7)] → W p l e ({ frames := 4, cells := 0, slots := 0, locals := 97 } : Room) s m args below meth c H locs 0 0 (MQ below (fQv Γ σ') args s 0 0 (fAd Γ)) (F0 m 28 ls [])) : ∀ (v4 : Int32) (v5 : Int32) (v6 : Int32) (v7 : Int32) (v8 : Int32) (s0 : Int32) (σ : fS) (H : Heap) (locs : List Loc) (ls : Array Slot), f_X2_loadOrShift_b74 b1 K28 v4 v5 v6 v7 v8 s0 σ = some σ' → fH Γ σ H → va_S (fAd Γ) s.heap H locs → lv_has ls 10 [(0, .ref (Γ.1 145)), (1, .ref (Γ.1 b1)), (2, .ref (Γ.1 138)), (4, .int v4), (5, .int v5), (6, .int v6), (7, .int v7), (8, .int v8)] → W p l e ({ frames := 4, cells := 0, slots := 0, locals := 97 } : Room) s m args below meth c H locs 0 0 (MQ below (fQv Γ σ') args s 0 0 (fAd Γ)) (F0 m 74 ls [.int s0]) := by
  intro v4 v5 v6 v7 v8 s0 σ H locs ls hf hP hS hl
  unfold f_X2_loadOrShift_b74 at hf
  refine lv_istore (lv' := [(9, .int s0), (0, .ref (Γ.1 145)), (1, .ref (Γ.1 b1)), (2, .ref (Γ.1 138)), (4, .int v4), (5, .int v5), (6, .int v6), (7, .int v7), (8, .int v8)]) C.1 C.2.1 (kd kX2_loadOrShift_0 40 rfl) hl (Nat.le_of_ble_eq_true rfl) rfl (fun ls hl => ?_)
  refine lv_iload C.1 C.2.1 (kd kX2_loadOrShift_0 41 rfl) (lv_at hl 0 rfl) ?_
  refine lv_sipush (v := (-10004 : Int32)) C.1 C.2.1 (kd kX2_loadOrShift_0 42 rfl) (by decide) ?_
  refine lv_icmp_eq (tgt := 98) C.1 C.2.1 (kd kX2_loadOrShift_0 43 rfl) (by decide) (fun q => ?_) (fun q => ?_)
  · have hf := fif_pos q hf
    refine lv_iload C.1 C.2.1 (kd kX2_loadOrShift_0 51 rfl) (lv_at hl 5 rfl) ?_
    refine lv_sipush (v := (-10004 : Int32)) C.1 C.2.1 (kd kX2_loadOrShift_0 52 rfl) (by decide) ?_
    refine lv_icmp_eq (tgt := 125) C.1 C.2.1 (kd kX2_loadOrShift_0 53 rfl) (by decide) (fun q => ?_) (fun q => ?_)
    · have hf := fif_pos q hf
      exact w_X2_loadOrShift_b125 h1 C hK28 (v4) (v5) (v6) (v7) σ H locs ls hf hP hS (lv_sub hl [1, 2, 3, 4, 5, 6, 7] rfl)
    have hf := fif_neg q hf
    refine lv_aload_n C.1 C.2.1 (kd kX2_loadOrShift_0 54 rfl) rfl (lv_at hl 1 rfl) ?_
    refine fl_get (j := 9) (v := .ref (Γ.1 155)) C hP rfl (Nat.le_of_ble_eq_true rfl) rfl inX2 (Nat.le_of_ble_eq_true rfl) tw_215 rfl (kd kX2_loadOrShift_0 55 rfl) ?_
    refine lv_iload C.1 C.2.1 (kd kX2_loadOrShift_0 56 rfl) (lv_at hl 8 rfl) ?_
    refine lv_dup2_11 C.1 C.2.1 (kd kX2_loadOrShift_0 57 rfl) rfl rfl ?_
    obtain ⟨hq, hf⟩ := fb_some hf
    refine fl_iald C hP rfl hq (kd kX2_loadOrShift_0 58 rfl) ?_
    refine lv_iconst (v := (1 : Int32)) C.1 C.2.1 (kd kX2_loadOrShift_0 59 rfl) (by decide) ?_
    refine lv_iadd C.1 C.2.1 (kd kX2_loadOrShift_1 0 rfl) ?_
    obtain ⟨hq, hf⟩ := fb_some hf
    obtain ⟨σ1, eσ1, hf⟩ := fL_some hf
    refine fl_iast C hP hS rfl hq (kd kX2_loadOrShift_1 1 rfl) (fun H locs hP hS => ?_)
    have hP : fH Γ σ1 H := by rw [eσ1]; exact hP
    refine lv_aload_n C.1 C.2.1 (kd kX2_loadOrShift_1 2 rfl) rfl (lv_at hl 1 rfl) ?_
    refine lv_iload C.1 C.2.1 (kd kX2_loadOrShift_1 3 rfl) (lv_at hl 5 rfl) ?_
    refine lv_iload C.1 C.2.1 (kd kX2_loadOrShift_1 4 rfl) (lv_at hl 8 rfl) ?_
    obtain ⟨σ2, hσ2, hf⟩ := fcallv_some hf
    refine fl_v hS (fl_runV (As := [.int v5, .int v8]) (rest := []) C hP rfl (Nat.le_of_ble_eq_true rfl) rfl (m_X2_lineUp C.2.2.2.2.2.2.2.2 l  hσ2) (fgV tw_626 tw_628 tw_11 tw_72 tw_629) hd_X2_lineUp ⟨rfl, rfl, Nat.le_of_ble_eq_true rfl, Nat.le_of_ble_eq_true rfl⟩ rfl hl.1 rfl (Nat.le_of_ble_eq_true rfl) (kd kX2_loadOrShift_1 5 rfl)) (fun H locs hP hS => ?_)
    exact w_X2_loadOrShift_b125 h1 C hK28 (v4) (v5) (v6) (v7) σ2 H locs ls hf hP hS (lv_sub hl [1, 2, 3, 4, 5, 6, 7] rfl)
  have hf := fif_neg q hf
  refine lv_aload_n C.1 C.2.1 (kd kX2_loadOrShift_0 44 rfl) rfl (lv_at hl 1 rfl) ?_
  refine lv_aload_n C.1 C.2.1 (kd kX2_loadOrShift_0 45 rfl) rfl (lv_at hl 2 rfl) ?_
  refine lv_iload C.1 C.2.1 (kd kX2_loadOrShift_0 46 rfl) (lv_at hl 4 rfl) ?_
  refine lv_iload C.1 C.2.1 (kd kX2_loadOrShift_0 47 rfl) (lv_at hl 0 rfl) ?_
  refine lv_iload C.1 C.2.1 (kd kX2_loadOrShift_0 48 rfl) (lv_at hl 8 rfl) ?_
  obtain ⟨σ3, hσ3, hf⟩ := fcallv_some hf
  refine fl_v hS (fl_runV (As := [.ref (Γ.1 b1), .int v4, .int s0, .int v8]) (rest := []) C hP rfl (Nat.le_of_ble_eq_true rfl) rfl (m_X2_board C.2.2.2.2.2.2.2.2 l h1 hσ3) (fgV tw_655 tw_657 tw_15 tw_72 tw_658) hd_X2_board ⟨rfl, rfl, Nat.le_of_ble_eq_true rfl, Nat.le_of_ble_eq_true rfl⟩ rfl hl.1 rfl (Nat.le_of_ble_eq_true rfl) (kd kX2_loadOrShift_0 49 rfl)) (fun H locs hP hS => ?_)
  refine lv_goto (tgt := 125) C.1 C.2.1 (kd kX2_loadOrShift_0 50 rfl) (by decide) ?_
  exact w_X2_loadOrShift_b125 h1 C hK28 (v4) (v5) (v6) (v7) σ3 H locs ls hf hP hS (lv_sub hl [1, 2, 3, 4, 5, 6, 7] rfl)
def f_X2_loadOrShift_b28 (b1 : Nat) : Nat → Int32 → Int32 → Int32 → Int32 → fS → Option (fS)
  | 0, _, _, _, _, _ => none
  | n_ + 1, v4, v5, v6, v7, σ => (if v6 ≤ v7 then some σ else fb ((v4 * (24 : Int32)) + v7) 288 (fcall (f_X0_sails v4 σ) (fun r1_ σ1 => (if r1_ = 0 then f_X2_loadOrShift_b74 b1 (fun v4 v5 v6 v7 σ => f_X2_loadOrShift_b28 b1 n_ v4 v5 v6 v7 σ) (v4) (v5) (v6) (v7) ((σ 149 ((v4 * (24 : Int32)) + v7).toNatClampNeg)) ((-10004 : Int32)) σ1 else fcall (f_X2_findLane b1 v4 (σ 149 ((v4 * (24 : Int32)) + v7).toNatClampNeg) σ1) (fun r2_ σ2 => f_X2_loadOrShift_b74 b1 (fun v4 v5 v6 v7 σ => f_X2_loadOrShift_b28 b1 n_ v4 v5 v6 v7 σ) (v4) (v5) (v6) (v7) ((σ 149 ((v4 * (24 : Int32)) + v7).toNatClampNeg)) (r2_) σ2)))))
set_option maxRecDepth 100000 in
set_option maxHeartbeats 4000000 in
theorem w_X2_loadOrShift_b28 {b1 : Nat} {σ' : fS} (h1 : fD b1 = (3, 0, 0))  (C : fC Γ p s m args meth c cX2_loadOrShift none RX2 10) : ∀ (n_ : Nat) (v4 : Int32) (v5 : Int32) (v6 : Int32) (v7 : Int32) (σ : fS) (H : Heap) (locs : List Loc) (ls : Array Slot), f_X2_loadOrShift_b28 b1 n_ v4 v5 v6 v7 σ = some σ' → fH Γ σ H → va_S (fAd Γ) s.heap H locs → lv_has ls 10 [(0, .ref (Γ.1 145)), (1, .ref (Γ.1 b1)), (2, .ref (Γ.1 138)), (4, .int v4), (5, .int v5), (6, .int v6), (7, .int v7)] → W p l e ({ frames := 4, cells := 0, slots := 0, locals := 97 } : Room) s m args below meth c H locs 0 0 (MQ below (fQv Γ σ') args s 0 0 (fAd Γ)) (F0 m 28 ls []) := by
  intro n_
  induction n_ with
  | zero =>
    intro v4 v5 v6 v7 σ H locs ls hf
    cases hf
  | succ n_ ih =>
    intro v4 v5 v6 v7 σ H locs ls hf hP hS hl
    have hf : (if v6 ≤ v7 then some σ else fb ((v4 * (24 : Int32)) + v7) 288 (fcall (f_X0_sails v4 σ) (fun r1_ σ1 => (if r1_ = 0 then f_X2_loadOrShift_b74 b1 (fun v4 v5 v6 v7 σ => f_X2_loadOrShift_b28 b1 n_ v4 v5 v6 v7 σ) (v4) (v5) (v6) (v7) ((σ 149 ((v4 * (24 : Int32)) + v7).toNatClampNeg)) ((-10004 : Int32)) σ1 else fcall (f_X2_findLane b1 v4 (σ 149 ((v4 * (24 : Int32)) + v7).toNatClampNeg) σ1) (fun r2_ σ2 => f_X2_loadOrShift_b74 b1 (fun v4 v5 v6 v7 σ => f_X2_loadOrShift_b28 b1 n_ v4 v5 v6 v7 σ) (v4) (v5) (v6) (v7) ((σ 149 ((v4 * (24 : Int32)) + v7).toNatClampNeg)) (r2_) σ2))))) = some σ' := hf
    have hK28 := ih
    refine lv_iload C.1 C.2.1 (kd kX2_loadOrShift_0 17 rfl) (lv_at hl 6 rfl) ?_
    refine lv_iload C.1 C.2.1 (kd kX2_loadOrShift_0 18 rfl) (lv_at hl 5 rfl) ?_
    refine lv_icmp_ge (tgt := 131) C.1 C.2.1 (kd kX2_loadOrShift_0 19 rfl) (by decide) (fun q => ?_) (fun q => ?_)
    · have hf := fif_pos q hf
      exact fl_vret C hP hS hf (kd kX2_loadOrShift_1 8 rfl)
    have hf := fif_neg q hf
    refine lv_aload_n C.1 C.2.1 (kd kX2_loadOrShift_0 20 rfl) rfl (lv_at hl 0 rfl) ?_
    refine fl_get (j := 3) (v := .ref (Γ.1 149)) C hP rfl (Nat.le_of_ble_eq_true rfl) rfl inX2 (Nat.le_of_ble_eq_true rfl) tw_209 rfl (kd kX2_loadOrShift_0 21 rfl) ?_
    refine lv_iload C.1 C.2.1 (kd kX2_loadOrShift_0 22 rfl) (lv_at hl 3 rfl) ?_
    refine lv_bipush (v := (24 : Int32)) C.1 C.2.1 (kd kX2_loadOrShift_0 23 rfl) (by decide) ?_
    refine lv_imul C.1 C.2.1 (kd kX2_loadOrShift_0 24 rfl) ?_
    refine lv_iload C.1 C.2.1 (kd kX2_loadOrShift_0 25 rfl) (lv_at hl 6 rfl) ?_
    refine lv_iadd C.1 C.2.1 (kd kX2_loadOrShift_0 26 rfl) ?_
    obtain ⟨hq, hf⟩ := fb_some hf
    refine fl_iald C hP rfl hq (kd kX2_loadOrShift_0 27 rfl) ?_
    refine lv_istore (lv' := [(8, .int (σ 149 ((v4 * (24 : Int32)) + v7).toNatClampNeg)), (0, .ref (Γ.1 145)), (1, .ref (Γ.1 b1)), (2, .ref (Γ.1 138)), (4, .int v4), (5, .int v5), (6, .int v6), (7, .int v7)]) C.1 C.2.1 (kd kX2_loadOrShift_0 28 rfl) hl (Nat.le_of_ble_eq_true rfl) rfl (fun ls hl => ?_)
    refine lv_aload_n C.1 C.2.1 (kd kX2_loadOrShift_0 29 rfl) rfl (lv_at hl 3 rfl) ?_
    refine lv_iload C.1 C.2.1 (kd kX2_loadOrShift_0 30 rfl) (lv_at hl 4 rfl) ?_
    obtain ⟨r1_, σ1, hσ1, hf⟩ := fcall_some hf
    refine fl_i hS (fl_runV (As := [.int v4]) (rest := []) C hP rfl (Nat.le_of_ble_eq_true rfl) rfl (m_X0_sails C.2.2.2.2.2.2.2.2 l  hσ1) (fgV tw_638 tw_580 tw_581 tw_71 tw_582) hd_X0_sails ⟨rfl, rfl, Nat.le_of_ble_eq_true rfl, Nat.le_of_ble_eq_true rfl⟩ rfl hl.1 rfl (Nat.le_of_ble_eq_true rfl) (kd kX2_loadOrShift_0 31 rfl)) (fun H locs hP hS => ?_)
    refine lv_if_eq (tgt := 71) C.1 C.2.1 (kd kX2_loadOrShift_0 32 rfl) (by decide) (fun q => ?_) (fun q => ?_)
    · have hf := fif_pos q hf
      refine lv_sipush (v := (-10004 : Int32)) C.1 C.2.1 (kd kX2_loadOrShift_0 39 rfl) (by decide) ?_
      exact w_X2_loadOrShift_b74 h1 C hK28 (v4) (v5) (v6) (v7) ((σ 149 ((v4 * (24 : Int32)) + v7).toNatClampNeg)) ((-10004 : Int32)) σ1 H locs ls hf hP hS (lv_sub hl [1, 2, 3, 4, 5, 6, 7, 0] rfl)
    have hf := fif_neg q hf
    refine lv_aload_n C.1 C.2.1 (kd kX2_loadOrShift_0 33 rfl) rfl (lv_at hl 1 rfl) ?_
    refine lv_aload_n C.1 C.2.1 (kd kX2_loadOrShift_0 34 rfl) rfl (lv_at hl 2 rfl) ?_
    refine lv_iload C.1 C.2.1 (kd kX2_loadOrShift_0 35 rfl) (lv_at hl 4 rfl) ?_
    refine lv_iload C.1 C.2.1 (kd kX2_loadOrShift_0 36 rfl) (lv_at hl 0 rfl) ?_
    obtain ⟨r2_, σ2, hσ2, hf⟩ := fcall_some hf
    refine fl_i hS (fl_runV (As := [.ref (Γ.1 b1), .int v4, .int (σ 149 ((v4 * (24 : Int32)) + v7).toNatClampNeg)]) (rest := []) C hP rfl (Nat.le_of_ble_eq_true rfl) rfl (m_X2_findLane C.2.2.2.2.2.2.2.2 l h1 hσ2) (fgV tw_639 tw_641 tw_13 tw_72 tw_642) hd_X2_findLane ⟨rfl, rfl, Nat.le_of_ble_eq_true rfl, Nat.le_of_ble_eq_true rfl⟩ rfl hl.1 rfl (Nat.le_of_ble_eq_true rfl) (kd kX2_loadOrShift_0 37 rfl)) (fun H locs hP hS => ?_)
    refine lv_goto (tgt := 74) C.1 C.2.1 (kd kX2_loadOrShift_0 38 rfl) (by decide) ?_
    exact w_X2_loadOrShift_b74 h1 C hK28 (v4) (v5) (v6) (v7) ((σ 149 ((v4 * (24 : Int32)) + v7).toNatClampNeg)) (r2_) σ2 H locs ls hf hP hS (lv_sub hl [1, 2, 3, 4, 5, 6, 7, 0] rfl)
def f_X2_loadOrShift (b1 : Nat) (x3 : Int32) (σ : fS) : Option (fS) := fb x3 12 (fcall (f_X0_nextSailing b1 x3 σ) (fun r1_ σ1 => fb (σ 139 x3.toNatClampNeg) 12 (f_X2_loadOrShift_b28 b1 fN ((σ 139 x3.toNatClampNeg)) (r1_) ((σ1 146 (σ 139 x3.toNatClampNeg).toNatClampNeg)) ((0 : Int32)) σ1)))
set_option maxRecDepth 100000 in
set_option maxHeartbeats 4000000 in
theorem m_X2_loadOrShift {Γ : fGm} (hI : fI Γ) (l : Launch) {b1 : Nat} {x3 : Int32} (h1 : fD b1 = (3, 0, 0)) {σ : fS} {σ' : fS} (hf : f_X2_loadOrShift b1 x3 σ = some σ') : Met l yX2_loadOrShift (.code yX2_loadOrShift cX2_loadOrShift 10 none :: lw_g) ({ frames := 4, cells := 0, slots := 0, locals := 97 } : Room) (fPre Γ [.ref (Γ.1 145), .ref (Γ.1 b1), .ref (Γ.1 138), .int x3] σ) (fQv Γ σ') 0 0 (fAd Γ) := by
  refine fl_enter (own := RX2) hI (by decide +kernel) rfl (Nat.le_of_ble_eq_true rfl) ?_
  intro p e s m args below meth c ls C hl hP hS
  have hl : lv_has ls 10 [(0, .ref (Γ.1 145)), (1, .ref (Γ.1 b1)), (2, .ref (Γ.1 138)), (3, .int x3)] := hl
  obtain ⟨H, hH⟩ : ∃ H, H = s.heap := ⟨_, rfl⟩
  obtain ⟨locs, hL⟩ : ∃ L : List Loc, L = [] := ⟨_, rfl⟩
  have hP : fH Γ σ H := by rw [hH]; exact hP
  have hS : va_S (fAd Γ) s.heap H locs := by rw [hH, hL]; exact hS
  suffices hw : W p l e ({ frames := 4, cells := 0, slots := 0, locals := 97 } : Room) s m args below meth c H locs 0 0 (MQ below (fQv Γ σ') args s 0 0 (fAd Γ)) (F0 m 0 ls []) by rw [hH, hL] at hw; exact hw
  unfold f_X2_loadOrShift at hf
  refine lv_aload_n C.1 C.2.1 (kd kX2_loadOrShift_0 0 rfl) rfl (lv_at hl 2 rfl) ?_
  refine fl_get (j := 0) (v := .ref (Γ.1 139)) C hP rfl (Nat.le_of_ble_eq_true rfl) rfl inX0 (Nat.le_of_ble_eq_true rfl) tw_176 rfl (kd kX2_loadOrShift_0 1 rfl) ?_
  refine lv_iload_n C.1 C.2.1 (kd kX2_loadOrShift_0 2 rfl) rfl (lv_at hl 3 rfl) ?_
  obtain ⟨hq, hf⟩ := fb_some hf
  refine fl_iald C hP rfl hq (kd kX2_loadOrShift_0 3 rfl) ?_
  refine lv_istore (lv' := [(4, .int (σ 139 x3.toNatClampNeg)), (0, .ref (Γ.1 145)), (1, .ref (Γ.1 b1)), (2, .ref (Γ.1 138)), (3, .int x3)]) C.1 C.2.1 (kd kX2_loadOrShift_0 4 rfl) hl (Nat.le_of_ble_eq_true rfl) rfl (fun ls hl => ?_)
  refine lv_aload_n C.1 C.2.1 (kd kX2_loadOrShift_0 5 rfl) rfl (lv_at hl 3 rfl) ?_
  refine lv_aload_n C.1 C.2.1 (kd kX2_loadOrShift_0 6 rfl) rfl (lv_at hl 2 rfl) ?_
  refine lv_iload_n C.1 C.2.1 (kd kX2_loadOrShift_0 7 rfl) rfl (lv_at hl 4 rfl) ?_
  obtain ⟨r1_, σ1, hσ1, hf⟩ := fcall_some hf
  refine fl_i hS (fl_runV (As := [.ref (Γ.1 b1), .int x3]) (rest := []) C hP rfl (Nat.le_of_ble_eq_true rfl) rfl (m_X0_nextSailing C.2.2.2.2.2.2.2.2 l h1 hσ1) (fgV tw_634 tw_635 tw_636 tw_71 tw_637) hd_X0_nextSailing ⟨rfl, rfl, Nat.le_of_ble_eq_true rfl, Nat.le_of_ble_eq_true rfl⟩ rfl hl.1 rfl (Nat.le_of_ble_eq_true rfl) (kd kX2_loadOrShift_0 8 rfl)) (fun H locs hP hS => ?_)
  refine lv_istore (lv' := [(5, .int r1_), (4, .int (σ 139 x3.toNatClampNeg)), (0, .ref (Γ.1 145)), (1, .ref (Γ.1 b1)), (2, .ref (Γ.1 138)), (3, .int x3)]) C.1 C.2.1 (kd kX2_loadOrShift_0 9 rfl) hl (Nat.le_of_ble_eq_true rfl) rfl (fun ls hl => ?_)
  refine lv_aload_n C.1 C.2.1 (kd kX2_loadOrShift_0 10 rfl) rfl (lv_at hl 2 rfl) ?_
  refine fl_get (j := 0) (v := .ref (Γ.1 146)) C hP rfl (Nat.le_of_ble_eq_true rfl) rfl inX2 (Nat.le_of_ble_eq_true rfl) tw_203 rfl (kd kX2_loadOrShift_0 11 rfl) ?_
  refine lv_iload C.1 C.2.1 (kd kX2_loadOrShift_0 12 rfl) (lv_at hl 1 rfl) ?_
  obtain ⟨hq, hf⟩ := fb_some hf
  refine fl_iald C hP rfl hq (kd kX2_loadOrShift_0 13 rfl) ?_
  refine lv_istore (lv' := [(6, .int (σ1 146 (σ 139 x3.toNatClampNeg).toNatClampNeg)), (5, .int r1_), (4, .int (σ 139 x3.toNatClampNeg)), (0, .ref (Γ.1 145)), (1, .ref (Γ.1 b1)), (2, .ref (Γ.1 138)), (3, .int x3)]) C.1 C.2.1 (kd kX2_loadOrShift_0 14 rfl) hl (Nat.le_of_ble_eq_true rfl) rfl (fun ls hl => ?_)
  refine lv_iconst (v := (0 : Int32)) C.1 C.2.1 (kd kX2_loadOrShift_0 15 rfl) (by decide) ?_
  refine lv_istore (lv' := [(7, .int (0 : Int32)), (6, .int (σ1 146 (σ 139 x3.toNatClampNeg).toNatClampNeg)), (5, .int r1_), (4, .int (σ 139 x3.toNatClampNeg)), (0, .ref (Γ.1 145)), (1, .ref (Γ.1 b1)), (2, .ref (Γ.1 138)), (3, .int x3)]) C.1 C.2.1 (kd kX2_loadOrShift_0 16 rfl) hl (Nat.le_of_ble_eq_true rfl) rfl (fun ls hl => ?_)
  exact w_X2_loadOrShift_b28 h1 C fN ((σ 139 x3.toNatClampNeg)) (r1_) ((σ1 146 (σ 139 x3.toNatClampNeg).toNatClampNeg)) ((0 : Int32)) σ1 H locs ls hf hP hS (lv_sub hl [4, 5, 6, 3, 2, 1, 0] rfl)
def f_X2_make_b101 (b1 : Nat) : Nat → Int32 → fS → Option (fS)
  | 0, _, _ => none
  | n_ + 1, v3, σ => fcall (f_X5_size (b1 + 5) 12 4 σ) (fun r1_ σ1 => (if r1_ ≤ v3 then some σ1 else fcallv (f_X2_loadOrShift b1 v3 σ1) (fun σ2 => (fun v3 σ => f_X2_make_b101 b1 n_ v3 σ) ((v3 + (1 : Int32))) σ2)))
set_option maxRecDepth 100000 in
set_option maxHeartbeats 4000000 in
theorem w_X2_make_b101 {b1 : Nat} {σ' : fS} (h1 : fD b1 = (3, 0, 0))  (C : fC Γ p s m args meth c cX2_make none RX2 4) : ∀ (n_ : Nat) (v3 : Int32) (σ : fS) (H : Heap) (locs : List Loc) (ls : Array Slot), f_X2_make_b101 b1 n_ v3 σ = some σ' → fH Γ σ H → va_S (fAd Γ) s.heap H locs → lv_has ls 4 [(0, .ref (Γ.1 145)), (1, .ref (Γ.1 b1)), (2, .ref (Γ.1 138)), (3, .int v3)] → W p l e ({ frames := 5, cells := 0, slots := 0, locals := 126 } : Room) s m args below meth c H locs 0 0 (MQ below (fQv Γ σ') args s 0 0 (fAd Γ)) (F0 m 101 ls []) := by
  intro n_
  induction n_ with
  | zero =>
    intro v3 σ H locs ls hf
    cases hf
  | succ n_ ih =>
    intro v3 σ H locs ls hf hP hS hl
    have hf : fcall (f_X5_size (b1 + 5) 12 4 σ) (fun r1_ σ1 => (if r1_ ≤ v3 then some σ1 else fcallv (f_X2_loadOrShift b1 v3 σ1) (fun σ2 => (fun v3 σ => f_X2_make_b101 b1 n_ v3 σ) ((v3 + (1 : Int32))) σ2))) = some σ' := hf
    have hK101 := ih
    refine lv_iload_n C.1 C.2.1 (kd kX2_make_0 57 rfl) rfl (lv_at hl 3 rfl) ?_
    refine lv_aload_n C.1 C.2.1 (kd kX2_make_0 58 rfl) rfl (lv_at hl 1 rfl) ?_
    refine fl_get (j := 2) (v := .ref (Γ.1 (b1 + 5))) C hP (fe_P h1) (fD_lt h1) rfl inX3 (Nat.le_of_ble_eq_true rfl) tw_119 rfl (kd kX2_make_0 59 rfl) ?_
    obtain ⟨r1_, σ1, hσ1, hf⟩ := fcall_some hf
    refine fl_i hS (fl_runV (As := []) (rest := [.int v3]) C hP (fe_T (fD_prt h1).2.2.1) (fD_lt (fD_prt h1).2.2.1) rfl (m_X5_size C.2.2.2.2.2.2.2.2 l (fD_prt h1).2.2.1 hσ1) (fgV tw_616 tw_414 tw_415 tw_69 tw_416) hd_X5_size ⟨rfl, rfl, Nat.le_of_ble_eq_true rfl, Nat.le_of_ble_eq_true rfl⟩ rfl hl.1 rfl (Nat.le_of_ble_eq_true rfl) (kd kX2_make_1 0 rfl)) (fun H locs hP hS => ?_)
    refine lv_icmp_ge (tgt := 125) C.1 C.2.1 (kd kX2_make_1 1 rfl) (by decide) (fun q => ?_) (fun q => ?_)
    · have hf := fif_pos q hf
      exact fl_vret C hP hS hf (kd kX2_make_1 9 rfl)
    have hf := fif_neg q hf
    refine lv_aload_n C.1 C.2.1 (kd kX2_make_1 2 rfl) rfl (lv_at hl 0 rfl) ?_
    refine lv_aload_n C.1 C.2.1 (kd kX2_make_1 3 rfl) rfl (lv_at hl 1 rfl) ?_
    refine lv_aload_n C.1 C.2.1 (kd kX2_make_1 4 rfl) rfl (lv_at hl 2 rfl) ?_
    refine lv_iload_n C.1 C.2.1 (kd kX2_make_1 5 rfl) rfl (lv_at hl 3 rfl) ?_
    obtain ⟨σ2, hσ2, hf⟩ := fcallv_some hf
    refine fl_v hS (fl_runV (As := [.ref (Γ.1 b1), .ref (Γ.1 138), .int v3]) (rest := []) C hP rfl (Nat.le_of_ble_eq_true rfl) rfl (m_X2_loadOrShift C.2.2.2.2.2.2.2.2 l h1 hσ2) (fgV tw_630 tw_632 tw_12 tw_72 tw_633) hd_X2_loadOrShift ⟨rfl, rfl, Nat.le_of_ble_eq_true rfl, Nat.le_of_ble_eq_true rfl⟩ rfl hl.1 rfl (Nat.le_of_ble_eq_true rfl) (kd kX2_make_1 6 rfl)) (fun H locs hP hS => ?_)
    refine lv_iinc (v := (v3 + (1 : Int32))) (lv' := [(3, .int (v3 + (1 : Int32))), (0, .ref (Γ.1 145)), (1, .ref (Γ.1 b1)), (2, .ref (Γ.1 138))]) C.1 C.2.1 (kd kX2_make_1 7 rfl) hl (k := 3) rfl rfl (Nat.le_of_ble_eq_true rfl) rfl (fun ls hl => ?_)
    refine lv_goto (tgt := 101) C.1 C.2.1 (kd kX2_make_1 8 rfl) (by decide) ?_
    exact hK101 ((v3 + (1 : Int32))) σ2 H locs ls hf hP hS (lv_sub hl [1, 2, 3, 0] rfl)
def f_X2_make_b34 (b1 : Nat) : Nat → Int32 → fS → Option (fS)
  | 0, _, _ => none
  | n_ + 1, v3, σ => fcall (f_X5_size (b1 + 7) 24 3 σ) (fun r1_ σ1 => (if r1_ ≤ v3 then f_X2_make_b101 b1 fN ((0 : Int32)) σ1 else fb v3 24 (fL (fu σ1 152 v3.toNatClampNeg (-10004 : Int32)) (fun σ2 => fb v3 24 (fL (fu σ2 153 v3.toNatClampNeg (-10004 : Int32)) (fun σ3 => fb v3 24 (fL (fu σ3 154 v3.toNatClampNeg (-10004 : Int32)) (fun σ4 => fb v3 24 (fL (fu σ4 155 v3.toNatClampNeg (0 : Int32)) (fun σ5 => fcall (f_X5_at (b1 + 7) 24 3 v3 (0 : Int32) σ5) (fun r6_ σ6 => fcallv (f_X2_lineUp r6_ v3 σ6) (fun σ7 => (fun v3 σ => f_X2_make_b34 b1 n_ v3 σ) ((v3 + (1 : Int32))) σ7))))))))))))
set_option maxRecDepth 100000 in
set_option maxHeartbeats 4000000 in
theorem w_X2_make_b34 {b1 : Nat} {σ' : fS} (h1 : fD b1 = (3, 0, 0))  (C : fC Γ p s m args meth c cX2_make none RX2 4) : ∀ (n_ : Nat) (v3 : Int32) (σ : fS) (H : Heap) (locs : List Loc) (ls : Array Slot), f_X2_make_b34 b1 n_ v3 σ = some σ' → fH Γ σ H → va_S (fAd Γ) s.heap H locs → lv_has ls 4 [(0, .ref (Γ.1 145)), (1, .ref (Γ.1 b1)), (2, .ref (Γ.1 138)), (3, .int v3)] → W p l e ({ frames := 5, cells := 0, slots := 0, locals := 126 } : Room) s m args below meth c H locs 0 0 (MQ below (fQv Γ σ') args s 0 0 (fAd Γ)) (F0 m 34 ls []) := by
  intro n_
  induction n_ with
  | zero =>
    intro v3 σ H locs ls hf
    cases hf
  | succ n_ ih =>
    intro v3 σ H locs ls hf hP hS hl
    have hf : fcall (f_X5_size (b1 + 7) 24 3 σ) (fun r1_ σ1 => (if r1_ ≤ v3 then f_X2_make_b101 b1 fN ((0 : Int32)) σ1 else fb v3 24 (fL (fu σ1 152 v3.toNatClampNeg (-10004 : Int32)) (fun σ2 => fb v3 24 (fL (fu σ2 153 v3.toNatClampNeg (-10004 : Int32)) (fun σ3 => fb v3 24 (fL (fu σ3 154 v3.toNatClampNeg (-10004 : Int32)) (fun σ4 => fb v3 24 (fL (fu σ4 155 v3.toNatClampNeg (0 : Int32)) (fun σ5 => fcall (f_X5_at (b1 + 7) 24 3 v3 (0 : Int32) σ5) (fun r6_ σ6 => fcallv (f_X2_lineUp r6_ v3 σ6) (fun σ7 => (fun v3 σ => f_X2_make_b34 b1 n_ v3 σ) ((v3 + (1 : Int32))) σ7)))))))))))) = some σ' := hf
    have hK34 := ih
    refine lv_iload_n C.1 C.2.1 (kd kX2_make_0 20 rfl) rfl (lv_at hl 3 rfl) ?_
    refine lv_aload_n C.1 C.2.1 (kd kX2_make_0 21 rfl) rfl (lv_at hl 1 rfl) ?_
    refine fl_get (j := 3) (v := .ref (Γ.1 (b1 + 7))) C hP (fe_P h1) (fD_lt h1) rfl inX3 (Nat.le_of_ble_eq_true rfl) tw_122 rfl (kd kX2_make_0 22 rfl) ?_
    obtain ⟨r1_, σ1, hσ1, hf⟩ := fcall_some hf
    refine fl_i hS (fl_runV (As := []) (rest := [.int v3]) C hP (fe_T (fD_prt h1).2.2.2.1) (fD_lt (fD_prt h1).2.2.2.1) rfl (m_X5_size C.2.2.2.2.2.2.2.2 l (fD_prt h1).2.2.2.1 hσ1) (fgV tw_616 tw_414 tw_415 tw_69 tw_416) hd_X5_size ⟨rfl, rfl, Nat.le_of_ble_eq_true rfl, Nat.le_of_ble_eq_true rfl⟩ rfl hl.1 rfl (Nat.le_of_ble_eq_true rfl) (kd kX2_make_0 23 rfl)) (fun H locs hP hS => ?_)
    refine lv_icmp_ge (tgt := 99) C.1 C.2.1 (kd kX2_make_0 24 rfl) (by decide) (fun q => ?_) (fun q => ?_)
    · have hf := fif_pos q hf
      refine lv_iconst (v := (0 : Int32)) C.1 C.2.1 (kd kX2_make_0 55 rfl) (by decide) ?_
      refine lv_istore_n (lv' := [(3, .int (0 : Int32)), (0, .ref (Γ.1 145)), (1, .ref (Γ.1 b1)), (2, .ref (Γ.1 138))]) C.1 C.2.1 (kd kX2_make_0 56 rfl) rfl hl (Nat.le_of_ble_eq_true rfl) rfl (fun ls hl => ?_)
      exact w_X2_make_b101 h1 C fN ((0 : Int32)) σ1 H locs ls hf hP hS (lv_sub hl [1, 2, 3, 0] rfl)
    have hf := fif_neg q hf
    refine lv_aload_n C.1 C.2.1 (kd kX2_make_0 25 rfl) rfl (lv_at hl 0 rfl) ?_
    refine fl_get (j := 6) (v := .ref (Γ.1 152)) C hP rfl (Nat.le_of_ble_eq_true rfl) rfl inX2 (Nat.le_of_ble_eq_true rfl) tw_212 rfl (kd kX2_make_0 26 rfl) ?_
    refine lv_iload_n C.1 C.2.1 (kd kX2_make_0 27 rfl) rfl (lv_at hl 3 rfl) ?_
    refine lv_sipush (v := (-10004 : Int32)) C.1 C.2.1 (kd kX2_make_0 28 rfl) (by decide) ?_
    obtain ⟨hq, hf⟩ := fb_some hf
    obtain ⟨σ2, eσ2, hf⟩ := fL_some hf
    refine fl_iast C hP hS rfl hq (kd kX2_make_0 29 rfl) (fun H locs hP hS => ?_)
    have hP : fH Γ σ2 H := by rw [eσ2]; exact hP
    refine lv_aload_n C.1 C.2.1 (kd kX2_make_0 30 rfl) rfl (lv_at hl 0 rfl) ?_
    refine fl_get (j := 7) (v := .ref (Γ.1 153)) C hP rfl (Nat.le_of_ble_eq_true rfl) rfl inX2 (Nat.le_of_ble_eq_true rfl) tw_213 rfl (kd kX2_make_0 31 rfl) ?_
    refine lv_iload_n C.1 C.2.1 (kd kX2_make_0 32 rfl) rfl (lv_at hl 3 rfl) ?_
    refine lv_sipush (v := (-10004 : Int32)) C.1 C.2.1 (kd kX2_make_0 33 rfl) (by decide) ?_
    obtain ⟨hq, hf⟩ := fb_some hf
    obtain ⟨σ3, eσ3, hf⟩ := fL_some hf
    refine fl_iast C hP hS rfl hq (kd kX2_make_0 34 rfl) (fun H locs hP hS => ?_)
    have hP : fH Γ σ3 H := by rw [eσ3]; exact hP
    refine lv_aload_n C.1 C.2.1 (kd kX2_make_0 35 rfl) rfl (lv_at hl 0 rfl) ?_
    refine fl_get (j := 8) (v := .ref (Γ.1 154)) C hP rfl (Nat.le_of_ble_eq_true rfl) rfl inX2 (Nat.le_of_ble_eq_true rfl) tw_214 rfl (kd kX2_make_0 36 rfl) ?_
    refine lv_iload_n C.1 C.2.1 (kd kX2_make_0 37 rfl) rfl (lv_at hl 3 rfl) ?_
    refine lv_sipush (v := (-10004 : Int32)) C.1 C.2.1 (kd kX2_make_0 38 rfl) (by decide) ?_
    obtain ⟨hq, hf⟩ := fb_some hf
    obtain ⟨σ4, eσ4, hf⟩ := fL_some hf
    refine fl_iast C hP hS rfl hq (kd kX2_make_0 39 rfl) (fun H locs hP hS => ?_)
    have hP : fH Γ σ4 H := by rw [eσ4]; exact hP
    refine lv_aload_n C.1 C.2.1 (kd kX2_make_0 40 rfl) rfl (lv_at hl 0 rfl) ?_
    refine fl_get (j := 9) (v := .ref (Γ.1 155)) C hP rfl (Nat.le_of_ble_eq_true rfl) rfl inX2 (Nat.le_of_ble_eq_true rfl) tw_215 rfl (kd kX2_make_0 41 rfl) ?_
    refine lv_iload_n C.1 C.2.1 (kd kX2_make_0 42 rfl) rfl (lv_at hl 3 rfl) ?_
    refine lv_iconst (v := (0 : Int32)) C.1 C.2.1 (kd kX2_make_0 43 rfl) (by decide) ?_
    obtain ⟨hq, hf⟩ := fb_some hf
    obtain ⟨σ5, eσ5, hf⟩ := fL_some hf
    refine fl_iast C hP hS rfl hq (kd kX2_make_0 44 rfl) (fun H locs hP hS => ?_)
    have hP : fH Γ σ5 H := by rw [eσ5]; exact hP
    refine lv_aload_n C.1 C.2.1 (kd kX2_make_0 45 rfl) rfl (lv_at hl 0 rfl) ?_
    refine lv_aload_n C.1 C.2.1 (kd kX2_make_0 46 rfl) rfl (lv_at hl 1 rfl) ?_
    refine fl_get (j := 3) (v := .ref (Γ.1 (b1 + 7))) C hP (fe_P h1) (fD_lt h1) rfl inX3 (Nat.le_of_ble_eq_true rfl) tw_122 rfl (kd kX2_make_0 47 rfl) ?_
    refine lv_iload_n C.1 C.2.1 (kd kX2_make_0 48 rfl) rfl (lv_at hl 3 rfl) ?_
    refine lv_iconst (v := (0 : Int32)) C.1 C.2.1 (kd kX2_make_0 49 rfl) (by decide) ?_
    obtain ⟨r6_, σ6, hσ6, hf⟩ := fcall_some hf
    refine fl_i hS (fl_runV (As := [.int v3, .int (0 : Int32)]) (rest := [.ref (Γ.1 145)]) C hP (fe_T (fD_prt h1).2.2.2.1) (fD_lt (fD_prt h1).2.2.2.1) rfl (m_X5_at C.2.2.2.2.2.2.2.2 l (fD_prt h1).2.2.2.1 hσ6) (fgV tw_625 tw_418 tw_419 tw_69 tw_420) hd_X5_at ⟨rfl, rfl, Nat.le_of_ble_eq_true rfl, Nat.le_of_ble_eq_true rfl⟩ rfl hl.1 rfl (Nat.le_of_ble_eq_true rfl) (kd kX2_make_0 50 rfl)) (fun H locs hP hS => ?_)
    refine lv_iload_n C.1 C.2.1 (kd kX2_make_0 51 rfl) rfl (lv_at hl 3 rfl) ?_
    obtain ⟨σ7, hσ7, hf⟩ := fcallv_some hf
    refine fl_v hS (fl_runV (As := [.int r6_, .int v3]) (rest := []) C hP rfl (Nat.le_of_ble_eq_true rfl) rfl (m_X2_lineUp C.2.2.2.2.2.2.2.2 l  hσ7) (fgV tw_626 tw_628 tw_11 tw_72 tw_629) hd_X2_lineUp ⟨rfl, rfl, Nat.le_of_ble_eq_true rfl, Nat.le_of_ble_eq_true rfl⟩ rfl hl.1 rfl (Nat.le_of_ble_eq_true rfl) (kd kX2_make_0 52 rfl)) (fun H locs hP hS => ?_)
    refine lv_iinc (v := (v3 + (1 : Int32))) (lv' := [(3, .int (v3 + (1 : Int32))), (0, .ref (Γ.1 145)), (1, .ref (Γ.1 b1)), (2, .ref (Γ.1 138))]) C.1 C.2.1 (kd kX2_make_0 53 rfl) hl (k := 3) rfl rfl (Nat.le_of_ble_eq_true rfl) rfl (fun ls hl => ?_)
    refine lv_goto (tgt := 34) C.1 C.2.1 (kd kX2_make_0 54 rfl) (by decide) ?_
    exact hK34 ((v3 + (1 : Int32))) σ7 H locs ls hf hP hS (lv_sub hl [1, 2, 3, 0] rfl)
def f_X2_make_b2 (b1 : Nat) : Nat → Int32 → fS → Option (fS)
  | 0, _, _ => none
  | n_ + 1, v3, σ => fcall (f_X5_size (b1 + 5) 12 4 σ) (fun r1_ σ1 => (if r1_ ≤ v3 then f_X2_make_b34 b1 fN ((0 : Int32)) σ1 else fb v3 12 (fL (fu σ1 146 v3.toNatClampNeg (0 : Int32)) (fun σ2 => fcallv (f_X2_emptyLanes b1 v3 σ2) (fun σ3 => (fun v3 σ => f_X2_make_b2 b1 n_ v3 σ) ((v3 + (1 : Int32))) σ3)))))
set_option maxRecDepth 100000 in
set_option maxHeartbeats 4000000 in
theorem w_X2_make_b2 {b1 : Nat} {σ' : fS} (h1 : fD b1 = (3, 0, 0))  (C : fC Γ p s m args meth c cX2_make none RX2 4) : ∀ (n_ : Nat) (v3 : Int32) (σ : fS) (H : Heap) (locs : List Loc) (ls : Array Slot), f_X2_make_b2 b1 n_ v3 σ = some σ' → fH Γ σ H → va_S (fAd Γ) s.heap H locs → lv_has ls 4 [(0, .ref (Γ.1 145)), (1, .ref (Γ.1 b1)), (2, .ref (Γ.1 138)), (3, .int v3)] → W p l e ({ frames := 5, cells := 0, slots := 0, locals := 126 } : Room) s m args below meth c H locs 0 0 (MQ below (fQv Γ σ') args s 0 0 (fAd Γ)) (F0 m 2 ls []) := by
  intro n_
  induction n_ with
  | zero =>
    intro v3 σ H locs ls hf
    cases hf
  | succ n_ ih =>
    intro v3 σ H locs ls hf hP hS hl
    have hf : fcall (f_X5_size (b1 + 5) 12 4 σ) (fun r1_ σ1 => (if r1_ ≤ v3 then f_X2_make_b34 b1 fN ((0 : Int32)) σ1 else fb v3 12 (fL (fu σ1 146 v3.toNatClampNeg (0 : Int32)) (fun σ2 => fcallv (f_X2_emptyLanes b1 v3 σ2) (fun σ3 => (fun v3 σ => f_X2_make_b2 b1 n_ v3 σ) ((v3 + (1 : Int32))) σ3))))) = some σ' := hf
    have hK2 := ih
    refine lv_iload_n C.1 C.2.1 (kd kX2_make_0 2 rfl) rfl (lv_at hl 3 rfl) ?_
    refine lv_aload_n C.1 C.2.1 (kd kX2_make_0 3 rfl) rfl (lv_at hl 1 rfl) ?_
    refine fl_get (j := 2) (v := .ref (Γ.1 (b1 + 5))) C hP (fe_P h1) (fD_lt h1) rfl inX3 (Nat.le_of_ble_eq_true rfl) tw_119 rfl (kd kX2_make_0 4 rfl) ?_
    obtain ⟨r1_, σ1, hσ1, hf⟩ := fcall_some hf
    refine fl_i hS (fl_runV (As := []) (rest := [.int v3]) C hP (fe_T (fD_prt h1).2.2.1) (fD_lt (fD_prt h1).2.2.1) rfl (m_X5_size C.2.2.2.2.2.2.2.2 l (fD_prt h1).2.2.1 hσ1) (fgV tw_616 tw_414 tw_415 tw_69 tw_416) hd_X5_size ⟨rfl, rfl, Nat.le_of_ble_eq_true rfl, Nat.le_of_ble_eq_true rfl⟩ rfl hl.1 rfl (Nat.le_of_ble_eq_true rfl) (kd kX2_make_0 5 rfl)) (fun H locs hP hS => ?_)
    refine lv_icmp_ge (tgt := 32) C.1 C.2.1 (kd kX2_make_0 6 rfl) (by decide) (fun q => ?_) (fun q => ?_)
    · have hf := fif_pos q hf
      refine lv_iconst (v := (0 : Int32)) C.1 C.2.1 (kd kX2_make_0 18 rfl) (by decide) ?_
      refine lv_istore_n (lv' := [(3, .int (0 : Int32)), (0, .ref (Γ.1 145)), (1, .ref (Γ.1 b1)), (2, .ref (Γ.1 138))]) C.1 C.2.1 (kd kX2_make_0 19 rfl) rfl hl (Nat.le_of_ble_eq_true rfl) rfl (fun ls hl => ?_)
      exact w_X2_make_b34 h1 C fN ((0 : Int32)) σ1 H locs ls hf hP hS (lv_sub hl [1, 2, 3, 0] rfl)
    have hf := fif_neg q hf
    refine lv_aload_n C.1 C.2.1 (kd kX2_make_0 7 rfl) rfl (lv_at hl 0 rfl) ?_
    refine fl_get (j := 0) (v := .ref (Γ.1 146)) C hP rfl (Nat.le_of_ble_eq_true rfl) rfl inX2 (Nat.le_of_ble_eq_true rfl) tw_203 rfl (kd kX2_make_0 8 rfl) ?_
    refine lv_iload_n C.1 C.2.1 (kd kX2_make_0 9 rfl) rfl (lv_at hl 3 rfl) ?_
    refine lv_iconst (v := (0 : Int32)) C.1 C.2.1 (kd kX2_make_0 10 rfl) (by decide) ?_
    obtain ⟨hq, hf⟩ := fb_some hf
    obtain ⟨σ2, eσ2, hf⟩ := fL_some hf
    refine fl_iast C hP hS rfl hq (kd kX2_make_0 11 rfl) (fun H locs hP hS => ?_)
    have hP : fH Γ σ2 H := by rw [eσ2]; exact hP
    refine lv_aload_n C.1 C.2.1 (kd kX2_make_0 12 rfl) rfl (lv_at hl 0 rfl) ?_
    refine lv_aload_n C.1 C.2.1 (kd kX2_make_0 13 rfl) rfl (lv_at hl 1 rfl) ?_
    refine lv_iload_n C.1 C.2.1 (kd kX2_make_0 14 rfl) rfl (lv_at hl 3 rfl) ?_
    obtain ⟨σ3, hσ3, hf⟩ := fcallv_some hf
    refine fl_v hS (fl_runV (As := [.ref (Γ.1 b1), .int v3]) (rest := []) C hP rfl (Nat.le_of_ble_eq_true rfl) rfl (m_X2_emptyLanes C.2.2.2.2.2.2.2.2 l h1 hσ3) (fgV tw_617 tw_619 tw_10 tw_72 tw_620) hd_X2_emptyLanes ⟨rfl, rfl, Nat.le_of_ble_eq_true rfl, Nat.le_of_ble_eq_true rfl⟩ rfl hl.1 rfl (Nat.le_of_ble_eq_true rfl) (kd kX2_make_0 15 rfl)) (fun H locs hP hS => ?_)
    refine lv_iinc (v := (v3 + (1 : Int32))) (lv' := [(3, .int (v3 + (1 : Int32))), (0, .ref (Γ.1 145)), (1, .ref (Γ.1 b1)), (2, .ref (Γ.1 138))]) C.1 C.2.1 (kd kX2_make_0 16 rfl) hl (k := 3) rfl rfl (Nat.le_of_ble_eq_true rfl) rfl (fun ls hl => ?_)
    refine lv_goto (tgt := 2) C.1 C.2.1 (kd kX2_make_0 17 rfl) (by decide) ?_
    exact hK2 ((v3 + (1 : Int32))) σ3 H locs ls hf hP hS (lv_sub hl [1, 2, 3, 0] rfl)
def f_X2_make (b1 : Nat) (σ : fS) : Option (fS) := f_X2_make_b2 b1 fN ((0 : Int32)) σ
set_option maxRecDepth 100000 in
set_option maxHeartbeats 4000000 in
theorem m_X2_make {Γ : fGm} (hI : fI Γ) (l : Launch) {b1 : Nat} (h1 : fD b1 = (3, 0, 0)) {σ : fS} {σ' : fS} (hf : f_X2_make b1 σ = some σ') : Met l yX2_make (.code yX2_make cX2_make 4 none :: lw_g) ({ frames := 5, cells := 0, slots := 0, locals := 126 } : Room) (fPre Γ [.ref (Γ.1 145), .ref (Γ.1 b1), .ref (Γ.1 138)] σ) (fQv Γ σ') 0 0 (fAd Γ) := by
  refine fl_enter (own := RX2) hI (by decide +kernel) rfl (Nat.le_of_ble_eq_true rfl) ?_
  intro p e s m args below meth c ls C hl hP hS
  have hl : lv_has ls 4 [(0, .ref (Γ.1 145)), (1, .ref (Γ.1 b1)), (2, .ref (Γ.1 138))] := hl
  obtain ⟨H, hH⟩ : ∃ H, H = s.heap := ⟨_, rfl⟩
  obtain ⟨locs, hL⟩ : ∃ L : List Loc, L = [] := ⟨_, rfl⟩
  have hP : fH Γ σ H := by rw [hH]; exact hP
  have hS : va_S (fAd Γ) s.heap H locs := by rw [hH, hL]; exact hS
  suffices hw : W p l e ({ frames := 5, cells := 0, slots := 0, locals := 126 } : Room) s m args below meth c H locs 0 0 (MQ below (fQv Γ σ') args s 0 0 (fAd Γ)) (F0 m 0 ls []) by rw [hH, hL] at hw; exact hw
  unfold f_X2_make at hf
  refine lv_iconst (v := (0 : Int32)) C.1 C.2.1 (kd kX2_make_0 0 rfl) (by decide) ?_
  refine lv_istore_n (lv' := [(3, .int (0 : Int32)), (0, .ref (Γ.1 145)), (1, .ref (Γ.1 b1)), (2, .ref (Γ.1 138))]) C.1 C.2.1 (kd kX2_make_0 1 rfl) rfl hl (Nat.le_of_ble_eq_true rfl) rfl (fun ls hl => ?_)
  exact w_X2_make_b2 h1 C fN ((0 : Int32)) σ H locs ls hf hP hS (lv_sub hl [1, 2, 3, 0] rfl)
def f_X2_tell (x1 : Int32) (x2 : Int32) (σ : fS) : Option (Int32 × fS) := (if x2 = (3 : Int32) then fb x1 24 (some ((σ 152 x1.toNatClampNeg), σ)) else if x2 = (4 : Int32) then fb x1 24 (some ((σ 153 x1.toNatClampNeg), σ)) else if x2 = (5 : Int32) then fb x1 24 (some ((σ 154 x1.toNatClampNeg), σ)) else fb x1 24 (some ((σ 155 x1.toNatClampNeg), σ)))
set_option maxRecDepth 100000 in
set_option maxHeartbeats 4000000 in
theorem m_X2_tell {Γ : fGm} (hI : fI Γ) (l : Launch) {x1 : Int32} {x2 : Int32} {σ : fS} {r : Int32} {σ' : fS} (hf : f_X2_tell x1 x2 σ = some (r, σ')) : Met l yX2_tell (.code yX2_tell cX2_tell 3 (some .int) :: lw_g) ({ frames := 0, cells := 0, slots := 0, locals := 0 } : Room) (fPre Γ [.ref (Γ.1 145), .int x1, .int x2] σ) (fQi Γ r σ') 0 0 (fAd Γ) := by
  refine fl_enter (own := RX2) hI (by decide +kernel) rfl (Nat.le_of_ble_eq_true rfl) ?_
  intro p e s m args below meth c ls C hl hP hS
  have hl : lv_has ls 3 [(0, .ref (Γ.1 145)), (1, .int x1), (2, .int x2)] := hl
  obtain ⟨H, hH⟩ : ∃ H, H = s.heap := ⟨_, rfl⟩
  obtain ⟨locs, hL⟩ : ∃ L : List Loc, L = [] := ⟨_, rfl⟩
  have hP : fH Γ σ H := by rw [hH]; exact hP
  have hS : va_S (fAd Γ) s.heap H locs := by rw [hH, hL]; exact hS
  suffices hw : W p l e ({ frames := 0, cells := 0, slots := 0, locals := 0 } : Room) s m args below meth c H locs 0 0 (MQ below (fQi Γ r σ') args s 0 0 (fAd Γ)) (F0 m 0 ls []) by rw [hH, hL] at hw; exact hw
  unfold f_X2_tell at hf
  refine lv_iload_n C.1 C.2.1 (kd kX2_tell_0 0 rfl) rfl (lv_at hl 2 rfl) ?_
  by_cases q0 : x2 = (3 : Int32)
  · have hf := fif_pos q0 hf
    refine lv_tableIn (tgt := 28) C.1 C.2.1 (kd kX2_tell_0 1 rfl) (by rw [q0] <;> decide) (by rw [q0] <;> decide) (by rw [q0] <;> rfl) (by decide) ?_
    refine lv_aload_n C.1 C.2.1 (kd kX2_tell_0 2 rfl) rfl (lv_at hl 0 rfl) ?_
    refine fl_get (j := 6) (v := .ref (Γ.1 152)) C hP rfl (Nat.le_of_ble_eq_true rfl) rfl inX2 (Nat.le_of_ble_eq_true rfl) tw_212 rfl (kd kX2_tell_0 3 rfl) ?_
    refine lv_iload_n C.1 C.2.1 (kd kX2_tell_0 4 rfl) rfl (lv_at hl 1 rfl) ?_
    obtain ⟨hq, hf⟩ := fb_some hf
    refine fl_iald C hP rfl hq (kd kX2_tell_0 5 rfl) ?_
    exact fl_iret C hP hS hf (kd kX2_tell_0 6 rfl)
  have hf := fif_neg q0 hf
  have z0 : ¬ x2.toInt = 3 := fi_ne q0 (by decide)
  by_cases q1 : x2 = (4 : Int32)
  · have hf := fif_pos q1 hf
    refine lv_tableIn (tgt := 35) C.1 C.2.1 (kd kX2_tell_0 1 rfl) (by rw [q1] <;> decide) (by rw [q1] <;> decide) (by rw [q1] <;> rfl) (by decide) ?_
    refine lv_aload_n C.1 C.2.1 (kd kX2_tell_0 7 rfl) rfl (lv_at hl 0 rfl) ?_
    refine fl_get (j := 7) (v := .ref (Γ.1 153)) C hP rfl (Nat.le_of_ble_eq_true rfl) rfl inX2 (Nat.le_of_ble_eq_true rfl) tw_213 rfl (kd kX2_tell_0 8 rfl) ?_
    refine lv_iload_n C.1 C.2.1 (kd kX2_tell_0 9 rfl) rfl (lv_at hl 1 rfl) ?_
    obtain ⟨hq, hf⟩ := fb_some hf
    refine fl_iald C hP rfl hq (kd kX2_tell_0 10 rfl) ?_
    exact fl_iret C hP hS hf (kd kX2_tell_0 11 rfl)
  have hf := fif_neg q1 hf
  have z1 : ¬ x2.toInt = 4 := fi_ne q1 (by decide)
  by_cases q2 : x2 = (5 : Int32)
  · have hf := fif_pos q2 hf
    refine lv_tableIn (tgt := 42) C.1 C.2.1 (kd kX2_tell_0 1 rfl) (by rw [q2] <;> decide) (by rw [q2] <;> decide) (by rw [q2] <;> rfl) (by decide) ?_
    refine lv_aload_n C.1 C.2.1 (kd kX2_tell_0 12 rfl) rfl (lv_at hl 0 rfl) ?_
    refine fl_get (j := 8) (v := .ref (Γ.1 154)) C hP rfl (Nat.le_of_ble_eq_true rfl) rfl inX2 (Nat.le_of_ble_eq_true rfl) tw_214 rfl (kd kX2_tell_0 13 rfl) ?_
    refine lv_iload_n C.1 C.2.1 (kd kX2_tell_0 14 rfl) rfl (lv_at hl 1 rfl) ?_
    obtain ⟨hq, hf⟩ := fb_some hf
    refine fl_iald C hP rfl hq (kd kX2_tell_0 15 rfl) ?_
    exact fl_iret C hP hS hf (kd kX2_tell_0 16 rfl)
  have hf := fif_neg q2 hf
  have z2 : ¬ x2.toInt = 5 := fi_ne q2 (by decide)
  refine lv_tableOut (tgt := 49) C.1 C.2.1 (kd kX2_tell_0 1 rfl) (by omega) (by decide) ?_
  refine lv_aload_n C.1 C.2.1 (kd kX2_tell_0 17 rfl) rfl (lv_at hl 0 rfl) ?_
  refine fl_get (j := 9) (v := .ref (Γ.1 155)) C hP rfl (Nat.le_of_ble_eq_true rfl) rfl inX2 (Nat.le_of_ble_eq_true rfl) tw_215 rfl (kd kX2_tell_0 18 rfl) ?_
  refine lv_iload_n C.1 C.2.1 (kd kX2_tell_0 19 rfl) rfl (lv_at hl 1 rfl) ?_
  obtain ⟨hq, hf⟩ := fb_some hf
  refine fl_iald C hP rfl hq (kd kX2_tell_0 20 rfl) ?_
  exact fl_iret C hP hS hf (kd kX2_tell_0 21 rfl)
def f_X2_standingAt_b52 (b1 : Nat) (K3 : Int32 → Int32 → Int32 → Int32 → fS → Option (Int32 × fS)) (v2 : Int32) (v3 : Int32) (v4 : Int32) (v5 : Int32) (σ : fS) : Option (Int32 × fS) := K3 (v2) (v3) (v4) ((v5 + (1 : Int32))) σ
set_option maxRecDepth 100000 in
set_option maxHeartbeats 4000000 in
theorem w_X2_standingAt_b52 {b1 : Nat} {r : Int32} {σ' : fS} {K3 : Int32 → Int32 → Int32 → Int32 → fS → Option (Int32 × fS)} (h1 : fD b1 = (3, 0, 0))  (C : fC Γ p s m args meth c cX2_standingAt (some .int) RX2 6) (hK3 : ∀ (v2 : Int32) (v3 : Int32) (v4 : Int32) (v5 : Int32) (σ : fS) (H : Heap) (locs : List Loc) (ls : Array Slot), K3 v2 v3 v4 v5 σ = some (r, σ') → fH Γ σ H → va_S (fAd Γ) s.heap H locs → lv_has ls 6 [(0, .ref (Γ.1 145)), (1, .ref (Γ.1 b1)), (2, .int v2), (3, .int v3), (4, .int v4), (5, .int v5)] → W p l e ({ frames := 1, cells := 0, slots := 0, locals := 20 } : Room) s m args below meth c H locs 0 0 (MQ below (fQi Γ r σ') args s 0 0 (fAd Γ)) (F0 m 3 ls [])) : ∀ (v2 : Int32) (v3 : Int32) (v4 : Int32) (v5 : Int32) (σ : fS) (H : Heap) (locs : List Loc) (ls : Array Slot), f_X2_standingAt_b52 b1 K3 v2 v3 v4 v5 σ = some (r, σ') → fH Γ σ H → va_S (fAd Γ) s.heap H locs → lv_has ls 6 [(0, .ref (Γ.1 145)), (1, .ref (Γ.1 b1)), (2, .int v2), (3, .int v3), (4, .int v4), (5, .int v5)] → W p l e ({ frames := 1, cells := 0, slots := 0, locals := 20 } : Room) s m args below meth c H locs 0 0 (MQ below (fQi Γ r σ') args s 0 0 (fAd Γ)) (F0 m 52 ls []) := by
  intro v2 v3 v4 v5 σ H locs ls hf hP hS hl
  unfold f_X2_standingAt_b52 at hf
  refine lv_iinc (v := (v5 + (1 : Int32))) (lv' := [(5, .int (v5 + (1 : Int32))), (0, .ref (Γ.1 145)), (1, .ref (Γ.1 b1)), (2, .int v2), (3, .int v3), (4, .int v4)]) C.1 C.2.1 (kd kX2_standingAt_0 27 rfl) hl (k := 5) rfl rfl (Nat.le_of_ble_eq_true rfl) rfl (fun ls hl => ?_)
  refine lv_goto (tgt := 3) C.1 C.2.1 (kd kX2_standingAt_0 28 rfl) (by decide) ?_
  exact hK3 (v2) (v3) (v4) ((v5 + (1 : Int32))) σ H locs ls hf hP hS (lv_sub hl [1, 2, 3, 4, 5, 0] rfl)
def f_X2_standingAt_b3 (b1 : Nat) : Nat → Int32 → Int32 → Int32 → Int32 → fS → Option (Int32 × fS)
  | 0, _, _, _, _, _ => none
  | n_ + 1, v2, v3, v4, v5, σ => fcall (f_X5_size (b1 + 7) 24 3 σ) (fun r1_ σ1 => (if r1_ ≤ v5 then some ((-10004 : Int32), σ1) else fb v5 24 ((if (σ1 152 v5.toNatClampNeg) = v2 then fb v5 24 ((if (σ1 153 v5.toNatClampNeg) = v3 then fb v5 24 ((if (σ1 154 v5.toNatClampNeg) = v4 then some (v5, σ1) else f_X2_standingAt_b52 b1 (fun v2 v3 v4 v5 σ => f_X2_standingAt_b3 b1 n_ v2 v3 v4 v5 σ) (v2) (v3) (v4) (v5) σ1)) else f_X2_standingAt_b52 b1 (fun v2 v3 v4 v5 σ => f_X2_standingAt_b3 b1 n_ v2 v3 v4 v5 σ) (v2) (v3) (v4) (v5) σ1)) else f_X2_standingAt_b52 b1 (fun v2 v3 v4 v5 σ => f_X2_standingAt_b3 b1 n_ v2 v3 v4 v5 σ) (v2) (v3) (v4) (v5) σ1))))
set_option maxRecDepth 100000 in
set_option maxHeartbeats 4000000 in
theorem w_X2_standingAt_b3 {b1 : Nat} {r : Int32} {σ' : fS} (h1 : fD b1 = (3, 0, 0))  (C : fC Γ p s m args meth c cX2_standingAt (some .int) RX2 6) : ∀ (n_ : Nat) (v2 : Int32) (v3 : Int32) (v4 : Int32) (v5 : Int32) (σ : fS) (H : Heap) (locs : List Loc) (ls : Array Slot), f_X2_standingAt_b3 b1 n_ v2 v3 v4 v5 σ = some (r, σ') → fH Γ σ H → va_S (fAd Γ) s.heap H locs → lv_has ls 6 [(0, .ref (Γ.1 145)), (1, .ref (Γ.1 b1)), (2, .int v2), (3, .int v3), (4, .int v4), (5, .int v5)] → W p l e ({ frames := 1, cells := 0, slots := 0, locals := 20 } : Room) s m args below meth c H locs 0 0 (MQ below (fQi Γ r σ') args s 0 0 (fAd Γ)) (F0 m 3 ls []) := by
  intro n_
  induction n_ with
  | zero =>
    intro v2 v3 v4 v5 σ H locs ls hf
    cases hf
  | succ n_ ih =>
    intro v2 v3 v4 v5 σ H locs ls hf hP hS hl
    have hf : fcall (f_X5_size (b1 + 7) 24 3 σ) (fun r1_ σ1 => (if r1_ ≤ v5 then some ((-10004 : Int32), σ1) else fb v5 24 ((if (σ1 152 v5.toNatClampNeg) = v2 then fb v5 24 ((if (σ1 153 v5.toNatClampNeg) = v3 then fb v5 24 ((if (σ1 154 v5.toNatClampNeg) = v4 then some (v5, σ1) else f_X2_standingAt_b52 b1 (fun v2 v3 v4 v5 σ => f_X2_standingAt_b3 b1 n_ v2 v3 v4 v5 σ) (v2) (v3) (v4) (v5) σ1)) else f_X2_standingAt_b52 b1 (fun v2 v3 v4 v5 σ => f_X2_standingAt_b3 b1 n_ v2 v3 v4 v5 σ) (v2) (v3) (v4) (v5) σ1)) else f_X2_standingAt_b52 b1 (fun v2 v3 v4 v5 σ => f_X2_standingAt_b3 b1 n_ v2 v3 v4 v5 σ) (v2) (v3) (v4) (v5) σ1)))) = some (r, σ') := hf
    have hK3 := ih
    refine lv_iload C.1 C.2.1 (kd kX2_standingAt_0 2 rfl) (lv_at hl 5 rfl) ?_
    refine lv_aload_n C.1 C.2.1 (kd kX2_standingAt_0 3 rfl) rfl (lv_at hl 1 rfl) ?_
    refine fl_get (j := 3) (v := .ref (Γ.1 (b1 + 7))) C hP (fe_P h1) (fD_lt h1) rfl inX3 (Nat.le_of_ble_eq_true rfl) tw_122 rfl (kd kX2_standingAt_0 4 rfl) ?_
    obtain ⟨r1_, σ1, hσ1, hf⟩ := fcall_some hf
    refine fl_i hS (fl_runV (As := []) (rest := [.int v5]) C hP (fe_T (fD_prt h1).2.2.2.1) (fD_lt (fD_prt h1).2.2.2.1) rfl (m_X5_size C.2.2.2.2.2.2.2.2 l (fD_prt h1).2.2.2.1 hσ1) (fgV tw_616 tw_414 tw_415 tw_69 tw_416) hd_X5_size ⟨rfl, rfl, Nat.le_of_ble_eq_true rfl, Nat.le_of_ble_eq_true rfl⟩ rfl hl.1 rfl (Nat.le_of_ble_eq_true rfl) (kd kX2_standingAt_0 5 rfl)) (fun H locs hP hS => ?_)
    refine lv_icmp_ge (tgt := 58) C.1 C.2.1 (kd kX2_standingAt_0 6 rfl) (by decide) (fun q => ?_) (fun q => ?_)
    · have hf := fif_pos q hf
      refine lv_sipush (v := (-10004 : Int32)) C.1 C.2.1 (kd kX2_standingAt_0 29 rfl) (by decide) ?_
      exact fl_iret C hP hS hf (kd kX2_standingAt_0 30 rfl)
    have hf := fif_neg q hf
    refine lv_aload_n C.1 C.2.1 (kd kX2_standingAt_0 7 rfl) rfl (lv_at hl 0 rfl) ?_
    refine fl_get (j := 6) (v := .ref (Γ.1 152)) C hP rfl (Nat.le_of_ble_eq_true rfl) rfl inX2 (Nat.le_of_ble_eq_true rfl) tw_212 rfl (kd kX2_standingAt_0 8 rfl) ?_
    refine lv_iload C.1 C.2.1 (kd kX2_standingAt_0 9 rfl) (lv_at hl 5 rfl) ?_
    obtain ⟨hq, hf⟩ := fb_some hf
    refine fl_iald C hP rfl hq (kd kX2_standingAt_0 10 rfl) ?_
    refine lv_iload_n C.1 C.2.1 (kd kX2_standingAt_0 11 rfl) rfl (lv_at hl 2 rfl) ?_
    refine lv_icmp_ne (tgt := 52) C.1 C.2.1 (kd kX2_standingAt_0 12 rfl) (by decide) (fun q => ?_) (fun q => ?_)
    · have hf := fif_neg q hf
      exact w_X2_standingAt_b52 h1 C hK3 (v2) (v3) (v4) (v5) σ1 H locs ls hf hP hS (lv_sub hl [0, 1, 2, 3, 4, 5] rfl)
    have hf := fif_pos q hf
    refine lv_aload_n C.1 C.2.1 (kd kX2_standingAt_0 13 rfl) rfl (lv_at hl 0 rfl) ?_
    refine fl_get (j := 7) (v := .ref (Γ.1 153)) C hP rfl (Nat.le_of_ble_eq_true rfl) rfl inX2 (Nat.le_of_ble_eq_true rfl) tw_213 rfl (kd kX2_standingAt_0 14 rfl) ?_
    refine lv_iload C.1 C.2.1 (kd kX2_standingAt_0 15 rfl) (lv_at hl 5 rfl) ?_
    obtain ⟨hq, hf⟩ := fb_some hf
    refine fl_iald C hP rfl hq (kd kX2_standingAt_0 16 rfl) ?_
    refine lv_iload_n C.1 C.2.1 (kd kX2_standingAt_0 17 rfl) rfl (lv_at hl 3 rfl) ?_
    refine lv_icmp_ne (tgt := 52) C.1 C.2.1 (kd kX2_standingAt_0 18 rfl) (by decide) (fun q => ?_) (fun q => ?_)
    · have hf := fif_neg q hf
      exact w_X2_standingAt_b52 h1 C hK3 (v2) (v3) (v4) (v5) σ1 H locs ls hf hP hS (lv_sub hl [0, 1, 2, 3, 4, 5] rfl)
    have hf := fif_pos q hf
    refine lv_aload_n C.1 C.2.1 (kd kX2_standingAt_0 19 rfl) rfl (lv_at hl 0 rfl) ?_
    refine fl_get (j := 8) (v := .ref (Γ.1 154)) C hP rfl (Nat.le_of_ble_eq_true rfl) rfl inX2 (Nat.le_of_ble_eq_true rfl) tw_214 rfl (kd kX2_standingAt_0 20 rfl) ?_
    refine lv_iload C.1 C.2.1 (kd kX2_standingAt_0 21 rfl) (lv_at hl 5 rfl) ?_
    obtain ⟨hq, hf⟩ := fb_some hf
    refine fl_iald C hP rfl hq (kd kX2_standingAt_0 22 rfl) ?_
    refine lv_iload C.1 C.2.1 (kd kX2_standingAt_0 23 rfl) (lv_at hl 4 rfl) ?_
    refine lv_icmp_ne (tgt := 52) C.1 C.2.1 (kd kX2_standingAt_0 24 rfl) (by decide) (fun q => ?_) (fun q => ?_)
    · have hf := fif_neg q hf
      exact w_X2_standingAt_b52 h1 C hK3 (v2) (v3) (v4) (v5) σ1 H locs ls hf hP hS (lv_sub hl [0, 1, 2, 3, 4, 5] rfl)
    have hf := fif_pos q hf
    refine lv_iload C.1 C.2.1 (kd kX2_standingAt_0 25 rfl) (lv_at hl 5 rfl) ?_
    exact fl_iret C hP hS hf (kd kX2_standingAt_0 26 rfl)
def f_X2_standingAt (b1 : Nat) (x2 : Int32) (x3 : Int32) (x4 : Int32) (σ : fS) : Option (Int32 × fS) := f_X2_standingAt_b3 b1 fN (x2) (x3) (x4) ((0 : Int32)) σ
set_option maxRecDepth 100000 in
set_option maxHeartbeats 4000000 in
theorem m_X2_standingAt {Γ : fGm} (hI : fI Γ) (l : Launch) {b1 : Nat} {x2 : Int32} {x3 : Int32} {x4 : Int32} (h1 : fD b1 = (3, 0, 0)) {σ : fS} {r : Int32} {σ' : fS} (hf : f_X2_standingAt b1 x2 x3 x4 σ = some (r, σ')) : Met l yX2_standingAt (.code yX2_standingAt cX2_standingAt 6 (some .int) :: lw_g) ({ frames := 1, cells := 0, slots := 0, locals := 20 } : Room) (fPre Γ [.ref (Γ.1 145), .ref (Γ.1 b1), .int x2, .int x3, .int x4] σ) (fQi Γ r σ') 0 0 (fAd Γ) := by
  refine fl_enter (own := RX2) hI (by decide +kernel) rfl (Nat.le_of_ble_eq_true rfl) ?_
  intro p e s m args below meth c ls C hl hP hS
  have hl : lv_has ls 6 [(0, .ref (Γ.1 145)), (1, .ref (Γ.1 b1)), (2, .int x2), (3, .int x3), (4, .int x4)] := hl
  obtain ⟨H, hH⟩ : ∃ H, H = s.heap := ⟨_, rfl⟩
  obtain ⟨locs, hL⟩ : ∃ L : List Loc, L = [] := ⟨_, rfl⟩
  have hP : fH Γ σ H := by rw [hH]; exact hP
  have hS : va_S (fAd Γ) s.heap H locs := by rw [hH, hL]; exact hS
  suffices hw : W p l e ({ frames := 1, cells := 0, slots := 0, locals := 20 } : Room) s m args below meth c H locs 0 0 (MQ below (fQi Γ r σ') args s 0 0 (fAd Γ)) (F0 m 0 ls []) by rw [hH, hL] at hw; exact hw
  unfold f_X2_standingAt at hf
  refine lv_iconst (v := (0 : Int32)) C.1 C.2.1 (kd kX2_standingAt_0 0 rfl) (by decide) ?_
  refine lv_istore (lv' := [(5, .int (0 : Int32)), (0, .ref (Γ.1 145)), (1, .ref (Γ.1 b1)), (2, .int x2), (3, .int x3), (4, .int x4)]) C.1 C.2.1 (kd kX2_standingAt_0 1 rfl) hl (Nat.le_of_ble_eq_true rfl) rfl (fun ls hl => ?_)
  exact w_X2_standingAt_b3 h1 C fN (x2) (x3) (x4) ((0 : Int32)) σ H locs ls hf hP hS (lv_sub hl [1, 2, 3, 4, 5, 0] rfl)
def f_X2_countInLane_b43 (b1 : Nat) (K6 : Int32 → Int32 → Int32 → Int32 → fS → Option (Int32 × fS)) (v2 : Int32) (v3 : Int32) (v4 : Int32) (v5 : Int32) (σ : fS) : Option (Int32 × fS) := K6 (v2) (v3) (v4) ((v5 + (1 : Int32))) σ
set_option maxRecDepth 100000 in
set_option maxHeartbeats 4000000 in
theorem w_X2_countInLane_b43 {b1 : Nat} {r : Int32} {σ' : fS} {K6 : Int32 → Int32 → Int32 → Int32 → fS → Option (Int32 × fS)} (h1 : fD b1 = (3, 0, 0))  (C : fC Γ p s m args meth c cX2_countInLane (some .int) RX2 6) (hK6 : ∀ (v2 : Int32) (v3 : Int32) (v4 : Int32) (v5 : Int32) (σ : fS) (H : Heap) (locs : List Loc) (ls : Array Slot), K6 v2 v3 v4 v5 σ = some (r, σ') → fH Γ σ H → va_S (fAd Γ) s.heap H locs → lv_has ls 6 [(0, .ref (Γ.1 145)), (1, .ref (Γ.1 b1)), (2, .int v2), (3, .int v3), (4, .int v4), (5, .int v5)] → W p l e ({ frames := 1, cells := 0, slots := 0, locals := 20 } : Room) s m args below meth c H locs 0 0 (MQ below (fQi Γ r σ') args s 0 0 (fAd Γ)) (F0 m 6 ls [])) : ∀ (v2 : Int32) (v3 : Int32) (v4 : Int32) (v5 : Int32) (σ : fS) (H : Heap) (locs : List Loc) (ls : Array Slot), f_X2_countInLane_b43 b1 K6 v2 v3 v4 v5 σ = some (r, σ') → fH Γ σ H → va_S (fAd Γ) s.heap H locs → lv_has ls 6 [(0, .ref (Γ.1 145)), (1, .ref (Γ.1 b1)), (2, .int v2), (3, .int v3), (4, .int v4), (5, .int v5)] → W p l e ({ frames := 1, cells := 0, slots := 0, locals := 20 } : Room) s m args below meth c H locs 0 0 (MQ below (fQi Γ r σ') args s 0 0 (fAd Γ)) (F0 m 43 ls []) := by
  intro v2 v3 v4 v5 σ H locs ls hf hP hS hl
  unfold f_X2_countInLane_b43 at hf
  refine lv_iinc (v := (v5 + (1 : Int32))) (lv' := [(5, .int (v5 + (1 : Int32))), (0, .ref (Γ.1 145)), (1, .ref (Γ.1 b1)), (2, .int v2), (3, .int v3), (4, .int v4)]) C.1 C.2.1 (kd kX2_countInLane_0 22 rfl) hl (k := 5) rfl rfl (Nat.le_of_ble_eq_true rfl) rfl (fun ls hl => ?_)
  refine lv_goto (tgt := 6) C.1 C.2.1 (kd kX2_countInLane_0 23 rfl) (by decide) ?_
  exact hK6 (v2) (v3) (v4) ((v5 + (1 : Int32))) σ H locs ls hf hP hS (lv_sub hl [1, 2, 3, 4, 5, 0] rfl)
def f_X2_countInLane_b6 (b1 : Nat) : Nat → Int32 → Int32 → Int32 → Int32 → fS → Option (Int32 × fS)
  | 0, _, _, _, _, _ => none
  | n_ + 1, v2, v3, v4, v5, σ => fcall (f_X5_size (b1 + 7) 24 3 σ) (fun r1_ σ1 => (if r1_ ≤ v5 then some (v4, σ1) else fb v5 24 ((if (σ1 152 v5.toNatClampNeg) = v2 then fb v5 24 ((if (σ1 153 v5.toNatClampNeg) = v3 then f_X2_countInLane_b43 b1 (fun v2 v3 v4 v5 σ => f_X2_countInLane_b6 b1 n_ v2 v3 v4 v5 σ) (v2) (v3) ((v4 + (1 : Int32))) (v5) σ1 else f_X2_countInLane_b43 b1 (fun v2 v3 v4 v5 σ => f_X2_countInLane_b6 b1 n_ v2 v3 v4 v5 σ) (v2) (v3) (v4) (v5) σ1)) else f_X2_countInLane_b43 b1 (fun v2 v3 v4 v5 σ => f_X2_countInLane_b6 b1 n_ v2 v3 v4 v5 σ) (v2) (v3) (v4) (v5) σ1))))
set_option maxRecDepth 100000 in
set_option maxHeartbeats 4000000 in
theorem w_X2_countInLane_b6 {b1 : Nat} {r : Int32} {σ' : fS} (h1 : fD b1 = (3, 0, 0))  (C : fC Γ p s m args meth c cX2_countInLane (some .int) RX2 6) : ∀ (n_ : Nat) (v2 : Int32) (v3 : Int32) (v4 : Int32) (v5 : Int32) (σ : fS) (H : Heap) (locs : List Loc) (ls : Array Slot), f_X2_countInLane_b6 b1 n_ v2 v3 v4 v5 σ = some (r, σ') → fH Γ σ H → va_S (fAd Γ) s.heap H locs → lv_has ls 6 [(0, .ref (Γ.1 145)), (1, .ref (Γ.1 b1)), (2, .int v2), (3, .int v3), (4, .int v4), (5, .int v5)] → W p l e ({ frames := 1, cells := 0, slots := 0, locals := 20 } : Room) s m args below meth c H locs 0 0 (MQ below (fQi Γ r σ') args s 0 0 (fAd Γ)) (F0 m 6 ls []) := by
  intro n_
  induction n_ with
  | zero =>
    intro v2 v3 v4 v5 σ H locs ls hf
    cases hf
  | succ n_ ih =>
    intro v2 v3 v4 v5 σ H locs ls hf hP hS hl
    have hf : fcall (f_X5_size (b1 + 7) 24 3 σ) (fun r1_ σ1 => (if r1_ ≤ v5 then some (v4, σ1) else fb v5 24 ((if (σ1 152 v5.toNatClampNeg) = v2 then fb v5 24 ((if (σ1 153 v5.toNatClampNeg) = v3 then f_X2_countInLane_b43 b1 (fun v2 v3 v4 v5 σ => f_X2_countInLane_b6 b1 n_ v2 v3 v4 v5 σ) (v2) (v3) ((v4 + (1 : Int32))) (v5) σ1 else f_X2_countInLane_b43 b1 (fun v2 v3 v4 v5 σ => f_X2_countInLane_b6 b1 n_ v2 v3 v4 v5 σ) (v2) (v3) (v4) (v5) σ1)) else f_X2_countInLane_b43 b1 (fun v2 v3 v4 v5 σ => f_X2_countInLane_b6 b1 n_ v2 v3 v4 v5 σ) (v2) (v3) (v4) (v5) σ1)))) = some (r, σ') := hf
    have hK6 := ih
    refine lv_iload C.1 C.2.1 (kd kX2_countInLane_0 4 rfl) (lv_at hl 5 rfl) ?_
    refine lv_aload_n C.1 C.2.1 (kd kX2_countInLane_0 5 rfl) rfl (lv_at hl 1 rfl) ?_
    refine fl_get (j := 3) (v := .ref (Γ.1 (b1 + 7))) C hP (fe_P h1) (fD_lt h1) rfl inX3 (Nat.le_of_ble_eq_true rfl) tw_122 rfl (kd kX2_countInLane_0 6 rfl) ?_
    obtain ⟨r1_, σ1, hσ1, hf⟩ := fcall_some hf
    refine fl_i hS (fl_runV (As := []) (rest := [.int v5]) C hP (fe_T (fD_prt h1).2.2.2.1) (fD_lt (fD_prt h1).2.2.2.1) rfl (m_X5_size C.2.2.2.2.2.2.2.2 l (fD_prt h1).2.2.2.1 hσ1) (fgV tw_616 tw_414 tw_415 tw_69 tw_416) hd_X5_size ⟨rfl, rfl, Nat.le_of_ble_eq_true rfl, Nat.le_of_ble_eq_true rfl⟩ rfl hl.1 rfl (Nat.le_of_ble_eq_true rfl) (kd kX2_countInLane_0 7 rfl)) (fun H locs hP hS => ?_)
    refine lv_icmp_ge (tgt := 49) C.1 C.2.1 (kd kX2_countInLane_0 8 rfl) (by decide) (fun q => ?_) (fun q => ?_)
    · have hf := fif_pos q hf
      refine lv_iload C.1 C.2.1 (kd kX2_countInLane_0 24 rfl) (lv_at hl 4 rfl) ?_
      exact fl_iret C hP hS hf (kd kX2_countInLane_0 25 rfl)
    have hf := fif_neg q hf
    refine lv_aload_n C.1 C.2.1 (kd kX2_countInLane_0 9 rfl) rfl (lv_at hl 0 rfl) ?_
    refine fl_get (j := 6) (v := .ref (Γ.1 152)) C hP rfl (Nat.le_of_ble_eq_true rfl) rfl inX2 (Nat.le_of_ble_eq_true rfl) tw_212 rfl (kd kX2_countInLane_0 10 rfl) ?_
    refine lv_iload C.1 C.2.1 (kd kX2_countInLane_0 11 rfl) (lv_at hl 5 rfl) ?_
    obtain ⟨hq, hf⟩ := fb_some hf
    refine fl_iald C hP rfl hq (kd kX2_countInLane_0 12 rfl) ?_
    refine lv_iload_n C.1 C.2.1 (kd kX2_countInLane_0 13 rfl) rfl (lv_at hl 2 rfl) ?_
    refine lv_icmp_ne (tgt := 43) C.1 C.2.1 (kd kX2_countInLane_0 14 rfl) (by decide) (fun q => ?_) (fun q => ?_)
    · have hf := fif_neg q hf
      exact w_X2_countInLane_b43 h1 C hK6 (v2) (v3) (v4) (v5) σ1 H locs ls hf hP hS (lv_sub hl [0, 1, 2, 3, 4, 5] rfl)
    have hf := fif_pos q hf
    refine lv_aload_n C.1 C.2.1 (kd kX2_countInLane_0 15 rfl) rfl (lv_at hl 0 rfl) ?_
    refine fl_get (j := 7) (v := .ref (Γ.1 153)) C hP rfl (Nat.le_of_ble_eq_true rfl) rfl inX2 (Nat.le_of_ble_eq_true rfl) tw_213 rfl (kd kX2_countInLane_0 16 rfl) ?_
    refine lv_iload C.1 C.2.1 (kd kX2_countInLane_0 17 rfl) (lv_at hl 5 rfl) ?_
    obtain ⟨hq, hf⟩ := fb_some hf
    refine fl_iald C hP rfl hq (kd kX2_countInLane_0 18 rfl) ?_
    refine lv_iload_n C.1 C.2.1 (kd kX2_countInLane_0 19 rfl) rfl (lv_at hl 3 rfl) ?_
    refine lv_icmp_ne (tgt := 43) C.1 C.2.1 (kd kX2_countInLane_0 20 rfl) (by decide) (fun q => ?_) (fun q => ?_)
    · have hf := fif_neg q hf
      exact w_X2_countInLane_b43 h1 C hK6 (v2) (v3) (v4) (v5) σ1 H locs ls hf hP hS (lv_sub hl [0, 1, 2, 3, 4, 5] rfl)
    have hf := fif_pos q hf
    refine lv_iinc (v := (v4 + (1 : Int32))) (lv' := [(4, .int (v4 + (1 : Int32))), (0, .ref (Γ.1 145)), (1, .ref (Γ.1 b1)), (2, .int v2), (3, .int v3), (5, .int v5)]) C.1 C.2.1 (kd kX2_countInLane_0 21 rfl) hl (k := 4) rfl rfl (Nat.le_of_ble_eq_true rfl) rfl (fun ls hl => ?_)
    exact w_X2_countInLane_b43 h1 C hK6 (v2) (v3) ((v4 + (1 : Int32))) (v5) σ1 H locs ls hf hP hS (lv_sub hl [1, 2, 3, 4, 0, 5] rfl)
def f_X2_countInLane (b1 : Nat) (x2 : Int32) (x3 : Int32) (σ : fS) : Option (Int32 × fS) := f_X2_countInLane_b6 b1 fN (x2) (x3) ((0 : Int32)) ((0 : Int32)) σ
set_option maxRecDepth 100000 in
set_option maxHeartbeats 4000000 in
theorem m_X2_countInLane {Γ : fGm} (hI : fI Γ) (l : Launch) {b1 : Nat} {x2 : Int32} {x3 : Int32} (h1 : fD b1 = (3, 0, 0)) {σ : fS} {r : Int32} {σ' : fS} (hf : f_X2_countInLane b1 x2 x3 σ = some (r, σ')) : Met l yX2_countInLane (.code yX2_countInLane cX2_countInLane 6 (some .int) :: lw_g) ({ frames := 1, cells := 0, slots := 0, locals := 20 } : Room) (fPre Γ [.ref (Γ.1 145), .ref (Γ.1 b1), .int x2, .int x3] σ) (fQi Γ r σ') 0 0 (fAd Γ) := by
  refine fl_enter (own := RX2) hI (by decide +kernel) rfl (Nat.le_of_ble_eq_true rfl) ?_
  intro p e s m args below meth c ls C hl hP hS
  have hl : lv_has ls 6 [(0, .ref (Γ.1 145)), (1, .ref (Γ.1 b1)), (2, .int x2), (3, .int x3)] := hl
  obtain ⟨H, hH⟩ : ∃ H, H = s.heap := ⟨_, rfl⟩
  obtain ⟨locs, hL⟩ : ∃ L : List Loc, L = [] := ⟨_, rfl⟩
  have hP : fH Γ σ H := by rw [hH]; exact hP
  have hS : va_S (fAd Γ) s.heap H locs := by rw [hH, hL]; exact hS
  suffices hw : W p l e ({ frames := 1, cells := 0, slots := 0, locals := 20 } : Room) s m args below meth c H locs 0 0 (MQ below (fQi Γ r σ') args s 0 0 (fAd Γ)) (F0 m 0 ls []) by rw [hH, hL] at hw; exact hw
  unfold f_X2_countInLane at hf
  refine lv_iconst (v := (0 : Int32)) C.1 C.2.1 (kd kX2_countInLane_0 0 rfl) (by decide) ?_
  refine lv_istore (lv' := [(4, .int (0 : Int32)), (0, .ref (Γ.1 145)), (1, .ref (Γ.1 b1)), (2, .int x2), (3, .int x3)]) C.1 C.2.1 (kd kX2_countInLane_0 1 rfl) hl (Nat.le_of_ble_eq_true rfl) rfl (fun ls hl => ?_)
  refine lv_iconst (v := (0 : Int32)) C.1 C.2.1 (kd kX2_countInLane_0 2 rfl) (by decide) ?_
  refine lv_istore (lv' := [(5, .int (0 : Int32)), (4, .int (0 : Int32)), (0, .ref (Γ.1 145)), (1, .ref (Γ.1 b1)), (2, .int x2), (3, .int x3)]) C.1 C.2.1 (kd kX2_countInLane_0 3 rfl) hl (Nat.le_of_ble_eq_true rfl) rfl (fun ls hl => ?_)
  exact w_X2_countInLane_b6 h1 C fN (x2) (x3) ((0 : Int32)) ((0 : Int32)) σ H locs ls hf hP hS (lv_sub hl [2, 3, 4, 5, 1, 0] rfl)
def f_X2_unloadLane_b60 (b1 : Nat) (K13 : Int32 → Int32 → Int32 → Int32 → Int32 → fS → Option (Int32 × fS)) (v2 : Int32) (v3 : Int32) (v4 : Int32) (v6 : Int32) (v7 : Int32) (s0 : Int32) (σ : fS) : Option (Int32 × fS) := fcall (f_X2_standingAt b1 v2 v3 s0 σ) (fun r1_ σ1 => (if r1_ = (-10004 : Int32) then some (v7, σ1) else fcall (f_X5_at (b1 + 7) 24 3 r1_ (2 : Int32) σ1) (fun r2_ σ2 => (if r2_ = v4 then fb v7 24 (fL (fu σ2 148 v7.toNatClampNeg r1_) (fun σ3 => fb v3 4 (fb v3 4 (fL (fu σ3 156 v3.toNatClampNeg ((σ3 156 v3.toNatClampNeg) + (1 : Int32))) (fun σ4 => K13 (v2) (v3) (v4) (v6) ((v7 + (1 : Int32))) σ4))))) else some (v7, σ2)))))
set_option maxRecDepth 100000 in
set_option maxHeartbeats 4000000 in
theorem w_X2_unloadLane_b60 {b1 : Nat} {r : Int32} {σ' : fS} {K13 : Int32 → Int32 → Int32 → Int32 → Int32 → fS → Option (Int32 × fS)} (h1 : fD b1 = (3, 0, 0))  (C : fC Γ p s m args meth c cX2_unloadLane (some .int) RX2 10) (hK13 : ∀ (v2 : Int32) (v3 : Int32) (v4 : Int32) (v6 : Int32) (v7 : Int32) (σ : fS) (H : Heap) (locs : List Loc) (ls : Array Slot), K13 v2 v3 v4 v6 v7 σ = some (r, σ') → fH Γ σ H → va_S (fAd Γ) s.heap H locs → lv_has ls 10 [(0, .ref (Γ.1 145)), (1, .ref (Γ.1 b1)), (2, .int v2), (3, .int v3), (4, .int v4), (6, .int v6), (7, .int v7)] → W p l e ({ frames := 2, cells := 0, slots := 0, locals := 45 } : Room) s m args below meth c H locs 0 0 (MQ below (fQi Γ r σ') args s 0 0 (fAd Γ)) (F0 m 13 ls [])) : ∀ (v2 : Int32) (v3 : Int32) (v4 : Int32) (v6 : Int32) (v7 : Int32) (s0 : Int32) (σ : fS) (H : Heap) (locs : List Loc) (ls : Array Slot), f_X2_unloadLane_b60 b1 K13 v2 v3 v4 v6 v7 s0 σ = some (r, σ') → fH Γ σ H → va_S (fAd Γ) s.heap H locs → lv_has ls 10 [(0, .ref (Γ.1 145)), (1, .ref (Γ.1 b1)), (2, .int v2), (3, .int v3), (4, .int v4), (6, .int v6), (7, .int v7)] → W p l e ({ frames := 2, cells := 0, slots := 0, locals := 45 } : Room) s m args below meth c H locs 0 0 (MQ below (fQi Γ r σ') args s 0 0 (fAd Γ)) (F0 m 60 ls [.int s0]) := by
  intro v2 v3 v4 v6 v7 s0 σ H locs ls hf hP hS hl
  unfold f_X2_unloadLane_b60 at hf
  refine lv_istore (lv' := [(8, .int s0), (0, .ref (Γ.1 145)), (1, .ref (Γ.1 b1)), (2, .int v2), (3, .int v3), (4, .int v4), (6, .int v6), (7, .int v7)]) C.1 C.2.1 (kd kX2_unloadLane_0 35 rfl) hl (Nat.le_of_ble_eq_true rfl) rfl (fun ls hl => ?_)
  refine lv_aload_n C.1 C.2.1 (kd kX2_unloadLane_0 36 rfl) rfl (lv_at hl 1 rfl) ?_
  refine lv_aload_n C.1 C.2.1 (kd kX2_unloadLane_0 37 rfl) rfl (lv_at hl 2 rfl) ?_
  refine lv_iload_n C.1 C.2.1 (kd kX2_unloadLane_0 38 rfl) rfl (lv_at hl 3 rfl) ?_
  refine lv_iload_n C.1 C.2.1 (kd kX2_unloadLane_0 39 rfl) rfl (lv_at hl 4 rfl) ?_
  refine lv_iload C.1 C.2.1 (kd kX2_unloadLane_0 40 rfl) (lv_at hl 0 rfl) ?_
  obtain ⟨r1_, σ1, hσ1, hf⟩ := fcall_some hf
  refine fl_i hS (fl_runV (As := [.ref (Γ.1 b1), .int v2, .int v3, .int s0]) (rest := []) C hP rfl (Nat.le_of_ble_eq_true rfl) rfl (m_X2_standingAt C.2.2.2.2.2.2.2.2 l h1 hσ1) (fgV tw_746 tw_727 tw_728 tw_72 tw_729) hd_X2_standingAt ⟨rfl, rfl, Nat.le_of_ble_eq_true rfl, Nat.le_of_ble_eq_true rfl⟩ rfl hl.1 rfl (Nat.le_of_ble_eq_true rfl) (kd kX2_unloadLane_0 41 rfl)) (fun H locs hP hS => ?_)
  refine lv_istore (lv' := [(9, .int r1_), (8, .int s0), (0, .ref (Γ.1 145)), (1, .ref (Γ.1 b1)), (2, .int v2), (3, .int v3), (4, .int v4), (6, .int v6), (7, .int v7)]) C.1 C.2.1 (kd kX2_unloadLane_0 42 rfl) hl (Nat.le_of_ble_eq_true rfl) rfl (fun ls hl => ?_)
  refine lv_iload C.1 C.2.1 (kd kX2_unloadLane_0 43 rfl) (lv_at hl 0 rfl) ?_
  refine lv_sipush (v := (-10004 : Int32)) C.1 C.2.1 (kd kX2_unloadLane_0 44 rfl) (by decide) ?_
  refine lv_icmp_eq (tgt := 124) C.1 C.2.1 (kd kX2_unloadLane_0 45 rfl) (by decide) (fun q => ?_) (fun q => ?_)
  · have hf := fif_pos q hf
    refine lv_iload C.1 C.2.1 (kd kX2_unloadLane_1 9 rfl) (lv_at hl 8 rfl) ?_
    exact fl_iret C hP hS hf (kd kX2_unloadLane_1 10 rfl)
  have hf := fif_neg q hf
  refine lv_aload_n C.1 C.2.1 (kd kX2_unloadLane_0 46 rfl) rfl (lv_at hl 3 rfl) ?_
  refine fl_get (j := 3) (v := .ref (Γ.1 (b1 + 7))) C hP (fe_P h1) (fD_lt h1) rfl inX3 (Nat.le_of_ble_eq_true rfl) tw_122 rfl (kd kX2_unloadLane_0 47 rfl) ?_
  refine lv_iload C.1 C.2.1 (kd kX2_unloadLane_0 48 rfl) (lv_at hl 0 rfl) ?_
  refine lv_iconst (v := (2 : Int32)) C.1 C.2.1 (kd kX2_unloadLane_0 49 rfl) (by decide) ?_
  obtain ⟨r2_, σ2, hσ2, hf⟩ := fcall_some hf
  refine fl_i hS (fl_runV (As := [.int r1_, .int (2 : Int32)]) (rest := []) C hP (fe_T (fD_prt h1).2.2.2.1) (fD_lt (fD_prt h1).2.2.2.1) rfl (m_X5_at C.2.2.2.2.2.2.2.2 l (fD_prt h1).2.2.2.1 hσ2) (fgV tw_625 tw_418 tw_419 tw_69 tw_420) hd_X5_at ⟨rfl, rfl, Nat.le_of_ble_eq_true rfl, Nat.le_of_ble_eq_true rfl⟩ rfl hl.1 rfl (Nat.le_of_ble_eq_true rfl) (kd kX2_unloadLane_0 50 rfl)) (fun H locs hP hS => ?_)
  refine lv_iload C.1 C.2.1 (kd kX2_unloadLane_0 51 rfl) (lv_at hl 6 rfl) ?_
  refine lv_icmp_eq (tgt := 99) C.1 C.2.1 (kd kX2_unloadLane_0 52 rfl) (by decide) (fun q => ?_) (fun q => ?_)
  · have hf := fif_pos q hf
    refine lv_aload_n C.1 C.2.1 (kd kX2_unloadLane_0 54 rfl) rfl (lv_at hl 2 rfl) ?_
    refine fl_get (j := 2) (v := .ref (Γ.1 148)) C hP rfl (Nat.le_of_ble_eq_true rfl) rfl inX2 (Nat.le_of_ble_eq_true rfl) tw_207 rfl (kd kX2_unloadLane_0 55 rfl) ?_
    refine lv_iload C.1 C.2.1 (kd kX2_unloadLane_0 56 rfl) (lv_at hl 8 rfl) ?_
    refine lv_iload C.1 C.2.1 (kd kX2_unloadLane_0 57 rfl) (lv_at hl 0 rfl) ?_
    obtain ⟨hq, hf⟩ := fb_some hf
    obtain ⟨σ3, eσ3, hf⟩ := fL_some hf
    refine fl_iast C hP hS rfl hq (kd kX2_unloadLane_0 58 rfl) (fun H locs hP hS => ?_)
    have hP : fH Γ σ3 H := by rw [eσ3]; exact hP
    refine lv_iinc (v := (v7 + (1 : Int32))) (lv' := [(7, .int (v7 + (1 : Int32))), (9, .int r1_), (8, .int s0), (0, .ref (Γ.1 145)), (1, .ref (Γ.1 b1)), (2, .int v2), (3, .int v3), (4, .int v4), (6, .int v6)]) C.1 C.2.1 (kd kX2_unloadLane_0 59 rfl) hl (k := 8) rfl rfl (Nat.le_of_ble_eq_true rfl) rfl (fun ls hl => ?_)
    refine lv_aload_n C.1 C.2.1 (kd kX2_unloadLane_1 0 rfl) rfl (lv_at hl 3 rfl) ?_
    refine fl_get (j := 10) (v := .ref (Γ.1 156)) C hP rfl (Nat.le_of_ble_eq_true rfl) rfl inX2 (Nat.le_of_ble_eq_true rfl) tw_216 rfl (kd kX2_unloadLane_1 1 rfl) ?_
    refine lv_iload_n C.1 C.2.1 (kd kX2_unloadLane_1 2 rfl) rfl (lv_at hl 6 rfl) ?_
    refine lv_dup2_11 C.1 C.2.1 (kd kX2_unloadLane_1 3 rfl) rfl rfl ?_
    obtain ⟨hq, hf⟩ := fb_some hf
    refine fl_iald C hP rfl hq (kd kX2_unloadLane_1 4 rfl) ?_
    refine lv_iconst (v := (1 : Int32)) C.1 C.2.1 (kd kX2_unloadLane_1 5 rfl) (by decide) ?_
    refine lv_iadd C.1 C.2.1 (kd kX2_unloadLane_1 6 rfl) ?_
    obtain ⟨hq, hf⟩ := fb_some hf
    obtain ⟨σ4, eσ4, hf⟩ := fL_some hf
    refine fl_iast C hP hS rfl hq (kd kX2_unloadLane_1 7 rfl) (fun H locs hP hS => ?_)
    have hP : fH Γ σ4 H := by rw [eσ4]; exact hP
    refine lv_goto (tgt := 13) C.1 C.2.1 (kd kX2_unloadLane_1 8 rfl) (by decide) ?_
    exact hK13 (v2) (v3) (v4) (v6) ((v7 + (1 : Int32))) σ4 H locs ls hf hP hS (lv_sub hl [3, 4, 5, 6, 7, 8, 0] rfl)
  have hf := fif_neg q hf
  refine lv_goto (tgt := 124) C.1 C.2.1 (kd kX2_unloadLane_0 53 rfl) (by decide) ?_
  refine lv_iload C.1 C.2.1 (kd kX2_unloadLane_1 9 rfl) (lv_at hl 8 rfl) ?_
  exact fl_iret C hP hS hf (kd kX2_unloadLane_1 10 rfl)
def f_X2_unloadLane_b13 (b1 : Nat) : Nat → Int32 → Int32 → Int32 → Int32 → Int32 → fS → Option (Int32 × fS)
  | 0, _, _, _, _, _, _ => none
  | n_ + 1, v2, v3, v4, v6, v7, σ => fb v3 4 ((if v6 ≤ (σ 156 v3.toNatClampNeg) then some (v7, σ) else (if (24 : Int32) ≤ v7 then some (v7, σ) else fcall (f_X3_rampsOf b1 v2 σ) (fun r1_ σ1 => (if r1_ = (1 : Int32) then fb v3 4 (f_X2_unloadLane_b60 b1 (fun v2 v3 v4 v6 v7 σ => f_X2_unloadLane_b13 b1 n_ v2 v3 v4 v6 v7 σ) (v2) (v3) (v4) (v6) (v7) (((v6 - (1 : Int32)) - (σ1 156 v3.toNatClampNeg))) σ1) else fb v3 4 (f_X2_unloadLane_b60 b1 (fun v2 v3 v4 v6 v7 σ => f_X2_unloadLane_b13 b1 n_ v2 v3 v4 v6 v7 σ) (v2) (v3) (v4) (v6) (v7) ((σ1 156 v3.toNatClampNeg)) σ1))))))
set_option maxRecDepth 100000 in
set_option maxHeartbeats 4000000 in
theorem w_X2_unloadLane_b13 {b1 : Nat} {r : Int32} {σ' : fS} (h1 : fD b1 = (3, 0, 0))  (C : fC Γ p s m args meth c cX2_unloadLane (some .int) RX2 10) : ∀ (n_ : Nat) (v2 : Int32) (v3 : Int32) (v4 : Int32) (v6 : Int32) (v7 : Int32) (σ : fS) (H : Heap) (locs : List Loc) (ls : Array Slot), f_X2_unloadLane_b13 b1 n_ v2 v3 v4 v6 v7 σ = some (r, σ') → fH Γ σ H → va_S (fAd Γ) s.heap H locs → lv_has ls 10 [(0, .ref (Γ.1 145)), (1, .ref (Γ.1 b1)), (2, .int v2), (3, .int v3), (4, .int v4), (6, .int v6), (7, .int v7)] → W p l e ({ frames := 2, cells := 0, slots := 0, locals := 45 } : Room) s m args below meth c H locs 0 0 (MQ below (fQi Γ r σ') args s 0 0 (fAd Γ)) (F0 m 13 ls []) := by
  intro n_
  induction n_ with
  | zero =>
    intro v2 v3 v4 v6 v7 σ H locs ls hf
    cases hf
  | succ n_ ih =>
    intro v2 v3 v4 v6 v7 σ H locs ls hf hP hS hl
    have hf : fb v3 4 ((if v6 ≤ (σ 156 v3.toNatClampNeg) then some (v7, σ) else (if (24 : Int32) ≤ v7 then some (v7, σ) else fcall (f_X3_rampsOf b1 v2 σ) (fun r1_ σ1 => (if r1_ = (1 : Int32) then fb v3 4 (f_X2_unloadLane_b60 b1 (fun v2 v3 v4 v6 v7 σ => f_X2_unloadLane_b13 b1 n_ v2 v3 v4 v6 v7 σ) (v2) (v3) (v4) (v6) (v7) (((v6 - (1 : Int32)) - (σ1 156 v3.toNatClampNeg))) σ1) else fb v3 4 (f_X2_unloadLane_b60 b1 (fun v2 v3 v4 v6 v7 σ => f_X2_unloadLane_b13 b1 n_ v2 v3 v4 v6 v7 σ) (v2) (v3) (v4) (v6) (v7) ((σ1 156 v3.toNatClampNeg)) σ1)))))) = some (r, σ') := hf
    have hK13 := ih
    refine lv_aload_n C.1 C.2.1 (kd kX2_unloadLane_0 8 rfl) rfl (lv_at hl 0 rfl) ?_
    refine fl_get (j := 10) (v := .ref (Γ.1 156)) C hP rfl (Nat.le_of_ble_eq_true rfl) rfl inX2 (Nat.le_of_ble_eq_true rfl) tw_216 rfl (kd kX2_unloadLane_0 9 rfl) ?_
    refine lv_iload_n C.1 C.2.1 (kd kX2_unloadLane_0 10 rfl) rfl (lv_at hl 3 rfl) ?_
    obtain ⟨hq, hf⟩ := fb_some hf
    refine fl_iald C hP rfl hq (kd kX2_unloadLane_0 11 rfl) ?_
    refine lv_iload C.1 C.2.1 (kd kX2_unloadLane_0 12 rfl) (lv_at hl 5 rfl) ?_
    refine lv_icmp_ge (tgt := 124) C.1 C.2.1 (kd kX2_unloadLane_0 13 rfl) (by decide) (fun q => ?_) (fun q => ?_)
    · have hf := fif_pos q hf
      refine lv_iload C.1 C.2.1 (kd kX2_unloadLane_1 9 rfl) (lv_at hl 6 rfl) ?_
      exact fl_iret C hP hS hf (kd kX2_unloadLane_1 10 rfl)
    have hf := fif_neg q hf
    refine lv_iload C.1 C.2.1 (kd kX2_unloadLane_0 14 rfl) (lv_at hl 6 rfl) ?_
    refine lv_bipush (v := (24 : Int32)) C.1 C.2.1 (kd kX2_unloadLane_0 15 rfl) (by decide) ?_
    refine lv_icmp_ge (tgt := 124) C.1 C.2.1 (kd kX2_unloadLane_0 16 rfl) (by decide) (fun q => ?_) (fun q => ?_)
    · have hf := fif_pos q hf
      refine lv_iload C.1 C.2.1 (kd kX2_unloadLane_1 9 rfl) (lv_at hl 6 rfl) ?_
      exact fl_iret C hP hS hf (kd kX2_unloadLane_1 10 rfl)
    have hf := fif_neg q hf
    refine lv_aload_n C.1 C.2.1 (kd kX2_unloadLane_0 17 rfl) rfl (lv_at hl 1 rfl) ?_
    refine lv_iload_n C.1 C.2.1 (kd kX2_unloadLane_0 18 rfl) rfl (lv_at hl 2 rfl) ?_
    obtain ⟨r1_, σ1, hσ1, hf⟩ := fcall_some hf
    refine fl_i hS (fl_runV (As := [.int v2]) (rest := []) C hP (fe_P h1) (fD_lt h1) rfl (m_X3_rampsOf C.2.2.2.2.2.2.2.2 l h1 hσ1) (fgV tw_651 tw_652 tw_653 tw_68 tw_654) hd_X3_rampsOf ⟨rfl, rfl, Nat.le_of_ble_eq_true rfl, Nat.le_of_ble_eq_true rfl⟩ rfl hl.1 rfl (Nat.le_of_ble_eq_true rfl) (kd kX2_unloadLane_0 19 rfl)) (fun H locs hP hS => ?_)
    refine lv_iconst (v := (1 : Int32)) C.1 C.2.1 (kd kX2_unloadLane_0 20 rfl) (by decide) ?_
    refine lv_icmp_ne (tgt := 54) C.1 C.2.1 (kd kX2_unloadLane_0 21 rfl) (by decide) (fun q => ?_) (fun q => ?_)
    · have hf := fif_neg q hf
      refine lv_aload_n C.1 C.2.1 (kd kX2_unloadLane_0 31 rfl) rfl (lv_at hl 0 rfl) ?_
      refine fl_get (j := 10) (v := .ref (Γ.1 156)) C hP rfl (Nat.le_of_ble_eq_true rfl) rfl inX2 (Nat.le_of_ble_eq_true rfl) tw_216 rfl (kd kX2_unloadLane_0 32 rfl) ?_
      refine lv_iload_n C.1 C.2.1 (kd kX2_unloadLane_0 33 rfl) rfl (lv_at hl 3 rfl) ?_
      obtain ⟨hq, hf⟩ := fb_some hf
      refine fl_iald C hP rfl hq (kd kX2_unloadLane_0 34 rfl) ?_
      exact w_X2_unloadLane_b60 h1 C hK13 (v2) (v3) (v4) (v6) (v7) ((σ1 156 v3.toNatClampNeg)) σ1 H locs ls hf hP hS (lv_sub hl [0, 1, 2, 3, 4, 5, 6] rfl)
    have hf := fif_pos q hf
    refine lv_iload C.1 C.2.1 (kd kX2_unloadLane_0 22 rfl) (lv_at hl 5 rfl) ?_
    refine lv_iconst (v := (1 : Int32)) C.1 C.2.1 (kd kX2_unloadLane_0 23 rfl) (by decide) ?_
    refine lv_isub C.1 C.2.1 (kd kX2_unloadLane_0 24 rfl) ?_
    refine lv_aload_n C.1 C.2.1 (kd kX2_unloadLane_0 25 rfl) rfl (lv_at hl 0 rfl) ?_
    refine fl_get (j := 10) (v := .ref (Γ.1 156)) C hP rfl (Nat.le_of_ble_eq_true rfl) rfl inX2 (Nat.le_of_ble_eq_true rfl) tw_216 rfl (kd kX2_unloadLane_0 26 rfl) ?_
    refine lv_iload_n C.1 C.2.1 (kd kX2_unloadLane_0 27 rfl) rfl (lv_at hl 3 rfl) ?_
    obtain ⟨hq, hf⟩ := fb_some hf
    refine fl_iald C hP rfl hq (kd kX2_unloadLane_0 28 rfl) ?_
    refine lv_isub C.1 C.2.1 (kd kX2_unloadLane_0 29 rfl) ?_
    refine lv_goto (tgt := 60) C.1 C.2.1 (kd kX2_unloadLane_0 30 rfl) (by decide) ?_
    exact w_X2_unloadLane_b60 h1 C hK13 (v2) (v3) (v4) (v6) (v7) (((v6 - (1 : Int32)) - (σ1 156 v3.toNatClampNeg))) σ1 H locs ls hf hP hS (lv_sub hl [0, 1, 2, 3, 4, 5, 6] rfl)
def f_X2_unloadLane (b1 : Nat) (x2 : Int32) (x3 : Int32) (x4 : Int32) (x5 : Int32) (σ : fS) : Option (Int32 × fS) := fcall (f_X2_countInLane b1 x2 x3 σ) (fun r1_ σ1 => f_X2_unloadLane_b13 b1 fN (x2) (x3) (x4) (r1_) (x5) σ1)
set_option maxRecDepth 100000 in
set_option maxHeartbeats 4000000 in
theorem m_X2_unloadLane {Γ : fGm} (hI : fI Γ) (l : Launch) {b1 : Nat} {x2 : Int32} {x3 : Int32} {x4 : Int32} {x5 : Int32} (h1 : fD b1 = (3, 0, 0)) {σ : fS} {r : Int32} {σ' : fS} (hf : f_X2_unloadLane b1 x2 x3 x4 x5 σ = some (r, σ')) : Met l yX2_unloadLane (.code yX2_unloadLane cX2_unloadLane 10 (some .int) :: lw_g) ({ frames := 2, cells := 0, slots := 0, locals := 45 } : Room) (fPre Γ [.ref (Γ.1 145), .ref (Γ.1 b1), .int x2, .int x3, .int x4, .int x5] σ) (fQi Γ r σ') 0 0 (fAd Γ) := by
  refine fl_enter (own := RX2) hI (by decide +kernel) rfl (Nat.le_of_ble_eq_true rfl) ?_
  intro p e s m args below meth c ls C hl hP hS
  have hl : lv_has ls 10 [(0, .ref (Γ.1 145)), (1, .ref (Γ.1 b1)), (2, .int x2), (3, .int x3), (4, .int x4), (5, .int x5)] := hl
  obtain ⟨H, hH⟩ : ∃ H, H = s.heap := ⟨_, rfl⟩
  obtain ⟨locs, hL⟩ : ∃ L : List Loc, L = [] := ⟨_, rfl⟩
  have hP : fH Γ σ H := by rw [hH]; exact hP
  have hS : va_S (fAd Γ) s.heap H locs := by rw [hH, hL]; exact hS
  suffices hw : W p l e ({ frames := 2, cells := 0, slots := 0, locals := 45 } : Room) s m args below meth c H locs 0 0 (MQ below (fQi Γ r σ') args s 0 0 (fAd Γ)) (F0 m 0 ls []) by rw [hH, hL] at hw; exact hw
  unfold f_X2_unloadLane at hf
  refine lv_aload_n C.1 C.2.1 (kd kX2_unloadLane_0 0 rfl) rfl (lv_at hl 0 rfl) ?_
  refine lv_aload_n C.1 C.2.1 (kd kX2_unloadLane_0 1 rfl) rfl (lv_at hl 1 rfl) ?_
  refine lv_iload_n C.1 C.2.1 (kd kX2_unloadLane_0 2 rfl) rfl (lv_at hl 2 rfl) ?_
  refine lv_iload_n C.1 C.2.1 (kd kX2_unloadLane_0 3 rfl) rfl (lv_at hl 3 rfl) ?_
  obtain ⟨r1_, σ1, hσ1, hf⟩ := fcall_some hf
  refine fl_i hS (fl_runV (As := [.ref (Γ.1 b1), .int x2, .int x3]) (rest := []) C hP rfl (Nat.le_of_ble_eq_true rfl) rfl (m_X2_countInLane C.2.2.2.2.2.2.2.2 l h1 hσ1) (fgV tw_742 tw_744 tw_17 tw_72 tw_745) hd_X2_countInLane ⟨rfl, rfl, Nat.le_of_ble_eq_true rfl, Nat.le_of_ble_eq_true rfl⟩ rfl hl.1 rfl (Nat.le_of_ble_eq_true rfl) (kd kX2_unloadLane_0 4 rfl)) (fun H locs hP hS => ?_)
  refine lv_istore (lv' := [(6, .int r1_), (0, .ref (Γ.1 145)), (1, .ref (Γ.1 b1)), (2, .int x2), (3, .int x3), (4, .int x4), (5, .int x5)]) C.1 C.2.1 (kd kX2_unloadLane_0 5 rfl) hl (Nat.le_of_ble_eq_true rfl) rfl (fun ls hl => ?_)
  refine lv_iload C.1 C.2.1 (kd kX2_unloadLane_0 6 rfl) (lv_at hl 6 rfl) ?_
  refine lv_istore (lv' := [(7, .int x5), (6, .int r1_), (0, .ref (Γ.1 145)), (1, .ref (Γ.1 b1)), (2, .int x2), (3, .int x3), (4, .int x4), (5, .int x5)]) C.1 C.2.1 (kd kX2_unloadLane_0 7 rfl) hl (Nat.le_of_ble_eq_true rfl) rfl (fun ls hl => ?_)
  exact w_X2_unloadLane_b13 h1 C fN (x2) (x3) (x4) (r1_) (x5) σ1 H locs ls hf hP hS (lv_sub hl [2, 3, 4, 5, 6, 1, 0] rfl)
def f_X2_unload_b34 (b1 : Nat) (K25 : Int32 → Int32 → Int32 → fS → Option (Int32 × fS)) : Nat → Int32 → Int32 → Int32 → Int32 → fS → Option (Int32 × fS)
  | 0, _, _, _, _, _ => none
  | n_ + 1, v2, v3, v4, v5, σ => fcall (f_X3_lanesOf b1 v2 σ) (fun r1_ σ1 => (if r1_ ≤ v5 then K25 (v2) (v3) ((v4 + (1 : Int32))) σ1 else fcall (f_X2_unloadLane b1 v2 v5 v4 v3 σ1) (fun r2_ σ2 => (fun v2 v3 v4 v5 σ => f_X2_unload_b34 b1 K25 n_ v2 v3 v4 v5 σ) (v2) (r2_) (v4) ((v5 + (1 : Int32))) σ2)))
set_option maxRecDepth 100000 in
set_option maxHeartbeats 4000000 in
theorem w_X2_unload_b34 {b1 : Nat} {r : Int32} {σ' : fS} {K25 : Int32 → Int32 → Int32 → fS → Option (Int32 × fS)} (h1 : fD b1 = (3, 0, 0))  (C : fC Γ p s m args meth c cX2_unload (some .int) RX2 6) (hK25 : ∀ (v2 : Int32) (v3 : Int32) (v4 : Int32) (σ : fS) (H : Heap) (locs : List Loc) (ls : Array Slot), K25 v2 v3 v4 σ = some (r, σ') → fH Γ σ H → va_S (fAd Γ) s.heap H locs → lv_has ls 6 [(0, .ref (Γ.1 145)), (1, .ref (Γ.1 b1)), (2, .int v2), (3, .int v3), (4, .int v4)] → W p l e ({ frames := 3, cells := 0, slots := 0, locals := 74 } : Room) s m args below meth c H locs 0 0 (MQ below (fQi Γ r σ') args s 0 0 (fAd Γ)) (F0 m 25 ls [])) : ∀ (n_ : Nat) (v2 : Int32) (v3 : Int32) (v4 : Int32) (v5 : Int32) (σ : fS) (H : Heap) (locs : List Loc) (ls : Array Slot), f_X2_unload_b34 b1 K25 n_ v2 v3 v4 v5 σ = some (r, σ') → fH Γ σ H → va_S (fAd Γ) s.heap H locs → lv_has ls 6 [(0, .ref (Γ.1 145)), (1, .ref (Γ.1 b1)), (2, .int v2), (3, .int v3), (4, .int v4), (5, .int v5)] → W p l e ({ frames := 3, cells := 0, slots := 0, locals := 74 } : Room) s m args below meth c H locs 0 0 (MQ below (fQi Γ r σ') args s 0 0 (fAd Γ)) (F0 m 34 ls []) := by
  intro n_
  induction n_ with
  | zero =>
    intro v2 v3 v4 v5 σ H locs ls hf
    cases hf
  | succ n_ ih =>
    intro v2 v3 v4 v5 σ H locs ls hf hP hS hl
    have hf : fcall (f_X3_lanesOf b1 v2 σ) (fun r1_ σ1 => (if r1_ ≤ v5 then K25 (v2) (v3) ((v4 + (1 : Int32))) σ1 else fcall (f_X2_unloadLane b1 v2 v5 v4 v3 σ1) (fun r2_ σ2 => (fun v2 v3 v4 v5 σ => f_X2_unload_b34 b1 K25 n_ v2 v3 v4 v5 σ) (v2) (r2_) (v4) ((v5 + (1 : Int32))) σ2))) = some (r, σ') := hf
    have hK34 := ih
    refine lv_iload C.1 C.2.1 (kd kX2_unload_0 21 rfl) (lv_at hl 5 rfl) ?_
    refine lv_aload_n C.1 C.2.1 (kd kX2_unload_0 22 rfl) rfl (lv_at hl 1 rfl) ?_
    refine lv_iload_n C.1 C.2.1 (kd kX2_unload_0 23 rfl) rfl (lv_at hl 2 rfl) ?_
    obtain ⟨r1_, σ1, hσ1, hf⟩ := fcall_some hf
    refine fl_i hS (fl_runV (As := [.int v2]) (rest := [.int v5]) C hP (fe_P h1) (fD_lt h1) rfl (m_X3_lanesOf C.2.2.2.2.2.2.2.2 l h1 hσ1) (fgV tw_643 tw_644 tw_645 tw_68 tw_646) hd_X3_lanesOf ⟨rfl, rfl, Nat.le_of_ble_eq_true rfl, Nat.le_of_ble_eq_true rfl⟩ rfl hl.1 rfl (Nat.le_of_ble_eq_true rfl) (kd kX2_unload_0 24 rfl)) (fun H locs hP hS => ?_)
    refine lv_icmp_ge (tgt := 62) C.1 C.2.1 (kd kX2_unload_0 25 rfl) (by decide) (fun q => ?_) (fun q => ?_)
    · have hf := fif_pos q hf
      refine lv_iinc (v := (v4 + (1 : Int32))) (lv' := [(4, .int (v4 + (1 : Int32))), (0, .ref (Γ.1 145)), (1, .ref (Γ.1 b1)), (2, .int v2), (3, .int v3), (5, .int v5)]) C.1 C.2.1 (kd kX2_unload_0 36 rfl) hl (k := 4) rfl rfl (Nat.le_of_ble_eq_true rfl) rfl (fun ls hl => ?_)
      refine lv_goto (tgt := 25) C.1 C.2.1 (kd kX2_unload_0 37 rfl) (by decide) ?_
      exact hK25 (v2) (v3) ((v4 + (1 : Int32))) σ1 H locs ls hf hP hS (lv_sub hl [1, 2, 3, 4, 0] rfl)
    have hf := fif_neg q hf
    refine lv_aload_n C.1 C.2.1 (kd kX2_unload_0 26 rfl) rfl (lv_at hl 0 rfl) ?_
    refine lv_aload_n C.1 C.2.1 (kd kX2_unload_0 27 rfl) rfl (lv_at hl 1 rfl) ?_
    refine lv_iload_n C.1 C.2.1 (kd kX2_unload_0 28 rfl) rfl (lv_at hl 2 rfl) ?_
    refine lv_iload C.1 C.2.1 (kd kX2_unload_0 29 rfl) (lv_at hl 5 rfl) ?_
    refine lv_iload C.1 C.2.1 (kd kX2_unload_0 30 rfl) (lv_at hl 4 rfl) ?_
    refine lv_iload_n C.1 C.2.1 (kd kX2_unload_0 31 rfl) rfl (lv_at hl 3 rfl) ?_
    obtain ⟨r2_, σ2, hσ2, hf⟩ := fcall_some hf
    refine fl_i hS (fl_runV (As := [.ref (Γ.1 b1), .int v2, .int v5, .int v4, .int v3]) (rest := []) C hP rfl (Nat.le_of_ble_eq_true rfl) rfl (m_X2_unloadLane C.2.2.2.2.2.2.2.2 l h1 hσ2) (fgV tw_738 tw_740 tw_16 tw_72 tw_741) hd_X2_unloadLane ⟨rfl, rfl, Nat.le_of_ble_eq_true rfl, Nat.le_of_ble_eq_true rfl⟩ rfl hl.1 rfl (Nat.le_of_ble_eq_true rfl) (kd kX2_unload_0 32 rfl)) (fun H locs hP hS => ?_)
    refine lv_istore_n (lv' := [(3, .int r2_), (0, .ref (Γ.1 145)), (1, .ref (Γ.1 b1)), (2, .int v2), (4, .int v4), (5, .int v5)]) C.1 C.2.1 (kd kX2_unload_0 33 rfl) rfl hl (Nat.le_of_ble_eq_true rfl) rfl (fun ls hl => ?_)
    refine lv_iinc (v := (v5 + (1 : Int32))) (lv' := [(5, .int (v5 + (1 : Int32))), (3, .int r2_), (0, .ref (Γ.1 145)), (1, .ref (Γ.1 b1)), (2, .int v2), (4, .int v4)]) C.1 C.2.1 (kd kX2_unload_0 34 rfl) hl (k := 5) rfl rfl (Nat.le_of_ble_eq_true rfl) rfl (fun ls hl => ?_)
    refine lv_goto (tgt := 34) C.1 C.2.1 (kd kX2_unload_0 35 rfl) (by decide) ?_
    exact hK34 (v2) (r2_) (v4) ((v5 + (1 : Int32))) σ2 H locs ls hf hP hS (lv_sub hl [2, 3, 4, 1, 5, 0] rfl)
def f_X2_unload_b25 (b1 : Nat) : Nat → Int32 → Int32 → Int32 → fS → Option (Int32 × fS)
  | 0, _, _, _, _ => none
  | n_ + 1, v2, v3, v4, σ => (if (5 : Int32) < v4 then some (v3, σ) else f_X2_unload_b34 b1 (fun v2 v3 v4 σ => f_X2_unload_b25 b1 n_ v2 v3 v4 σ) fN (v2) (v3) (v4) ((0 : Int32)) σ)
set_option maxRecDepth 100000 in
set_option maxHeartbeats 4000000 in
theorem w_X2_unload_b25 {b1 : Nat} {r : Int32} {σ' : fS} (h1 : fD b1 = (3, 0, 0))  (C : fC Γ p s m args meth c cX2_unload (some .int) RX2 6) : ∀ (n_ : Nat) (v2 : Int32) (v3 : Int32) (v4 : Int32) (σ : fS) (H : Heap) (locs : List Loc) (ls : Array Slot), f_X2_unload_b25 b1 n_ v2 v3 v4 σ = some (r, σ') → fH Γ σ H → va_S (fAd Γ) s.heap H locs → lv_has ls 6 [(0, .ref (Γ.1 145)), (1, .ref (Γ.1 b1)), (2, .int v2), (3, .int v3), (4, .int v4)] → W p l e ({ frames := 3, cells := 0, slots := 0, locals := 74 } : Room) s m args below meth c H locs 0 0 (MQ below (fQi Γ r σ') args s 0 0 (fAd Γ)) (F0 m 25 ls []) := by
  intro n_
  induction n_ with
  | zero =>
    intro v2 v3 v4 σ H locs ls hf
    cases hf
  | succ n_ ih =>
    intro v2 v3 v4 σ H locs ls hf hP hS hl
    have hf : (if (5 : Int32) < v4 then some (v3, σ) else f_X2_unload_b34 b1 (fun v2 v3 v4 σ => f_X2_unload_b25 b1 n_ v2 v3 v4 σ) fN (v2) (v3) (v4) ((0 : Int32)) σ) = some (r, σ') := hf
    have hK25 := ih
    refine lv_iload C.1 C.2.1 (kd kX2_unload_0 16 rfl) (lv_at hl 4 rfl) ?_
    refine lv_iconst (v := (5 : Int32)) C.1 C.2.1 (kd kX2_unload_0 17 rfl) (by decide) ?_
    refine lv_icmp_gt (tgt := 68) C.1 C.2.1 (kd kX2_unload_0 18 rfl) (by decide) (fun q => ?_) (fun q => ?_)
    · have hf := fif_pos q hf
      refine lv_iload_n C.1 C.2.1 (kd kX2_unload_0 38 rfl) rfl (lv_at hl 3 rfl) ?_
      exact fl_iret C hP hS hf (kd kX2_unload_0 39 rfl)
    have hf := fif_neg q hf
    refine lv_iconst (v := (0 : Int32)) C.1 C.2.1 (kd kX2_unload_0 19 rfl) (by decide) ?_
    refine lv_istore (lv' := [(5, .int (0 : Int32)), (0, .ref (Γ.1 145)), (1, .ref (Γ.1 b1)), (2, .int v2), (3, .int v3), (4, .int v4)]) C.1 C.2.1 (kd kX2_unload_0 20 rfl) hl (Nat.le_of_ble_eq_true rfl) rfl (fun ls hl => ?_)
    exact w_X2_unload_b34 h1 C hK25 fN (v2) (v3) (v4) ((0 : Int32)) σ H locs ls hf hP hS (lv_sub hl [1, 2, 3, 4, 5, 0] rfl)
def f_X2_unload_b2 (b1 : Nat) : Nat → Int32 → Int32 → fS → Option (Int32 × fS)
  | 0, _, _, _ => none
  | n_ + 1, v2, v3, σ => (if (4 : Int32) ≤ v3 then f_X2_unload_b25 b1 fN (v2) ((0 : Int32)) ((0 : Int32)) σ else fb v3 4 (fL (fu σ 156 v3.toNatClampNeg (0 : Int32)) (fun σ1 => (fun v2 v3 σ => f_X2_unload_b2 b1 n_ v2 v3 σ) (v2) ((v3 + (1 : Int32))) σ1)))
set_option maxRecDepth 100000 in
set_option maxHeartbeats 4000000 in
theorem w_X2_unload_b2 {b1 : Nat} {r : Int32} {σ' : fS} (h1 : fD b1 = (3, 0, 0))  (C : fC Γ p s m args meth c cX2_unload (some .int) RX2 6) : ∀ (n_ : Nat) (v2 : Int32) (v3 : Int32) (σ : fS) (H : Heap) (locs : List Loc) (ls : Array Slot), f_X2_unload_b2 b1 n_ v2 v3 σ = some (r, σ') → fH Γ σ H → va_S (fAd Γ) s.heap H locs → lv_has ls 6 [(0, .ref (Γ.1 145)), (1, .ref (Γ.1 b1)), (2, .int v2), (3, .int v3)] → W p l e ({ frames := 3, cells := 0, slots := 0, locals := 74 } : Room) s m args below meth c H locs 0 0 (MQ below (fQi Γ r σ') args s 0 0 (fAd Γ)) (F0 m 2 ls []) := by
  intro n_
  induction n_ with
  | zero =>
    intro v2 v3 σ H locs ls hf
    cases hf
  | succ n_ ih =>
    intro v2 v3 σ H locs ls hf hP hS hl
    have hf : (if (4 : Int32) ≤ v3 then f_X2_unload_b25 b1 fN (v2) ((0 : Int32)) ((0 : Int32)) σ else fb v3 4 (fL (fu σ 156 v3.toNatClampNeg (0 : Int32)) (fun σ1 => (fun v2 v3 σ => f_X2_unload_b2 b1 n_ v2 v3 σ) (v2) ((v3 + (1 : Int32))) σ1))) = some (r, σ') := hf
    have hK2 := ih
    refine lv_iload_n C.1 C.2.1 (kd kX2_unload_0 2 rfl) rfl (lv_at hl 3 rfl) ?_
    refine lv_iconst (v := (4 : Int32)) C.1 C.2.1 (kd kX2_unload_0 3 rfl) (by decide) ?_
    refine lv_icmp_ge (tgt := 20) C.1 C.2.1 (kd kX2_unload_0 4 rfl) (by decide) (fun q => ?_) (fun q => ?_)
    · have hf := fif_pos q hf
      refine lv_iconst (v := (0 : Int32)) C.1 C.2.1 (kd kX2_unload_0 12 rfl) (by decide) ?_
      refine lv_istore_n (lv' := [(3, .int (0 : Int32)), (0, .ref (Γ.1 145)), (1, .ref (Γ.1 b1)), (2, .int v2)]) C.1 C.2.1 (kd kX2_unload_0 13 rfl) rfl hl (Nat.le_of_ble_eq_true rfl) rfl (fun ls hl => ?_)
      refine lv_iconst (v := (0 : Int32)) C.1 C.2.1 (kd kX2_unload_0 14 rfl) (by decide) ?_
      refine lv_istore (lv' := [(4, .int (0 : Int32)), (3, .int (0 : Int32)), (0, .ref (Γ.1 145)), (1, .ref (Γ.1 b1)), (2, .int v2)]) C.1 C.2.1 (kd kX2_unload_0 15 rfl) hl (Nat.le_of_ble_eq_true rfl) rfl (fun ls hl => ?_)
      exact w_X2_unload_b25 h1 C fN (v2) ((0 : Int32)) ((0 : Int32)) σ H locs ls hf hP hS (lv_sub hl [2, 3, 4, 1, 0] rfl)
    have hf := fif_neg q hf
    refine lv_aload_n C.1 C.2.1 (kd kX2_unload_0 5 rfl) rfl (lv_at hl 0 rfl) ?_
    refine fl_get (j := 10) (v := .ref (Γ.1 156)) C hP rfl (Nat.le_of_ble_eq_true rfl) rfl inX2 (Nat.le_of_ble_eq_true rfl) tw_216 rfl (kd kX2_unload_0 6 rfl) ?_
    refine lv_iload_n C.1 C.2.1 (kd kX2_unload_0 7 rfl) rfl (lv_at hl 3 rfl) ?_
    refine lv_iconst (v := (0 : Int32)) C.1 C.2.1 (kd kX2_unload_0 8 rfl) (by decide) ?_
    obtain ⟨hq, hf⟩ := fb_some hf
    obtain ⟨σ1, eσ1, hf⟩ := fL_some hf
    refine fl_iast C hP hS rfl hq (kd kX2_unload_0 9 rfl) (fun H locs hP hS => ?_)
    have hP : fH Γ σ1 H := by rw [eσ1]; exact hP
    refine lv_iinc (v := (v3 + (1 : Int32))) (lv' := [(3, .int (v3 + (1 : Int32))), (0, .ref (Γ.1 145)), (1, .ref (Γ.1 b1)), (2, .int v2)]) C.1 C.2.1 (kd kX2_unload_0 10 rfl) hl (k := 3) rfl rfl (Nat.le_of_ble_eq_true rfl) rfl (fun ls hl => ?_)
    refine lv_goto (tgt := 2) C.1 C.2.1 (kd kX2_unload_0 11 rfl) (by decide) ?_
    exact hK2 (v2) ((v3 + (1 : Int32))) σ1 H locs ls hf hP hS (lv_sub hl [1, 2, 3, 0] rfl)
def f_X2_unload (b1 : Nat) (x2 : Int32) (σ : fS) : Option (Int32 × fS) := f_X2_unload_b2 b1 fN (x2) ((0 : Int32)) σ
set_option maxRecDepth 100000 in
set_option maxHeartbeats 4000000 in
theorem m_X2_unload {Γ : fGm} (hI : fI Γ) (l : Launch) {b1 : Nat} {x2 : Int32} (h1 : fD b1 = (3, 0, 0)) {σ : fS} {r : Int32} {σ' : fS} (hf : f_X2_unload b1 x2 σ = some (r, σ')) : Met l yX2_unload (.code yX2_unload cX2_unload 6 (some .int) :: lw_g) ({ frames := 3, cells := 0, slots := 0, locals := 74 } : Room) (fPre Γ [.ref (Γ.1 145), .ref (Γ.1 b1), .int x2] σ) (fQi Γ r σ') 0 0 (fAd Γ) := by
  refine fl_enter (own := RX2) hI (by decide +kernel) rfl (Nat.le_of_ble_eq_true rfl) ?_
  intro p e s m args below meth c ls C hl hP hS
  have hl : lv_has ls 6 [(0, .ref (Γ.1 145)), (1, .ref (Γ.1 b1)), (2, .int x2)] := hl
  obtain ⟨H, hH⟩ : ∃ H, H = s.heap := ⟨_, rfl⟩
  obtain ⟨locs, hL⟩ : ∃ L : List Loc, L = [] := ⟨_, rfl⟩
  have hP : fH Γ σ H := by rw [hH]; exact hP
  have hS : va_S (fAd Γ) s.heap H locs := by rw [hH, hL]; exact hS
  suffices hw : W p l e ({ frames := 3, cells := 0, slots := 0, locals := 74 } : Room) s m args below meth c H locs 0 0 (MQ below (fQi Γ r σ') args s 0 0 (fAd Γ)) (F0 m 0 ls []) by rw [hH, hL] at hw; exact hw
  unfold f_X2_unload at hf
  refine lv_iconst (v := (0 : Int32)) C.1 C.2.1 (kd kX2_unload_0 0 rfl) (by decide) ?_
  refine lv_istore_n (lv' := [(3, .int (0 : Int32)), (0, .ref (Γ.1 145)), (1, .ref (Γ.1 b1)), (2, .int x2)]) C.1 C.2.1 (kd kX2_unload_0 1 rfl) rfl hl (Nat.le_of_ble_eq_true rfl) rfl (fun ls hl => ?_)
  exact w_X2_unload_b2 h1 C fN (x2) ((0 : Int32)) σ H locs ls hf hP hS (lv_sub hl [1, 2, 3, 0] rfl)
def f_X2_sumMetersInLane_b55 (b1 : Nat) (K6 : Int32 → Int32 → Int32 → Int32 → fS → Option (Int32 × fS)) (v2 : Int32) (v3 : Int32) (v4 : Int32) (v5 : Int32) (σ : fS) : Option (Int32 × fS) := K6 (v2) (v3) (v4) ((v5 + (1 : Int32))) σ
set_option maxRecDepth 100000 in
set_option maxHeartbeats 4000000 in
theorem w_X2_sumMetersInLane_b55 {b1 : Nat} {r : Int32} {σ' : fS} {K6 : Int32 → Int32 → Int32 → Int32 → fS → Option (Int32 × fS)} (h1 : fD b1 = (3, 0, 0))  (C : fC Γ p s m args meth c cX2_sumMetersInLane (some .int) RX2 6) (hK6 : ∀ (v2 : Int32) (v3 : Int32) (v4 : Int32) (v5 : Int32) (σ : fS) (H : Heap) (locs : List Loc) (ls : Array Slot), K6 v2 v3 v4 v5 σ = some (r, σ') → fH Γ σ H → va_S (fAd Γ) s.heap H locs → lv_has ls 6 [(0, .ref (Γ.1 145)), (1, .ref (Γ.1 b1)), (2, .int v2), (3, .int v3), (4, .int v4), (5, .int v5)] → W p l e ({ frames := 1, cells := 0, slots := 0, locals := 22 } : Room) s m args below meth c H locs 0 0 (MQ below (fQi Γ r σ') args s 0 0 (fAd Γ)) (F0 m 6 ls [])) : ∀ (v2 : Int32) (v3 : Int32) (v4 : Int32) (v5 : Int32) (σ : fS) (H : Heap) (locs : List Loc) (ls : Array Slot), f_X2_sumMetersInLane_b55 b1 K6 v2 v3 v4 v5 σ = some (r, σ') → fH Γ σ H → va_S (fAd Γ) s.heap H locs → lv_has ls 6 [(0, .ref (Γ.1 145)), (1, .ref (Γ.1 b1)), (2, .int v2), (3, .int v3), (4, .int v4), (5, .int v5)] → W p l e ({ frames := 1, cells := 0, slots := 0, locals := 22 } : Room) s m args below meth c H locs 0 0 (MQ below (fQi Γ r σ') args s 0 0 (fAd Γ)) (F0 m 55 ls []) := by
  intro v2 v3 v4 v5 σ H locs ls hf hP hS hl
  unfold f_X2_sumMetersInLane_b55 at hf
  refine lv_iinc (v := (v5 + (1 : Int32))) (lv' := [(5, .int (v5 + (1 : Int32))), (0, .ref (Γ.1 145)), (1, .ref (Γ.1 b1)), (2, .int v2), (3, .int v3), (4, .int v4)]) C.1 C.2.1 (kd kX2_sumMetersInLane_0 29 rfl) hl (k := 5) rfl rfl (Nat.le_of_ble_eq_true rfl) rfl (fun ls hl => ?_)
  refine lv_goto (tgt := 6) C.1 C.2.1 (kd kX2_sumMetersInLane_0 30 rfl) (by decide) ?_
  exact hK6 (v2) (v3) (v4) ((v5 + (1 : Int32))) σ H locs ls hf hP hS (lv_sub hl [1, 2, 3, 4, 5, 0] rfl)
def f_X2_sumMetersInLane_b6 (b1 : Nat) : Nat → Int32 → Int32 → Int32 → Int32 → fS → Option (Int32 × fS)
  | 0, _, _, _, _, _ => none
  | n_ + 1, v2, v3, v4, v5, σ => fcall (f_X5_size (b1 + 7) 24 3 σ) (fun r1_ σ1 => (if r1_ ≤ v5 then some (v4, σ1) else fb v5 24 ((if (σ1 152 v5.toNatClampNeg) = v2 then fb v5 24 ((if (σ1 153 v5.toNatClampNeg) = v3 then fcall (f_X5_at (b1 + 7) 24 3 v5 (1 : Int32) σ1) (fun r2_ σ2 => f_X2_sumMetersInLane_b55 b1 (fun v2 v3 v4 v5 σ => f_X2_sumMetersInLane_b6 b1 n_ v2 v3 v4 v5 σ) (v2) (v3) ((v4 + r2_)) (v5) σ2) else f_X2_sumMetersInLane_b55 b1 (fun v2 v3 v4 v5 σ => f_X2_sumMetersInLane_b6 b1 n_ v2 v3 v4 v5 σ) (v2) (v3) (v4) (v5) σ1)) else f_X2_sumMetersInLane_b55 b1 (fun v2 v3 v4 v5 σ => f_X2_sumMetersInLane_b6 b1 n_ v2 v3 v4 v5 σ) (v2) (v3) (v4) (v5) σ1))))
set_option maxRecDepth 100000 in
set_option maxHeartbeats 4000000 in
theorem w_X2_sumMetersInLane_b6 {b1 : Nat} {r : Int32} {σ' : fS} (h1 : fD b1 = (3, 0, 0))  (C : fC Γ p s m args meth c cX2_sumMetersInLane (some .int) RX2 6) : ∀ (n_ : Nat) (v2 : Int32) (v3 : Int32) (v4 : Int32) (v5 : Int32) (σ : fS) (H : Heap) (locs : List Loc) (ls : Array Slot), f_X2_sumMetersInLane_b6 b1 n_ v2 v3 v4 v5 σ = some (r, σ') → fH Γ σ H → va_S (fAd Γ) s.heap H locs → lv_has ls 6 [(0, .ref (Γ.1 145)), (1, .ref (Γ.1 b1)), (2, .int v2), (3, .int v3), (4, .int v4), (5, .int v5)] → W p l e ({ frames := 1, cells := 0, slots := 0, locals := 22 } : Room) s m args below meth c H locs 0 0 (MQ below (fQi Γ r σ') args s 0 0 (fAd Γ)) (F0 m 6 ls []) := by
  intro n_
  induction n_ with
  | zero =>
    intro v2 v3 v4 v5 σ H locs ls hf
    cases hf
  | succ n_ ih =>
    intro v2 v3 v4 v5 σ H locs ls hf hP hS hl
    have hf : fcall (f_X5_size (b1 + 7) 24 3 σ) (fun r1_ σ1 => (if r1_ ≤ v5 then some (v4, σ1) else fb v5 24 ((if (σ1 152 v5.toNatClampNeg) = v2 then fb v5 24 ((if (σ1 153 v5.toNatClampNeg) = v3 then fcall (f_X5_at (b1 + 7) 24 3 v5 (1 : Int32) σ1) (fun r2_ σ2 => f_X2_sumMetersInLane_b55 b1 (fun v2 v3 v4 v5 σ => f_X2_sumMetersInLane_b6 b1 n_ v2 v3 v4 v5 σ) (v2) (v3) ((v4 + r2_)) (v5) σ2) else f_X2_sumMetersInLane_b55 b1 (fun v2 v3 v4 v5 σ => f_X2_sumMetersInLane_b6 b1 n_ v2 v3 v4 v5 σ) (v2) (v3) (v4) (v5) σ1)) else f_X2_sumMetersInLane_b55 b1 (fun v2 v3 v4 v5 σ => f_X2_sumMetersInLane_b6 b1 n_ v2 v3 v4 v5 σ) (v2) (v3) (v4) (v5) σ1)))) = some (r, σ') := hf
    have hK6 := ih
    refine lv_iload C.1 C.2.1 (kd kX2_sumMetersInLane_0 4 rfl) (lv_at hl 5 rfl) ?_
    refine lv_aload_n C.1 C.2.1 (kd kX2_sumMetersInLane_0 5 rfl) rfl (lv_at hl 1 rfl) ?_
    refine fl_get (j := 3) (v := .ref (Γ.1 (b1 + 7))) C hP (fe_P h1) (fD_lt h1) rfl inX3 (Nat.le_of_ble_eq_true rfl) tw_122 rfl (kd kX2_sumMetersInLane_0 6 rfl) ?_
    obtain ⟨r1_, σ1, hσ1, hf⟩ := fcall_some hf
    refine fl_i hS (fl_runV (As := []) (rest := [.int v5]) C hP (fe_T (fD_prt h1).2.2.2.1) (fD_lt (fD_prt h1).2.2.2.1) rfl (m_X5_size C.2.2.2.2.2.2.2.2 l (fD_prt h1).2.2.2.1 hσ1) (fgV tw_616 tw_414 tw_415 tw_69 tw_416) hd_X5_size ⟨rfl, rfl, Nat.le_of_ble_eq_true rfl, Nat.le_of_ble_eq_true rfl⟩ rfl hl.1 rfl (Nat.le_of_ble_eq_true rfl) (kd kX2_sumMetersInLane_0 7 rfl)) (fun H locs hP hS => ?_)
    refine lv_icmp_ge (tgt := 61) C.1 C.2.1 (kd kX2_sumMetersInLane_0 8 rfl) (by decide) (fun q => ?_) (fun q => ?_)
    · have hf := fif_pos q hf
      refine lv_iload C.1 C.2.1 (kd kX2_sumMetersInLane_0 31 rfl) (lv_at hl 4 rfl) ?_
      exact fl_iret C hP hS hf (kd kX2_sumMetersInLane_0 32 rfl)
    have hf := fif_neg q hf
    refine lv_aload_n C.1 C.2.1 (kd kX2_sumMetersInLane_0 9 rfl) rfl (lv_at hl 0 rfl) ?_
    refine fl_get (j := 6) (v := .ref (Γ.1 152)) C hP rfl (Nat.le_of_ble_eq_true rfl) rfl inX2 (Nat.le_of_ble_eq_true rfl) tw_212 rfl (kd kX2_sumMetersInLane_0 10 rfl) ?_
    refine lv_iload C.1 C.2.1 (kd kX2_sumMetersInLane_0 11 rfl) (lv_at hl 5 rfl) ?_
    obtain ⟨hq, hf⟩ := fb_some hf
    refine fl_iald C hP rfl hq (kd kX2_sumMetersInLane_0 12 rfl) ?_
    refine lv_iload_n C.1 C.2.1 (kd kX2_sumMetersInLane_0 13 rfl) rfl (lv_at hl 2 rfl) ?_
    refine lv_icmp_ne (tgt := 55) C.1 C.2.1 (kd kX2_sumMetersInLane_0 14 rfl) (by decide) (fun q => ?_) (fun q => ?_)
    · have hf := fif_neg q hf
      exact w_X2_sumMetersInLane_b55 h1 C hK6 (v2) (v3) (v4) (v5) σ1 H locs ls hf hP hS (lv_sub hl [0, 1, 2, 3, 4, 5] rfl)
    have hf := fif_pos q hf
    refine lv_aload_n C.1 C.2.1 (kd kX2_sumMetersInLane_0 15 rfl) rfl (lv_at hl 0 rfl) ?_
    refine fl_get (j := 7) (v := .ref (Γ.1 153)) C hP rfl (Nat.le_of_ble_eq_true rfl) rfl inX2 (Nat.le_of_ble_eq_true rfl) tw_213 rfl (kd kX2_sumMetersInLane_0 16 rfl) ?_
    refine lv_iload C.1 C.2.1 (kd kX2_sumMetersInLane_0 17 rfl) (lv_at hl 5 rfl) ?_
    obtain ⟨hq, hf⟩ := fb_some hf
    refine fl_iald C hP rfl hq (kd kX2_sumMetersInLane_0 18 rfl) ?_
    refine lv_iload_n C.1 C.2.1 (kd kX2_sumMetersInLane_0 19 rfl) rfl (lv_at hl 3 rfl) ?_
    refine lv_icmp_ne (tgt := 55) C.1 C.2.1 (kd kX2_sumMetersInLane_0 20 rfl) (by decide) (fun q => ?_) (fun q => ?_)
    · have hf := fif_neg q hf
      exact w_X2_sumMetersInLane_b55 h1 C hK6 (v2) (v3) (v4) (v5) σ1 H locs ls hf hP hS (lv_sub hl [0, 1, 2, 3, 4, 5] rfl)
    have hf := fif_pos q hf
    refine lv_iload C.1 C.2.1 (kd kX2_sumMetersInLane_0 21 rfl) (lv_at hl 4 rfl) ?_
    refine lv_aload_n C.1 C.2.1 (kd kX2_sumMetersInLane_0 22 rfl) rfl (lv_at hl 1 rfl) ?_
    refine fl_get (j := 3) (v := .ref (Γ.1 (b1 + 7))) C hP (fe_P h1) (fD_lt h1) rfl inX3 (Nat.le_of_ble_eq_true rfl) tw_122 rfl (kd kX2_sumMetersInLane_0 23 rfl) ?_
    refine lv_iload C.1 C.2.1 (kd kX2_sumMetersInLane_0 24 rfl) (lv_at hl 5 rfl) ?_
    refine lv_iconst (v := (1 : Int32)) C.1 C.2.1 (kd kX2_sumMetersInLane_0 25 rfl) (by decide) ?_
    obtain ⟨r2_, σ2, hσ2, hf⟩ := fcall_some hf
    refine fl_i hS (fl_runV (As := [.int v5, .int (1 : Int32)]) (rest := [.int v4]) C hP (fe_T (fD_prt h1).2.2.2.1) (fD_lt (fD_prt h1).2.2.2.1) rfl (m_X5_at C.2.2.2.2.2.2.2.2 l (fD_prt h1).2.2.2.1 hσ2) (fgV tw_625 tw_418 tw_419 tw_69 tw_420) hd_X5_at ⟨rfl, rfl, Nat.le_of_ble_eq_true rfl, Nat.le_of_ble_eq_true rfl⟩ rfl hl.1 rfl (Nat.le_of_ble_eq_true rfl) (kd kX2_sumMetersInLane_0 26 rfl)) (fun H locs hP hS => ?_)
    refine lv_iadd C.1 C.2.1 (kd kX2_sumMetersInLane_0 27 rfl) ?_
    refine lv_istore (lv' := [(4, .int (v4 + r2_)), (0, .ref (Γ.1 145)), (1, .ref (Γ.1 b1)), (2, .int v2), (3, .int v3), (5, .int v5)]) C.1 C.2.1 (kd kX2_sumMetersInLane_0 28 rfl) hl (Nat.le_of_ble_eq_true rfl) rfl (fun ls hl => ?_)
    exact w_X2_sumMetersInLane_b55 h1 C hK6 (v2) (v3) ((v4 + r2_)) (v5) σ2 H locs ls hf hP hS (lv_sub hl [1, 2, 3, 4, 0, 5] rfl)
def f_X2_sumMetersInLane (b1 : Nat) (x2 : Int32) (x3 : Int32) (σ : fS) : Option (Int32 × fS) := f_X2_sumMetersInLane_b6 b1 fN (x2) (x3) ((0 : Int32)) ((0 : Int32)) σ
set_option maxRecDepth 100000 in
set_option maxHeartbeats 4000000 in
theorem m_X2_sumMetersInLane {Γ : fGm} (hI : fI Γ) (l : Launch) {b1 : Nat} {x2 : Int32} {x3 : Int32} (h1 : fD b1 = (3, 0, 0)) {σ : fS} {r : Int32} {σ' : fS} (hf : f_X2_sumMetersInLane b1 x2 x3 σ = some (r, σ')) : Met l yX2_sumMetersInLane (.code yX2_sumMetersInLane cX2_sumMetersInLane 6 (some .int) :: lw_g) ({ frames := 1, cells := 0, slots := 0, locals := 22 } : Room) (fPre Γ [.ref (Γ.1 145), .ref (Γ.1 b1), .int x2, .int x3] σ) (fQi Γ r σ') 0 0 (fAd Γ) := by
  refine fl_enter (own := RX2) hI (by decide +kernel) rfl (Nat.le_of_ble_eq_true rfl) ?_
  intro p e s m args below meth c ls C hl hP hS
  have hl : lv_has ls 6 [(0, .ref (Γ.1 145)), (1, .ref (Γ.1 b1)), (2, .int x2), (3, .int x3)] := hl
  obtain ⟨H, hH⟩ : ∃ H, H = s.heap := ⟨_, rfl⟩
  obtain ⟨locs, hL⟩ : ∃ L : List Loc, L = [] := ⟨_, rfl⟩
  have hP : fH Γ σ H := by rw [hH]; exact hP
  have hS : va_S (fAd Γ) s.heap H locs := by rw [hH, hL]; exact hS
  suffices hw : W p l e ({ frames := 1, cells := 0, slots := 0, locals := 22 } : Room) s m args below meth c H locs 0 0 (MQ below (fQi Γ r σ') args s 0 0 (fAd Γ)) (F0 m 0 ls []) by rw [hH, hL] at hw; exact hw
  unfold f_X2_sumMetersInLane at hf
  refine lv_iconst (v := (0 : Int32)) C.1 C.2.1 (kd kX2_sumMetersInLane_0 0 rfl) (by decide) ?_
  refine lv_istore (lv' := [(4, .int (0 : Int32)), (0, .ref (Γ.1 145)), (1, .ref (Γ.1 b1)), (2, .int x2), (3, .int x3)]) C.1 C.2.1 (kd kX2_sumMetersInLane_0 1 rfl) hl (Nat.le_of_ble_eq_true rfl) rfl (fun ls hl => ?_)
  refine lv_iconst (v := (0 : Int32)) C.1 C.2.1 (kd kX2_sumMetersInLane_0 2 rfl) (by decide) ?_
  refine lv_istore (lv' := [(5, .int (0 : Int32)), (4, .int (0 : Int32)), (0, .ref (Γ.1 145)), (1, .ref (Γ.1 b1)), (2, .int x2), (3, .int x3)]) C.1 C.2.1 (kd kX2_sumMetersInLane_0 3 rfl) hl (Nat.le_of_ble_eq_true rfl) rfl (fun ls hl => ?_)
  exact w_X2_sumMetersInLane_b6 h1 C fN (x2) (x3) ((0 : Int32)) ((0 : Int32)) σ H locs ls hf hP hS (lv_sub hl [2, 3, 4, 5, 1, 0] rfl)
def f_X2_countAboard_b31 (b1 : Nat) (K5 : Int32 → Int32 → Int32 → fS → Option (Int32 × fS)) (v2 : Int32) (v3 : Int32) (v4 : Int32) (σ : fS) : Option (Int32 × fS) := K5 (v2) (v3) ((v4 + (1 : Int32))) σ
set_option maxRecDepth 100000 in
set_option maxHeartbeats 4000000 in
theorem w_X2_countAboard_b31 {b1 : Nat} {r : Int32} {σ' : fS} {K5 : Int32 → Int32 → Int32 → fS → Option (Int32 × fS)} (h1 : fD b1 = (3, 0, 0))  (C : fC Γ p s m args meth c cX2_countAboard (some .int) RX2 5) (hK5 : ∀ (v2 : Int32) (v3 : Int32) (v4 : Int32) (σ : fS) (H : Heap) (locs : List Loc) (ls : Array Slot), K5 v2 v3 v4 σ = some (r, σ') → fH Γ σ H → va_S (fAd Γ) s.heap H locs → lv_has ls 5 [(0, .ref (Γ.1 145)), (1, .ref (Γ.1 b1)), (2, .int v2), (3, .int v3), (4, .int v4)] → W p l e ({ frames := 1, cells := 0, slots := 0, locals := 20 } : Room) s m args below meth c H locs 0 0 (MQ below (fQi Γ r σ') args s 0 0 (fAd Γ)) (F0 m 5 ls [])) : ∀ (v2 : Int32) (v3 : Int32) (v4 : Int32) (σ : fS) (H : Heap) (locs : List Loc) (ls : Array Slot), f_X2_countAboard_b31 b1 K5 v2 v3 v4 σ = some (r, σ') → fH Γ σ H → va_S (fAd Γ) s.heap H locs → lv_has ls 5 [(0, .ref (Γ.1 145)), (1, .ref (Γ.1 b1)), (2, .int v2), (3, .int v3), (4, .int v4)] → W p l e ({ frames := 1, cells := 0, slots := 0, locals := 20 } : Room) s m args below meth c H locs 0 0 (MQ below (fQi Γ r σ') args s 0 0 (fAd Γ)) (F0 m 31 ls []) := by
  intro v2 v3 v4 σ H locs ls hf hP hS hl
  unfold f_X2_countAboard_b31 at hf
  refine lv_iinc (v := (v4 + (1 : Int32))) (lv' := [(4, .int (v4 + (1 : Int32))), (0, .ref (Γ.1 145)), (1, .ref (Γ.1 b1)), (2, .int v2), (3, .int v3)]) C.1 C.2.1 (kd kX2_countAboard_0 16 rfl) hl (k := 4) rfl rfl (Nat.le_of_ble_eq_true rfl) rfl (fun ls hl => ?_)
  refine lv_goto (tgt := 5) C.1 C.2.1 (kd kX2_countAboard_0 17 rfl) (by decide) ?_
  exact hK5 (v2) (v3) ((v4 + (1 : Int32))) σ H locs ls hf hP hS (lv_sub hl [1, 2, 3, 4, 0] rfl)
def f_X2_countAboard_b5 (b1 : Nat) : Nat → Int32 → Int32 → Int32 → fS → Option (Int32 × fS)
  | 0, _, _, _, _ => none
  | n_ + 1, v2, v3, v4, σ => fcall (f_X5_size (b1 + 7) 24 3 σ) (fun r1_ σ1 => (if r1_ ≤ v4 then some (v3, σ1) else fb v4 24 ((if (σ1 152 v4.toNatClampNeg) = v2 then f_X2_countAboard_b31 b1 (fun v2 v3 v4 σ => f_X2_countAboard_b5 b1 n_ v2 v3 v4 σ) (v2) ((v3 + (1 : Int32))) (v4) σ1 else f_X2_countAboard_b31 b1 (fun v2 v3 v4 σ => f_X2_countAboard_b5 b1 n_ v2 v3 v4 σ) (v2) (v3) (v4) σ1))))
set_option maxRecDepth 100000 in
set_option maxHeartbeats 4000000 in
theorem w_X2_countAboard_b5 {b1 : Nat} {r : Int32} {σ' : fS} (h1 : fD b1 = (3, 0, 0))  (C : fC Γ p s m args meth c cX2_countAboard (some .int) RX2 5) : ∀ (n_ : Nat) (v2 : Int32) (v3 : Int32) (v4 : Int32) (σ : fS) (H : Heap) (locs : List Loc) (ls : Array Slot), f_X2_countAboard_b5 b1 n_ v2 v3 v4 σ = some (r, σ') → fH Γ σ H → va_S (fAd Γ) s.heap H locs → lv_has ls 5 [(0, .ref (Γ.1 145)), (1, .ref (Γ.1 b1)), (2, .int v2), (3, .int v3), (4, .int v4)] → W p l e ({ frames := 1, cells := 0, slots := 0, locals := 20 } : Room) s m args below meth c H locs 0 0 (MQ below (fQi Γ r σ') args s 0 0 (fAd Γ)) (F0 m 5 ls []) := by
  intro n_
  induction n_ with
  | zero =>
    intro v2 v3 v4 σ H locs ls hf
    cases hf
  | succ n_ ih =>
    intro v2 v3 v4 σ H locs ls hf hP hS hl
    have hf : fcall (f_X5_size (b1 + 7) 24 3 σ) (fun r1_ σ1 => (if r1_ ≤ v4 then some (v3, σ1) else fb v4 24 ((if (σ1 152 v4.toNatClampNeg) = v2 then f_X2_countAboard_b31 b1 (fun v2 v3 v4 σ => f_X2_countAboard_b5 b1 n_ v2 v3 v4 σ) (v2) ((v3 + (1 : Int32))) (v4) σ1 else f_X2_countAboard_b31 b1 (fun v2 v3 v4 σ => f_X2_countAboard_b5 b1 n_ v2 v3 v4 σ) (v2) (v3) (v4) σ1)))) = some (r, σ') := hf
    have hK5 := ih
    refine lv_iload C.1 C.2.1 (kd kX2_countAboard_0 4 rfl) (lv_at hl 4 rfl) ?_
    refine lv_aload_n C.1 C.2.1 (kd kX2_countAboard_0 5 rfl) rfl (lv_at hl 1 rfl) ?_
    refine fl_get (j := 3) (v := .ref (Γ.1 (b1 + 7))) C hP (fe_P h1) (fD_lt h1) rfl inX3 (Nat.le_of_ble_eq_true rfl) tw_122 rfl (kd kX2_countAboard_0 6 rfl) ?_
    obtain ⟨r1_, σ1, hσ1, hf⟩ := fcall_some hf
    refine fl_i hS (fl_runV (As := []) (rest := [.int v4]) C hP (fe_T (fD_prt h1).2.2.2.1) (fD_lt (fD_prt h1).2.2.2.1) rfl (m_X5_size C.2.2.2.2.2.2.2.2 l (fD_prt h1).2.2.2.1 hσ1) (fgV tw_616 tw_414 tw_415 tw_69 tw_416) hd_X5_size ⟨rfl, rfl, Nat.le_of_ble_eq_true rfl, Nat.le_of_ble_eq_true rfl⟩ rfl hl.1 rfl (Nat.le_of_ble_eq_true rfl) (kd kX2_countAboard_0 7 rfl)) (fun H locs hP hS => ?_)
    refine lv_icmp_ge (tgt := 37) C.1 C.2.1 (kd kX2_countAboard_0 8 rfl) (by decide) (fun q => ?_) (fun q => ?_)
    · have hf := fif_pos q hf
      refine lv_iload_n C.1 C.2.1 (kd kX2_countAboard_0 18 rfl) rfl (lv_at hl 3 rfl) ?_
      exact fl_iret C hP hS hf (kd kX2_countAboard_0 19 rfl)
    have hf := fif_neg q hf
    refine lv_aload_n C.1 C.2.1 (kd kX2_countAboard_0 9 rfl) rfl (lv_at hl 0 rfl) ?_
    refine fl_get (j := 6) (v := .ref (Γ.1 152)) C hP rfl (Nat.le_of_ble_eq_true rfl) rfl inX2 (Nat.le_of_ble_eq_true rfl) tw_212 rfl (kd kX2_countAboard_0 10 rfl) ?_
    refine lv_iload C.1 C.2.1 (kd kX2_countAboard_0 11 rfl) (lv_at hl 4 rfl) ?_
    obtain ⟨hq, hf⟩ := fb_some hf
    refine fl_iald C hP rfl hq (kd kX2_countAboard_0 12 rfl) ?_
    refine lv_iload_n C.1 C.2.1 (kd kX2_countAboard_0 13 rfl) rfl (lv_at hl 2 rfl) ?_
    refine lv_icmp_ne (tgt := 31) C.1 C.2.1 (kd kX2_countAboard_0 14 rfl) (by decide) (fun q => ?_) (fun q => ?_)
    · have hf := fif_neg q hf
      exact w_X2_countAboard_b31 h1 C hK5 (v2) (v3) (v4) σ1 H locs ls hf hP hS (lv_sub hl [0, 1, 2, 3, 4] rfl)
    have hf := fif_pos q hf
    refine lv_iinc (v := (v3 + (1 : Int32))) (lv' := [(3, .int (v3 + (1 : Int32))), (0, .ref (Γ.1 145)), (1, .ref (Γ.1 b1)), (2, .int v2), (4, .int v4)]) C.1 C.2.1 (kd kX2_countAboard_0 15 rfl) hl (k := 3) rfl rfl (Nat.le_of_ble_eq_true rfl) rfl (fun ls hl => ?_)
    exact w_X2_countAboard_b31 h1 C hK5 (v2) ((v3 + (1 : Int32))) (v4) σ1 H locs ls hf hP hS (lv_sub hl [1, 2, 3, 0, 4] rfl)
def f_X2_countAboard (b1 : Nat) (x2 : Int32) (σ : fS) : Option (Int32 × fS) := f_X2_countAboard_b5 b1 fN (x2) ((0 : Int32)) ((0 : Int32)) σ
set_option maxRecDepth 100000 in
set_option maxHeartbeats 4000000 in
theorem m_X2_countAboard {Γ : fGm} (hI : fI Γ) (l : Launch) {b1 : Nat} {x2 : Int32} (h1 : fD b1 = (3, 0, 0)) {σ : fS} {r : Int32} {σ' : fS} (hf : f_X2_countAboard b1 x2 σ = some (r, σ')) : Met l yX2_countAboard (.code yX2_countAboard cX2_countAboard 5 (some .int) :: lw_g) ({ frames := 1, cells := 0, slots := 0, locals := 20 } : Room) (fPre Γ [.ref (Γ.1 145), .ref (Γ.1 b1), .int x2] σ) (fQi Γ r σ') 0 0 (fAd Γ) := by
  refine fl_enter (own := RX2) hI (by decide +kernel) rfl (Nat.le_of_ble_eq_true rfl) ?_
  intro p e s m args below meth c ls C hl hP hS
  have hl : lv_has ls 5 [(0, .ref (Γ.1 145)), (1, .ref (Γ.1 b1)), (2, .int x2)] := hl
  obtain ⟨H, hH⟩ : ∃ H, H = s.heap := ⟨_, rfl⟩
  obtain ⟨locs, hL⟩ : ∃ L : List Loc, L = [] := ⟨_, rfl⟩
  have hP : fH Γ σ H := by rw [hH]; exact hP
  have hS : va_S (fAd Γ) s.heap H locs := by rw [hH, hL]; exact hS
  suffices hw : W p l e ({ frames := 1, cells := 0, slots := 0, locals := 20 } : Room) s m args below meth c H locs 0 0 (MQ below (fQi Γ r σ') args s 0 0 (fAd Γ)) (F0 m 0 ls []) by rw [hH, hL] at hw; exact hw
  unfold f_X2_countAboard at hf
  refine lv_iconst (v := (0 : Int32)) C.1 C.2.1 (kd kX2_countAboard_0 0 rfl) (by decide) ?_
  refine lv_istore_n (lv' := [(3, .int (0 : Int32)), (0, .ref (Γ.1 145)), (1, .ref (Γ.1 b1)), (2, .int x2)]) C.1 C.2.1 (kd kX2_countAboard_0 1 rfl) rfl hl (Nat.le_of_ble_eq_true rfl) rfl (fun ls hl => ?_)
  refine lv_iconst (v := (0 : Int32)) C.1 C.2.1 (kd kX2_countAboard_0 2 rfl) (by decide) ?_
  refine lv_istore (lv' := [(4, .int (0 : Int32)), (3, .int (0 : Int32)), (0, .ref (Γ.1 145)), (1, .ref (Γ.1 b1)), (2, .int x2)]) C.1 C.2.1 (kd kX2_countAboard_0 3 rfl) hl (Nat.le_of_ble_eq_true rfl) rfl (fun ls hl => ?_)
  exact w_X2_countAboard_b5 h1 C fN (x2) ((0 : Int32)) ((0 : Int32)) σ H locs ls hf hP hS (lv_sub hl [2, 3, 4, 1, 0] rfl)
def f_X2_isRight_b2 (b1 : Nat) : Nat → Int32 → Int32 → fS → Option (Int32 × fS)
  | 0, _, _, _ => none
  | n_ + 1, v2, v3, σ => fcall (f_X3_lanesOf b1 v2 σ) (fun r1_ σ1 => (if r1_ ≤ v3 then fcall (f_X2_unload b1 v2 σ1) (fun r2_ σ2 => fcall (f_X2_countAboard b1 v2 σ2) (fun r3_ σ3 => (if r2_ = r3_ then some ((1 : Int32), σ3) else some ((0 : Int32), σ3)))) else fcall (f_X2_sumMetersInLane b1 v2 v3 σ1) (fun r4_ σ4 => fcall (f_X3_laneLengthOf b1 v2 σ4) (fun r5_ σ5 => (if r4_ ≤ r5_ then (fun v2 v3 σ => f_X2_isRight_b2 b1 n_ v2 v3 σ) (v2) ((v3 + (1 : Int32))) σ5 else some ((0 : Int32), σ5))))))
set_option maxRecDepth 100000 in
set_option maxHeartbeats 4000000 in
theorem w_X2_isRight_b2 {b1 : Nat} {r : Int32} {σ' : fS} (h1 : fD b1 = (3, 0, 0))  (C : fC Γ p s m args meth c cX2_isRight (some .boolean) RX2 4) : ∀ (n_ : Nat) (v2 : Int32) (v3 : Int32) (σ : fS) (H : Heap) (locs : List Loc) (ls : Array Slot), f_X2_isRight_b2 b1 n_ v2 v3 σ = some (r, σ') → fH Γ σ H → va_S (fAd Γ) s.heap H locs → lv_has ls 4 [(0, .ref (Γ.1 145)), (1, .ref (Γ.1 b1)), (2, .int v2), (3, .int v3)] → W p l e ({ frames := 4, cells := 0, slots := 0, locals := 99 } : Room) s m args below meth c H locs 0 0 (MQ below (fQi Γ r σ') args s 0 0 (fAd Γ)) (F0 m 2 ls []) := by
  intro n_
  induction n_ with
  | zero =>
    intro v2 v3 σ H locs ls hf
    cases hf
  | succ n_ ih =>
    intro v2 v3 σ H locs ls hf hP hS hl
    have hf : fcall (f_X3_lanesOf b1 v2 σ) (fun r1_ σ1 => (if r1_ ≤ v3 then fcall (f_X2_unload b1 v2 σ1) (fun r2_ σ2 => fcall (f_X2_countAboard b1 v2 σ2) (fun r3_ σ3 => (if r2_ = r3_ then some ((1 : Int32), σ3) else some ((0 : Int32), σ3)))) else fcall (f_X2_sumMetersInLane b1 v2 v3 σ1) (fun r4_ σ4 => fcall (f_X3_laneLengthOf b1 v2 σ4) (fun r5_ σ5 => (if r4_ ≤ r5_ then (fun v2 v3 σ => f_X2_isRight_b2 b1 n_ v2 v3 σ) (v2) ((v3 + (1 : Int32))) σ5 else some ((0 : Int32), σ5)))))) = some (r, σ') := hf
    have hK2 := ih
    refine lv_iload_n C.1 C.2.1 (kd kX2_isRight_0 2 rfl) rfl (lv_at hl 3 rfl) ?_
    refine lv_aload_n C.1 C.2.1 (kd kX2_isRight_0 3 rfl) rfl (lv_at hl 1 rfl) ?_
    refine lv_iload_n C.1 C.2.1 (kd kX2_isRight_0 4 rfl) rfl (lv_at hl 2 rfl) ?_
    obtain ⟨r1_, σ1, hσ1, hf⟩ := fcall_some hf
    refine fl_i hS (fl_runV (As := [.int v2]) (rest := [.int v3]) C hP (fe_P h1) (fD_lt h1) rfl (m_X3_lanesOf C.2.2.2.2.2.2.2.2 l h1 hσ1) (fgV tw_643 tw_644 tw_645 tw_68 tw_646) hd_X3_lanesOf ⟨rfl, rfl, Nat.le_of_ble_eq_true rfl, Nat.le_of_ble_eq_true rfl⟩ rfl hl.1 rfl (Nat.le_of_ble_eq_true rfl) (kd kX2_isRight_0 5 rfl)) (fun H locs hP hS => ?_)
    refine lv_icmp_ge (tgt := 34) C.1 C.2.1 (kd kX2_isRight_0 6 rfl) (by decide) (fun q => ?_) (fun q => ?_)
    · have hf := fif_pos q hf
      refine lv_aload_n C.1 C.2.1 (kd kX2_isRight_0 20 rfl) rfl (lv_at hl 0 rfl) ?_
      refine lv_aload_n C.1 C.2.1 (kd kX2_isRight_0 21 rfl) rfl (lv_at hl 1 rfl) ?_
      refine lv_iload_n C.1 C.2.1 (kd kX2_isRight_0 22 rfl) rfl (lv_at hl 2 rfl) ?_
      obtain ⟨r2_, σ2, hσ2, hf⟩ := fcall_some hf
      refine fl_i hS (fl_runV (As := [.ref (Γ.1 b1), .int v2]) (rest := []) C hP rfl (Nat.le_of_ble_eq_true rfl) rfl (m_X2_unload C.2.2.2.2.2.2.2.2 l h1 hσ2) (fgV tw_759 tw_735 tw_736 tw_72 tw_737) hd_X2_unload ⟨rfl, rfl, Nat.le_of_ble_eq_true rfl, Nat.le_of_ble_eq_true rfl⟩ rfl hl.1 rfl (Nat.le_of_ble_eq_true rfl) (kd kX2_isRight_0 23 rfl)) (fun H locs hP hS => ?_)
      refine lv_aload_n C.1 C.2.1 (kd kX2_isRight_0 24 rfl) rfl (lv_at hl 0 rfl) ?_
      refine lv_aload_n C.1 C.2.1 (kd kX2_isRight_0 25 rfl) rfl (lv_at hl 1 rfl) ?_
      refine lv_iload_n C.1 C.2.1 (kd kX2_isRight_0 26 rfl) rfl (lv_at hl 2 rfl) ?_
      obtain ⟨r3_, σ3, hσ3, hf⟩ := fcall_some hf
      refine fl_i hS (fl_runV (As := [.ref (Γ.1 b1), .int v2]) (rest := [.int r2_]) C hP rfl (Nat.le_of_ble_eq_true rfl) rfl (m_X2_countAboard C.2.2.2.2.2.2.2.2 l h1 hσ3) (fgV tw_760 tw_660 tw_661 tw_72 tw_662) hd_X2_countAboard ⟨rfl, rfl, Nat.le_of_ble_eq_true rfl, Nat.le_of_ble_eq_true rfl⟩ rfl hl.1 rfl (Nat.le_of_ble_eq_true rfl) (kd kX2_isRight_0 27 rfl)) (fun H locs hP hS => ?_)
      refine lv_icmp_ne (tgt := 53) C.1 C.2.1 (kd kX2_isRight_0 28 rfl) (by decide) (fun q => ?_) (fun q => ?_)
      · have hf := fif_neg q hf
        refine lv_iconst (v := (0 : Int32)) C.1 C.2.1 (kd kX2_isRight_0 31 rfl) (by decide) ?_
        exact fl_zret C hP hS rfl hf (kd kX2_isRight_0 32 rfl)
      have hf := fif_pos q hf
      refine lv_iconst (v := (1 : Int32)) C.1 C.2.1 (kd kX2_isRight_0 29 rfl) (by decide) ?_
      refine lv_goto (tgt := 54) C.1 C.2.1 (kd kX2_isRight_0 30 rfl) (by decide) ?_
      exact fl_zret C hP hS rfl hf (kd kX2_isRight_0 32 rfl)
    have hf := fif_neg q hf
    refine lv_aload_n C.1 C.2.1 (kd kX2_isRight_0 7 rfl) rfl (lv_at hl 0 rfl) ?_
    refine lv_aload_n C.1 C.2.1 (kd kX2_isRight_0 8 rfl) rfl (lv_at hl 1 rfl) ?_
    refine lv_iload_n C.1 C.2.1 (kd kX2_isRight_0 9 rfl) rfl (lv_at hl 2 rfl) ?_
    refine lv_iload_n C.1 C.2.1 (kd kX2_isRight_0 10 rfl) rfl (lv_at hl 3 rfl) ?_
    obtain ⟨r4_, σ4, hσ4, hf⟩ := fcall_some hf
    refine fl_i hS (fl_runV (As := [.ref (Γ.1 b1), .int v2, .int v3]) (rest := []) C hP rfl (Nat.le_of_ble_eq_true rfl) rfl (m_X2_sumMetersInLane C.2.2.2.2.2.2.2.2 l h1 hσ4) (fgV tw_755 tw_757 tw_18 tw_72 tw_758) hd_X2_sumMetersInLane ⟨rfl, rfl, Nat.le_of_ble_eq_true rfl, Nat.le_of_ble_eq_true rfl⟩ rfl hl.1 rfl (Nat.le_of_ble_eq_true rfl) (kd kX2_isRight_0 11 rfl)) (fun H locs hP hS => ?_)
    refine lv_aload_n C.1 C.2.1 (kd kX2_isRight_0 12 rfl) rfl (lv_at hl 1 rfl) ?_
    refine lv_iload_n C.1 C.2.1 (kd kX2_isRight_0 13 rfl) rfl (lv_at hl 2 rfl) ?_
    obtain ⟨r5_, σ5, hσ5, hf⟩ := fcall_some hf
    refine fl_i hS (fl_runV (As := [.int v2]) (rest := [.int r4_]) C hP (fe_P h1) (fD_lt h1) rfl (m_X3_laneLengthOf C.2.2.2.2.2.2.2.2 l h1 hσ5) (fgV tw_621 tw_622 tw_623 tw_68 tw_624) hd_X3_laneLengthOf ⟨rfl, rfl, Nat.le_of_ble_eq_true rfl, Nat.le_of_ble_eq_true rfl⟩ rfl hl.1 rfl (Nat.le_of_ble_eq_true rfl) (kd kX2_isRight_0 14 rfl)) (fun H locs hP hS => ?_)
    refine lv_icmp_le (tgt := 28) C.1 C.2.1 (kd kX2_isRight_0 15 rfl) (by decide) (fun q => ?_) (fun q => ?_)
    · have hf := fif_pos q hf
      refine lv_iinc (v := (v3 + (1 : Int32))) (lv' := [(3, .int (v3 + (1 : Int32))), (0, .ref (Γ.1 145)), (1, .ref (Γ.1 b1)), (2, .int v2)]) C.1 C.2.1 (kd kX2_isRight_0 18 rfl) hl (k := 3) rfl rfl (Nat.le_of_ble_eq_true rfl) rfl (fun ls hl => ?_)
      refine lv_goto (tgt := 2) C.1 C.2.1 (kd kX2_isRight_0 19 rfl) (by decide) ?_
      exact hK2 (v2) ((v3 + (1 : Int32))) σ5 H locs ls hf hP hS (lv_sub hl [1, 2, 3, 0] rfl)
    have hf := fif_neg q hf
    refine lv_iconst (v := (0 : Int32)) C.1 C.2.1 (kd kX2_isRight_0 16 rfl) (by decide) ?_
    exact fl_zret C hP hS rfl hf (kd kX2_isRight_0 17 rfl)
def f_X2_isRight (b1 : Nat) (x2 : Int32) (σ : fS) : Option (Int32 × fS) := f_X2_isRight_b2 b1 fN (x2) ((0 : Int32)) σ
set_option maxRecDepth 100000 in
set_option maxHeartbeats 4000000 in
theorem m_X2_isRight {Γ : fGm} (hI : fI Γ) (l : Launch) {b1 : Nat} {x2 : Int32} (h1 : fD b1 = (3, 0, 0)) {σ : fS} {r : Int32} {σ' : fS} (hf : f_X2_isRight b1 x2 σ = some (r, σ')) : Met l yX2_isRight (.code yX2_isRight cX2_isRight 4 (some .boolean) :: lw_g) ({ frames := 4, cells := 0, slots := 0, locals := 99 } : Room) (fPre Γ [.ref (Γ.1 145), .ref (Γ.1 b1), .int x2] σ) (fQi Γ r σ') 0 0 (fAd Γ) := by
  refine fl_enter (own := RX2) hI (by decide +kernel) rfl (Nat.le_of_ble_eq_true rfl) ?_
  intro p e s m args below meth c ls C hl hP hS
  have hl : lv_has ls 4 [(0, .ref (Γ.1 145)), (1, .ref (Γ.1 b1)), (2, .int x2)] := hl
  obtain ⟨H, hH⟩ : ∃ H, H = s.heap := ⟨_, rfl⟩
  obtain ⟨locs, hL⟩ : ∃ L : List Loc, L = [] := ⟨_, rfl⟩
  have hP : fH Γ σ H := by rw [hH]; exact hP
  have hS : va_S (fAd Γ) s.heap H locs := by rw [hH, hL]; exact hS
  suffices hw : W p l e ({ frames := 4, cells := 0, slots := 0, locals := 99 } : Room) s m args below meth c H locs 0 0 (MQ below (fQi Γ r σ') args s 0 0 (fAd Γ)) (F0 m 0 ls []) by rw [hH, hL] at hw; exact hw
  unfold f_X2_isRight at hf
  refine lv_iconst (v := (0 : Int32)) C.1 C.2.1 (kd kX2_isRight_0 0 rfl) (by decide) ?_
  refine lv_istore_n (lv' := [(3, .int (0 : Int32)), (0, .ref (Γ.1 145)), (1, .ref (Γ.1 b1)), (2, .int x2)]) C.1 C.2.1 (kd kX2_isRight_0 1 rfl) rfl hl (Nat.le_of_ble_eq_true rfl) rfl (fun ls hl => ?_)
  exact w_X2_isRight_b2 h1 C fN (x2) ((0 : Int32)) σ H locs ls hf hP hS (lv_sub hl [1, 2, 3, 0] rfl)
def f_X2_countAllAboard_b30 (b1 : Nat) (K4 : Int32 → Int32 → fS → Option (Int32 × fS)) (v2 : Int32) (v3 : Int32) (σ : fS) : Option (Int32 × fS) := K4 (v2) ((v3 + (1 : Int32))) σ
set_option maxRecDepth 100000 in
set_option maxHeartbeats 4000000 in
theorem w_X2_countAllAboard_b30 {b1 : Nat} {r : Int32} {σ' : fS} {K4 : Int32 → Int32 → fS → Option (Int32 × fS)} (h1 : fD b1 = (3, 0, 0))  (C : fC Γ p s m args meth c cX2_countAllAboard (some .int) RX2 4) (hK4 : ∀ (v2 : Int32) (v3 : Int32) (σ : fS) (H : Heap) (locs : List Loc) (ls : Array Slot), K4 v2 v3 σ = some (r, σ') → fH Γ σ H → va_S (fAd Γ) s.heap H locs → lv_has ls 4 [(0, .ref (Γ.1 145)), (1, .ref (Γ.1 b1)), (2, .int v2), (3, .int v3)] → W p l e ({ frames := 1, cells := 0, slots := 0, locals := 20 } : Room) s m args below meth c H locs 0 0 (MQ below (fQi Γ r σ') args s 0 0 (fAd Γ)) (F0 m 4 ls [])) : ∀ (v2 : Int32) (v3 : Int32) (σ : fS) (H : Heap) (locs : List Loc) (ls : Array Slot), f_X2_countAllAboard_b30 b1 K4 v2 v3 σ = some (r, σ') → fH Γ σ H → va_S (fAd Γ) s.heap H locs → lv_has ls 4 [(0, .ref (Γ.1 145)), (1, .ref (Γ.1 b1)), (2, .int v2), (3, .int v3)] → W p l e ({ frames := 1, cells := 0, slots := 0, locals := 20 } : Room) s m args below meth c H locs 0 0 (MQ below (fQi Γ r σ') args s 0 0 (fAd Γ)) (F0 m 30 ls []) := by
  intro v2 v3 σ H locs ls hf hP hS hl
  unfold f_X2_countAllAboard_b30 at hf
  refine lv_iinc (v := (v3 + (1 : Int32))) (lv' := [(3, .int (v3 + (1 : Int32))), (0, .ref (Γ.1 145)), (1, .ref (Γ.1 b1)), (2, .int v2)]) C.1 C.2.1 (kd kX2_countAllAboard_0 16 rfl) hl (k := 3) rfl rfl (Nat.le_of_ble_eq_true rfl) rfl (fun ls hl => ?_)
  refine lv_goto (tgt := 4) C.1 C.2.1 (kd kX2_countAllAboard_0 17 rfl) (by decide) ?_
  exact hK4 (v2) ((v3 + (1 : Int32))) σ H locs ls hf hP hS (lv_sub hl [1, 2, 3, 0] rfl)
def f_X2_countAllAboard_b4 (b1 : Nat) : Nat → Int32 → Int32 → fS → Option (Int32 × fS)
  | 0, _, _, _ => none
  | n_ + 1, v2, v3, σ => fcall (f_X5_size (b1 + 7) 24 3 σ) (fun r1_ σ1 => (if r1_ ≤ v3 then some (v2, σ1) else fb v3 24 ((if (σ1 152 v3.toNatClampNeg) = (-10004 : Int32) then f_X2_countAllAboard_b30 b1 (fun v2 v3 σ => f_X2_countAllAboard_b4 b1 n_ v2 v3 σ) (v2) (v3) σ1 else f_X2_countAllAboard_b30 b1 (fun v2 v3 σ => f_X2_countAllAboard_b4 b1 n_ v2 v3 σ) ((v2 + (1 : Int32))) (v3) σ1))))
set_option maxRecDepth 100000 in
set_option maxHeartbeats 4000000 in
theorem w_X2_countAllAboard_b4 {b1 : Nat} {r : Int32} {σ' : fS} (h1 : fD b1 = (3, 0, 0))  (C : fC Γ p s m args meth c cX2_countAllAboard (some .int) RX2 4) : ∀ (n_ : Nat) (v2 : Int32) (v3 : Int32) (σ : fS) (H : Heap) (locs : List Loc) (ls : Array Slot), f_X2_countAllAboard_b4 b1 n_ v2 v3 σ = some (r, σ') → fH Γ σ H → va_S (fAd Γ) s.heap H locs → lv_has ls 4 [(0, .ref (Γ.1 145)), (1, .ref (Γ.1 b1)), (2, .int v2), (3, .int v3)] → W p l e ({ frames := 1, cells := 0, slots := 0, locals := 20 } : Room) s m args below meth c H locs 0 0 (MQ below (fQi Γ r σ') args s 0 0 (fAd Γ)) (F0 m 4 ls []) := by
  intro n_
  induction n_ with
  | zero =>
    intro v2 v3 σ H locs ls hf
    cases hf
  | succ n_ ih =>
    intro v2 v3 σ H locs ls hf hP hS hl
    have hf : fcall (f_X5_size (b1 + 7) 24 3 σ) (fun r1_ σ1 => (if r1_ ≤ v3 then some (v2, σ1) else fb v3 24 ((if (σ1 152 v3.toNatClampNeg) = (-10004 : Int32) then f_X2_countAllAboard_b30 b1 (fun v2 v3 σ => f_X2_countAllAboard_b4 b1 n_ v2 v3 σ) (v2) (v3) σ1 else f_X2_countAllAboard_b30 b1 (fun v2 v3 σ => f_X2_countAllAboard_b4 b1 n_ v2 v3 σ) ((v2 + (1 : Int32))) (v3) σ1)))) = some (r, σ') := hf
    have hK4 := ih
    refine lv_iload_n C.1 C.2.1 (kd kX2_countAllAboard_0 4 rfl) rfl (lv_at hl 3 rfl) ?_
    refine lv_aload_n C.1 C.2.1 (kd kX2_countAllAboard_0 5 rfl) rfl (lv_at hl 1 rfl) ?_
    refine fl_get (j := 3) (v := .ref (Γ.1 (b1 + 7))) C hP (fe_P h1) (fD_lt h1) rfl inX3 (Nat.le_of_ble_eq_true rfl) tw_122 rfl (kd kX2_countAllAboard_0 6 rfl) ?_
    obtain ⟨r1_, σ1, hσ1, hf⟩ := fcall_some hf
    refine fl_i hS (fl_runV (As := []) (rest := [.int v3]) C hP (fe_T (fD_prt h1).2.2.2.1) (fD_lt (fD_prt h1).2.2.2.1) rfl (m_X5_size C.2.2.2.2.2.2.2.2 l (fD_prt h1).2.2.2.1 hσ1) (fgV tw_616 tw_414 tw_415 tw_69 tw_416) hd_X5_size ⟨rfl, rfl, Nat.le_of_ble_eq_true rfl, Nat.le_of_ble_eq_true rfl⟩ rfl hl.1 rfl (Nat.le_of_ble_eq_true rfl) (kd kX2_countAllAboard_0 7 rfl)) (fun H locs hP hS => ?_)
    refine lv_icmp_ge (tgt := 36) C.1 C.2.1 (kd kX2_countAllAboard_0 8 rfl) (by decide) (fun q => ?_) (fun q => ?_)
    · have hf := fif_pos q hf
      refine lv_iload_n C.1 C.2.1 (kd kX2_countAllAboard_0 18 rfl) rfl (lv_at hl 2 rfl) ?_
      exact fl_iret C hP hS hf (kd kX2_countAllAboard_0 19 rfl)
    have hf := fif_neg q hf
    refine lv_aload_n C.1 C.2.1 (kd kX2_countAllAboard_0 9 rfl) rfl (lv_at hl 0 rfl) ?_
    refine fl_get (j := 6) (v := .ref (Γ.1 152)) C hP rfl (Nat.le_of_ble_eq_true rfl) rfl inX2 (Nat.le_of_ble_eq_true rfl) tw_212 rfl (kd kX2_countAllAboard_0 10 rfl) ?_
    refine lv_iload_n C.1 C.2.1 (kd kX2_countAllAboard_0 11 rfl) rfl (lv_at hl 3 rfl) ?_
    obtain ⟨hq, hf⟩ := fb_some hf
    refine fl_iald C hP rfl hq (kd kX2_countAllAboard_0 12 rfl) ?_
    refine lv_sipush (v := (-10004 : Int32)) C.1 C.2.1 (kd kX2_countAllAboard_0 13 rfl) (by decide) ?_
    refine lv_icmp_eq (tgt := 30) C.1 C.2.1 (kd kX2_countAllAboard_0 14 rfl) (by decide) (fun q => ?_) (fun q => ?_)
    · have hf := fif_pos q hf
      exact w_X2_countAllAboard_b30 h1 C hK4 (v2) (v3) σ1 H locs ls hf hP hS (lv_sub hl [0, 1, 2, 3] rfl)
    have hf := fif_neg q hf
    refine lv_iinc (v := (v2 + (1 : Int32))) (lv' := [(2, .int (v2 + (1 : Int32))), (0, .ref (Γ.1 145)), (1, .ref (Γ.1 b1)), (3, .int v3)]) C.1 C.2.1 (kd kX2_countAllAboard_0 15 rfl) hl (k := 2) rfl rfl (Nat.le_of_ble_eq_true rfl) rfl (fun ls hl => ?_)
    exact w_X2_countAllAboard_b30 h1 C hK4 ((v2 + (1 : Int32))) (v3) σ1 H locs ls hf hP hS (lv_sub hl [1, 2, 0, 3] rfl)
def f_X2_countAllAboard (b1 : Nat) (σ : fS) : Option (Int32 × fS) := f_X2_countAllAboard_b4 b1 fN ((0 : Int32)) ((0 : Int32)) σ
set_option maxRecDepth 100000 in
set_option maxHeartbeats 4000000 in
theorem m_X2_countAllAboard {Γ : fGm} (hI : fI Γ) (l : Launch) {b1 : Nat} (h1 : fD b1 = (3, 0, 0)) {σ : fS} {r : Int32} {σ' : fS} (hf : f_X2_countAllAboard b1 σ = some (r, σ')) : Met l yX2_countAllAboard (.code yX2_countAllAboard cX2_countAllAboard 4 (some .int) :: lw_g) ({ frames := 1, cells := 0, slots := 0, locals := 20 } : Room) (fPre Γ [.ref (Γ.1 145), .ref (Γ.1 b1)] σ) (fQi Γ r σ') 0 0 (fAd Γ) := by
  refine fl_enter (own := RX2) hI (by decide +kernel) rfl (Nat.le_of_ble_eq_true rfl) ?_
  intro p e s m args below meth c ls C hl hP hS
  have hl : lv_has ls 4 [(0, .ref (Γ.1 145)), (1, .ref (Γ.1 b1))] := hl
  obtain ⟨H, hH⟩ : ∃ H, H = s.heap := ⟨_, rfl⟩
  obtain ⟨locs, hL⟩ : ∃ L : List Loc, L = [] := ⟨_, rfl⟩
  have hP : fH Γ σ H := by rw [hH]; exact hP
  have hS : va_S (fAd Γ) s.heap H locs := by rw [hH, hL]; exact hS
  suffices hw : W p l e ({ frames := 1, cells := 0, slots := 0, locals := 20 } : Room) s m args below meth c H locs 0 0 (MQ below (fQi Γ r σ') args s 0 0 (fAd Γ)) (F0 m 0 ls []) by rw [hH, hL] at hw; exact hw
  unfold f_X2_countAllAboard at hf
  refine lv_iconst (v := (0 : Int32)) C.1 C.2.1 (kd kX2_countAllAboard_0 0 rfl) (by decide) ?_
  refine lv_istore_n (lv' := [(2, .int (0 : Int32)), (0, .ref (Γ.1 145)), (1, .ref (Γ.1 b1))]) C.1 C.2.1 (kd kX2_countAllAboard_0 1 rfl) rfl hl (Nat.le_of_ble_eq_true rfl) rfl (fun ls hl => ?_)
  refine lv_iconst (v := (0 : Int32)) C.1 C.2.1 (kd kX2_countAllAboard_0 2 rfl) (by decide) ?_
  refine lv_istore_n (lv' := [(3, .int (0 : Int32)), (2, .int (0 : Int32)), (0, .ref (Γ.1 145)), (1, .ref (Γ.1 b1))]) C.1 C.2.1 (kd kX2_countAllAboard_0 3 rfl) rfl hl (Nat.le_of_ble_eq_true rfl) rfl (fun ls hl => ?_)
  exact w_X2_countAllAboard_b4 h1 C fN ((0 : Int32)) ((0 : Int32)) σ H locs ls hf hP hS (lv_sub hl [2, 3, 1, 0] rfl)
def f_X2_sumMetersAboard_b39 (b1 : Nat) (K4 : Int32 → Int32 → fS → Option (Int32 × fS)) (v2 : Int32) (v3 : Int32) (σ : fS) : Option (Int32 × fS) := K4 (v2) ((v3 + (1 : Int32))) σ
set_option maxRecDepth 100000 in
set_option maxHeartbeats 4000000 in
theorem w_X2_sumMetersAboard_b39 {b1 : Nat} {r : Int32} {σ' : fS} {K4 : Int32 → Int32 → fS → Option (Int32 × fS)} (h1 : fD b1 = (3, 0, 0))  (C : fC Γ p s m args meth c cX2_sumMetersAboard (some .int) RX2 4) (hK4 : ∀ (v2 : Int32) (v3 : Int32) (σ : fS) (H : Heap) (locs : List Loc) (ls : Array Slot), K4 v2 v3 σ = some (r, σ') → fH Γ σ H → va_S (fAd Γ) s.heap H locs → lv_has ls 4 [(0, .ref (Γ.1 145)), (1, .ref (Γ.1 b1)), (2, .int v2), (3, .int v3)] → W p l e ({ frames := 1, cells := 0, slots := 0, locals := 22 } : Room) s m args below meth c H locs 0 0 (MQ below (fQi Γ r σ') args s 0 0 (fAd Γ)) (F0 m 4 ls [])) : ∀ (v2 : Int32) (v3 : Int32) (σ : fS) (H : Heap) (locs : List Loc) (ls : Array Slot), f_X2_sumMetersAboard_b39 b1 K4 v2 v3 σ = some (r, σ') → fH Γ σ H → va_S (fAd Γ) s.heap H locs → lv_has ls 4 [(0, .ref (Γ.1 145)), (1, .ref (Γ.1 b1)), (2, .int v2), (3, .int v3)] → W p l e ({ frames := 1, cells := 0, slots := 0, locals := 22 } : Room) s m args below meth c H locs 0 0 (MQ below (fQi Γ r σ') args s 0 0 (fAd Γ)) (F0 m 39 ls []) := by
  intro v2 v3 σ H locs ls hf hP hS hl
  unfold f_X2_sumMetersAboard_b39 at hf
  refine lv_iinc (v := (v3 + (1 : Int32))) (lv' := [(3, .int (v3 + (1 : Int32))), (0, .ref (Γ.1 145)), (1, .ref (Γ.1 b1)), (2, .int v2)]) C.1 C.2.1 (kd kX2_sumMetersAboard_0 23 rfl) hl (k := 3) rfl rfl (Nat.le_of_ble_eq_true rfl) rfl (fun ls hl => ?_)
  refine lv_goto (tgt := 4) C.1 C.2.1 (kd kX2_sumMetersAboard_0 24 rfl) (by decide) ?_
  exact hK4 (v2) ((v3 + (1 : Int32))) σ H locs ls hf hP hS (lv_sub hl [1, 2, 3, 0] rfl)
def f_X2_sumMetersAboard_b4 (b1 : Nat) : Nat → Int32 → Int32 → fS → Option (Int32 × fS)
  | 0, _, _, _ => none
  | n_ + 1, v2, v3, σ => fcall (f_X5_size (b1 + 7) 24 3 σ) (fun r1_ σ1 => (if r1_ ≤ v3 then some (v2, σ1) else fb v3 24 ((if (σ1 152 v3.toNatClampNeg) = (-10004 : Int32) then f_X2_sumMetersAboard_b39 b1 (fun v2 v3 σ => f_X2_sumMetersAboard_b4 b1 n_ v2 v3 σ) (v2) (v3) σ1 else fcall (f_X5_at (b1 + 7) 24 3 v3 (1 : Int32) σ1) (fun r2_ σ2 => f_X2_sumMetersAboard_b39 b1 (fun v2 v3 σ => f_X2_sumMetersAboard_b4 b1 n_ v2 v3 σ) ((v2 + r2_)) (v3) σ2)))))
set_option maxRecDepth 100000 in
set_option maxHeartbeats 4000000 in
theorem w_X2_sumMetersAboard_b4 {b1 : Nat} {r : Int32} {σ' : fS} (h1 : fD b1 = (3, 0, 0))  (C : fC Γ p s m args meth c cX2_sumMetersAboard (some .int) RX2 4) : ∀ (n_ : Nat) (v2 : Int32) (v3 : Int32) (σ : fS) (H : Heap) (locs : List Loc) (ls : Array Slot), f_X2_sumMetersAboard_b4 b1 n_ v2 v3 σ = some (r, σ') → fH Γ σ H → va_S (fAd Γ) s.heap H locs → lv_has ls 4 [(0, .ref (Γ.1 145)), (1, .ref (Γ.1 b1)), (2, .int v2), (3, .int v3)] → W p l e ({ frames := 1, cells := 0, slots := 0, locals := 22 } : Room) s m args below meth c H locs 0 0 (MQ below (fQi Γ r σ') args s 0 0 (fAd Γ)) (F0 m 4 ls []) := by
  intro n_
  induction n_ with
  | zero =>
    intro v2 v3 σ H locs ls hf
    cases hf
  | succ n_ ih =>
    intro v2 v3 σ H locs ls hf hP hS hl
    have hf : fcall (f_X5_size (b1 + 7) 24 3 σ) (fun r1_ σ1 => (if r1_ ≤ v3 then some (v2, σ1) else fb v3 24 ((if (σ1 152 v3.toNatClampNeg) = (-10004 : Int32) then f_X2_sumMetersAboard_b39 b1 (fun v2 v3 σ => f_X2_sumMetersAboard_b4 b1 n_ v2 v3 σ) (v2) (v3) σ1 else fcall (f_X5_at (b1 + 7) 24 3 v3 (1 : Int32) σ1) (fun r2_ σ2 => f_X2_sumMetersAboard_b39 b1 (fun v2 v3 σ => f_X2_sumMetersAboard_b4 b1 n_ v2 v3 σ) ((v2 + r2_)) (v3) σ2))))) = some (r, σ') := hf
    have hK4 := ih
    refine lv_iload_n C.1 C.2.1 (kd kX2_sumMetersAboard_0 4 rfl) rfl (lv_at hl 3 rfl) ?_
    refine lv_aload_n C.1 C.2.1 (kd kX2_sumMetersAboard_0 5 rfl) rfl (lv_at hl 1 rfl) ?_
    refine fl_get (j := 3) (v := .ref (Γ.1 (b1 + 7))) C hP (fe_P h1) (fD_lt h1) rfl inX3 (Nat.le_of_ble_eq_true rfl) tw_122 rfl (kd kX2_sumMetersAboard_0 6 rfl) ?_
    obtain ⟨r1_, σ1, hσ1, hf⟩ := fcall_some hf
    refine fl_i hS (fl_runV (As := []) (rest := [.int v3]) C hP (fe_T (fD_prt h1).2.2.2.1) (fD_lt (fD_prt h1).2.2.2.1) rfl (m_X5_size C.2.2.2.2.2.2.2.2 l (fD_prt h1).2.2.2.1 hσ1) (fgV tw_616 tw_414 tw_415 tw_69 tw_416) hd_X5_size ⟨rfl, rfl, Nat.le_of_ble_eq_true rfl, Nat.le_of_ble_eq_true rfl⟩ rfl hl.1 rfl (Nat.le_of_ble_eq_true rfl) (kd kX2_sumMetersAboard_0 7 rfl)) (fun H locs hP hS => ?_)
    refine lv_icmp_ge (tgt := 45) C.1 C.2.1 (kd kX2_sumMetersAboard_0 8 rfl) (by decide) (fun q => ?_) (fun q => ?_)
    · have hf := fif_pos q hf
      refine lv_iload_n C.1 C.2.1 (kd kX2_sumMetersAboard_0 25 rfl) rfl (lv_at hl 2 rfl) ?_
      exact fl_iret C hP hS hf (kd kX2_sumMetersAboard_0 26 rfl)
    have hf := fif_neg q hf
    refine lv_aload_n C.1 C.2.1 (kd kX2_sumMetersAboard_0 9 rfl) rfl (lv_at hl 0 rfl) ?_
    refine fl_get (j := 6) (v := .ref (Γ.1 152)) C hP rfl (Nat.le_of_ble_eq_true rfl) rfl inX2 (Nat.le_of_ble_eq_true rfl) tw_212 rfl (kd kX2_sumMetersAboard_0 10 rfl) ?_
    refine lv_iload_n C.1 C.2.1 (kd kX2_sumMetersAboard_0 11 rfl) rfl (lv_at hl 3 rfl) ?_
    obtain ⟨hq, hf⟩ := fb_some hf
    refine fl_iald C hP rfl hq (kd kX2_sumMetersAboard_0 12 rfl) ?_
    refine lv_sipush (v := (-10004 : Int32)) C.1 C.2.1 (kd kX2_sumMetersAboard_0 13 rfl) (by decide) ?_
    refine lv_icmp_eq (tgt := 39) C.1 C.2.1 (kd kX2_sumMetersAboard_0 14 rfl) (by decide) (fun q => ?_) (fun q => ?_)
    · have hf := fif_pos q hf
      exact w_X2_sumMetersAboard_b39 h1 C hK4 (v2) (v3) σ1 H locs ls hf hP hS (lv_sub hl [0, 1, 2, 3] rfl)
    have hf := fif_neg q hf
    refine lv_iload_n C.1 C.2.1 (kd kX2_sumMetersAboard_0 15 rfl) rfl (lv_at hl 2 rfl) ?_
    refine lv_aload_n C.1 C.2.1 (kd kX2_sumMetersAboard_0 16 rfl) rfl (lv_at hl 1 rfl) ?_
    refine fl_get (j := 3) (v := .ref (Γ.1 (b1 + 7))) C hP (fe_P h1) (fD_lt h1) rfl inX3 (Nat.le_of_ble_eq_true rfl) tw_122 rfl (kd kX2_sumMetersAboard_0 17 rfl) ?_
    refine lv_iload_n C.1 C.2.1 (kd kX2_sumMetersAboard_0 18 rfl) rfl (lv_at hl 3 rfl) ?_
    refine lv_iconst (v := (1 : Int32)) C.1 C.2.1 (kd kX2_sumMetersAboard_0 19 rfl) (by decide) ?_
    obtain ⟨r2_, σ2, hσ2, hf⟩ := fcall_some hf
    refine fl_i hS (fl_runV (As := [.int v3, .int (1 : Int32)]) (rest := [.int v2]) C hP (fe_T (fD_prt h1).2.2.2.1) (fD_lt (fD_prt h1).2.2.2.1) rfl (m_X5_at C.2.2.2.2.2.2.2.2 l (fD_prt h1).2.2.2.1 hσ2) (fgV tw_625 tw_418 tw_419 tw_69 tw_420) hd_X5_at ⟨rfl, rfl, Nat.le_of_ble_eq_true rfl, Nat.le_of_ble_eq_true rfl⟩ rfl hl.1 rfl (Nat.le_of_ble_eq_true rfl) (kd kX2_sumMetersAboard_0 20 rfl)) (fun H locs hP hS => ?_)
    refine lv_iadd C.1 C.2.1 (kd kX2_sumMetersAboard_0 21 rfl) ?_
    refine lv_istore_n (lv' := [(2, .int (v2 + r2_)), (0, .ref (Γ.1 145)), (1, .ref (Γ.1 b1)), (3, .int v3)]) C.1 C.2.1 (kd kX2_sumMetersAboard_0 22 rfl) rfl hl (Nat.le_of_ble_eq_true rfl) rfl (fun ls hl => ?_)
    exact w_X2_sumMetersAboard_b39 h1 C hK4 ((v2 + r2_)) (v3) σ2 H locs ls hf hP hS (lv_sub hl [1, 2, 0, 3] rfl)
def f_X2_sumMetersAboard (b1 : Nat) (σ : fS) : Option (Int32 × fS) := f_X2_sumMetersAboard_b4 b1 fN ((0 : Int32)) ((0 : Int32)) σ
set_option maxRecDepth 100000 in
set_option maxHeartbeats 4000000 in
theorem m_X2_sumMetersAboard {Γ : fGm} (hI : fI Γ) (l : Launch) {b1 : Nat} (h1 : fD b1 = (3, 0, 0)) {σ : fS} {r : Int32} {σ' : fS} (hf : f_X2_sumMetersAboard b1 σ = some (r, σ')) : Met l yX2_sumMetersAboard (.code yX2_sumMetersAboard cX2_sumMetersAboard 4 (some .int) :: lw_g) ({ frames := 1, cells := 0, slots := 0, locals := 22 } : Room) (fPre Γ [.ref (Γ.1 145), .ref (Γ.1 b1)] σ) (fQi Γ r σ') 0 0 (fAd Γ) := by
  refine fl_enter (own := RX2) hI (by decide +kernel) rfl (Nat.le_of_ble_eq_true rfl) ?_
  intro p e s m args below meth c ls C hl hP hS
  have hl : lv_has ls 4 [(0, .ref (Γ.1 145)), (1, .ref (Γ.1 b1))] := hl
  obtain ⟨H, hH⟩ : ∃ H, H = s.heap := ⟨_, rfl⟩
  obtain ⟨locs, hL⟩ : ∃ L : List Loc, L = [] := ⟨_, rfl⟩
  have hP : fH Γ σ H := by rw [hH]; exact hP
  have hS : va_S (fAd Γ) s.heap H locs := by rw [hH, hL]; exact hS
  suffices hw : W p l e ({ frames := 1, cells := 0, slots := 0, locals := 22 } : Room) s m args below meth c H locs 0 0 (MQ below (fQi Γ r σ') args s 0 0 (fAd Γ)) (F0 m 0 ls []) by rw [hH, hL] at hw; exact hw
  unfold f_X2_sumMetersAboard at hf
  refine lv_iconst (v := (0 : Int32)) C.1 C.2.1 (kd kX2_sumMetersAboard_0 0 rfl) (by decide) ?_
  refine lv_istore_n (lv' := [(2, .int (0 : Int32)), (0, .ref (Γ.1 145)), (1, .ref (Γ.1 b1))]) C.1 C.2.1 (kd kX2_sumMetersAboard_0 1 rfl) rfl hl (Nat.le_of_ble_eq_true rfl) rfl (fun ls hl => ?_)
  refine lv_iconst (v := (0 : Int32)) C.1 C.2.1 (kd kX2_sumMetersAboard_0 2 rfl) (by decide) ?_
  refine lv_istore_n (lv' := [(3, .int (0 : Int32)), (2, .int (0 : Int32)), (0, .ref (Γ.1 145)), (1, .ref (Γ.1 b1))]) C.1 C.2.1 (kd kX2_sumMetersAboard_0 3 rfl) rfl hl (Nat.le_of_ble_eq_true rfl) rfl (fun ls hl => ?_)
  exact w_X2_sumMetersAboard_b4 h1 C fN ((0 : Int32)) ((0 : Int32)) σ H locs ls hf hP hS (lv_sub hl [2, 3, 1, 0] rfl)
def f_X2_sumShifts_b4 (b1 : Nat) : Nat → Int32 → Int32 → fS → Option (Int32 × fS)
  | 0, _, _, _ => none
  | n_ + 1, v2, v3, σ => fcall (f_X5_size (b1 + 7) 24 3 σ) (fun r1_ σ1 => (if r1_ ≤ v3 then some (v2, σ1) else fb v3 24 ((fun v2 v3 σ => f_X2_sumShifts_b4 b1 n_ v2 v3 σ) ((v2 + (σ1 155 v3.toNatClampNeg))) ((v3 + (1 : Int32))) σ1)))
set_option maxRecDepth 100000 in
set_option maxHeartbeats 4000000 in
theorem w_X2_sumShifts_b4 {b1 : Nat} {r : Int32} {σ' : fS} (h1 : fD b1 = (3, 0, 0))  (C : fC Γ p s m args meth c cX2_sumShifts (some .int) RX2 4) : ∀ (n_ : Nat) (v2 : Int32) (v3 : Int32) (σ : fS) (H : Heap) (locs : List Loc) (ls : Array Slot), f_X2_sumShifts_b4 b1 n_ v2 v3 σ = some (r, σ') → fH Γ σ H → va_S (fAd Γ) s.heap H locs → lv_has ls 4 [(0, .ref (Γ.1 145)), (1, .ref (Γ.1 b1)), (2, .int v2), (3, .int v3)] → W p l e ({ frames := 1, cells := 0, slots := 0, locals := 20 } : Room) s m args below meth c H locs 0 0 (MQ below (fQi Γ r σ') args s 0 0 (fAd Γ)) (F0 m 4 ls []) := by
  intro n_
  induction n_ with
  | zero =>
    intro v2 v3 σ H locs ls hf
    cases hf
  | succ n_ ih =>
    intro v2 v3 σ H locs ls hf hP hS hl
    have hf : fcall (f_X5_size (b1 + 7) 24 3 σ) (fun r1_ σ1 => (if r1_ ≤ v3 then some (v2, σ1) else fb v3 24 ((fun v2 v3 σ => f_X2_sumShifts_b4 b1 n_ v2 v3 σ) ((v2 + (σ1 155 v3.toNatClampNeg))) ((v3 + (1 : Int32))) σ1))) = some (r, σ') := hf
    have hK4 := ih
    refine lv_iload_n C.1 C.2.1 (kd kX2_sumShifts_0 4 rfl) rfl (lv_at hl 3 rfl) ?_
    refine lv_aload_n C.1 C.2.1 (kd kX2_sumShifts_0 5 rfl) rfl (lv_at hl 1 rfl) ?_
    refine fl_get (j := 3) (v := .ref (Γ.1 (b1 + 7))) C hP (fe_P h1) (fD_lt h1) rfl inX3 (Nat.le_of_ble_eq_true rfl) tw_122 rfl (kd kX2_sumShifts_0 6 rfl) ?_
    obtain ⟨r1_, σ1, hσ1, hf⟩ := fcall_some hf
    refine fl_i hS (fl_runV (As := []) (rest := [.int v3]) C hP (fe_T (fD_prt h1).2.2.2.1) (fD_lt (fD_prt h1).2.2.2.1) rfl (m_X5_size C.2.2.2.2.2.2.2.2 l (fD_prt h1).2.2.2.1 hσ1) (fgV tw_616 tw_414 tw_415 tw_69 tw_416) hd_X5_size ⟨rfl, rfl, Nat.le_of_ble_eq_true rfl, Nat.le_of_ble_eq_true rfl⟩ rfl hl.1 rfl (Nat.le_of_ble_eq_true rfl) (kd kX2_sumShifts_0 7 rfl)) (fun H locs hP hS => ?_)
    refine lv_icmp_ge (tgt := 30) C.1 C.2.1 (kd kX2_sumShifts_0 8 rfl) (by decide) (fun q => ?_) (fun q => ?_)
    · have hf := fif_pos q hf
      refine lv_iload_n C.1 C.2.1 (kd kX2_sumShifts_0 18 rfl) rfl (lv_at hl 2 rfl) ?_
      exact fl_iret C hP hS hf (kd kX2_sumShifts_0 19 rfl)
    have hf := fif_neg q hf
    refine lv_iload_n C.1 C.2.1 (kd kX2_sumShifts_0 9 rfl) rfl (lv_at hl 2 rfl) ?_
    refine lv_aload_n C.1 C.2.1 (kd kX2_sumShifts_0 10 rfl) rfl (lv_at hl 0 rfl) ?_
    refine fl_get (j := 9) (v := .ref (Γ.1 155)) C hP rfl (Nat.le_of_ble_eq_true rfl) rfl inX2 (Nat.le_of_ble_eq_true rfl) tw_215 rfl (kd kX2_sumShifts_0 11 rfl) ?_
    refine lv_iload_n C.1 C.2.1 (kd kX2_sumShifts_0 12 rfl) rfl (lv_at hl 3 rfl) ?_
    obtain ⟨hq, hf⟩ := fb_some hf
    refine fl_iald C hP rfl hq (kd kX2_sumShifts_0 13 rfl) ?_
    refine lv_iadd C.1 C.2.1 (kd kX2_sumShifts_0 14 rfl) ?_
    refine lv_istore_n (lv' := [(2, .int (v2 + (σ1 155 v3.toNatClampNeg))), (0, .ref (Γ.1 145)), (1, .ref (Γ.1 b1)), (3, .int v3)]) C.1 C.2.1 (kd kX2_sumShifts_0 15 rfl) rfl hl (Nat.le_of_ble_eq_true rfl) rfl (fun ls hl => ?_)
    refine lv_iinc (v := (v3 + (1 : Int32))) (lv' := [(3, .int (v3 + (1 : Int32))), (2, .int (v2 + (σ1 155 v3.toNatClampNeg))), (0, .ref (Γ.1 145)), (1, .ref (Γ.1 b1))]) C.1 C.2.1 (kd kX2_sumShifts_0 16 rfl) hl (k := 3) rfl rfl (Nat.le_of_ble_eq_true rfl) rfl (fun ls hl => ?_)
    refine lv_goto (tgt := 4) C.1 C.2.1 (kd kX2_sumShifts_0 17 rfl) (by decide) ?_
    exact hK4 ((v2 + (σ1 155 v3.toNatClampNeg))) ((v3 + (1 : Int32))) σ1 H locs ls hf hP hS (lv_sub hl [2, 3, 1, 0] rfl)
def f_X2_sumShifts (b1 : Nat) (σ : fS) : Option (Int32 × fS) := f_X2_sumShifts_b4 b1 fN ((0 : Int32)) ((0 : Int32)) σ
set_option maxRecDepth 100000 in
set_option maxHeartbeats 4000000 in
theorem m_X2_sumShifts {Γ : fGm} (hI : fI Γ) (l : Launch) {b1 : Nat} (h1 : fD b1 = (3, 0, 0)) {σ : fS} {r : Int32} {σ' : fS} (hf : f_X2_sumShifts b1 σ = some (r, σ')) : Met l yX2_sumShifts (.code yX2_sumShifts cX2_sumShifts 4 (some .int) :: lw_g) ({ frames := 1, cells := 0, slots := 0, locals := 20 } : Room) (fPre Γ [.ref (Γ.1 145), .ref (Γ.1 b1)] σ) (fQi Γ r σ') 0 0 (fAd Γ) := by
  refine fl_enter (own := RX2) hI (by decide +kernel) rfl (Nat.le_of_ble_eq_true rfl) ?_
  intro p e s m args below meth c ls C hl hP hS
  have hl : lv_has ls 4 [(0, .ref (Γ.1 145)), (1, .ref (Γ.1 b1))] := hl
  obtain ⟨H, hH⟩ : ∃ H, H = s.heap := ⟨_, rfl⟩
  obtain ⟨locs, hL⟩ : ∃ L : List Loc, L = [] := ⟨_, rfl⟩
  have hP : fH Γ σ H := by rw [hH]; exact hP
  have hS : va_S (fAd Γ) s.heap H locs := by rw [hH, hL]; exact hS
  suffices hw : W p l e ({ frames := 1, cells := 0, slots := 0, locals := 20 } : Room) s m args below meth c H locs 0 0 (MQ below (fQi Γ r σ') args s 0 0 (fAd Γ)) (F0 m 0 ls []) by rw [hH, hL] at hw; exact hw
  unfold f_X2_sumShifts at hf
  refine lv_iconst (v := (0 : Int32)) C.1 C.2.1 (kd kX2_sumShifts_0 0 rfl) (by decide) ?_
  refine lv_istore_n (lv' := [(2, .int (0 : Int32)), (0, .ref (Γ.1 145)), (1, .ref (Γ.1 b1))]) C.1 C.2.1 (kd kX2_sumShifts_0 1 rfl) rfl hl (Nat.le_of_ble_eq_true rfl) rfl (fun ls hl => ?_)
  refine lv_iconst (v := (0 : Int32)) C.1 C.2.1 (kd kX2_sumShifts_0 2 rfl) (by decide) ?_
  refine lv_istore_n (lv' := [(3, .int (0 : Int32)), (2, .int (0 : Int32)), (0, .ref (Γ.1 145)), (1, .ref (Γ.1 b1))]) C.1 C.2.1 (kd kX2_sumShifts_0 3 rfl) rfl hl (Nat.le_of_ble_eq_true rfl) rfl (fun ls hl => ?_)
  exact w_X2_sumShifts_b4 h1 C fN ((0 : Int32)) ((0 : Int32)) σ H locs ls hf hP hS (lv_sub hl [2, 3, 1, 0] rfl)
end GM
